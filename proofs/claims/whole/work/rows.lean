section
-- ===== PART A: goes FIRST, ahead of the names: the tables' words, and 'selects' of the private methods out of them =====
/-- a private method of a class that the tables say can be made, by its rows of tables_1 -/
def lw_okq (q : MethodName × Nat) : Prop := (q.1.cls ≠ "java/lang/invoke/MethodHandle" ∧ q.1.cls ≠ "java/lang/invoke/VarHandle") ∧ Cond.instantiable q.1.cls q.2 ∈ tables_1 ∧ Cond.privateMethod q.1 ∈ tables_1 ∧ Cond.instanceMethod q.1 ∈ tables_1
theorem lw_p0 : lw_okq (⟨"OctagonYard$Octagon", "clearReach", "()V"⟩, 5) := ⟨⟨by decide +kernel, by decide +kernel⟩, List.mem_of_getElem? (i := 155) (by decide +kernel), List.mem_of_getElem? (i := 211) (by decide +kernel), List.mem_of_getElem? (i := 212) (by decide +kernel)⟩
theorem lw_p1 : lw_okq (⟨"OctagonYard$Octagon", "stretch", "(II)V"⟩, 5) := ⟨⟨by decide +kernel, by decide +kernel⟩, List.mem_of_getElem? (i := 155) (by decide +kernel), List.mem_of_getElem? (i := 219) (by decide +kernel), List.mem_of_getElem? (i := 220) (by decide +kernel)⟩
theorem lw_p2 : lw_okq (⟨"OctagonYard$Octagon", "settle", "()V"⟩, 5) := ⟨⟨by decide +kernel, by decide +kernel⟩, List.mem_of_getElem? (i := 155) (by decide +kernel), List.mem_of_getElem? (i := 233) (by decide +kernel), List.mem_of_getElem? (i := 234) (by decide +kernel)⟩
theorem lw_p3 : lw_okq (⟨"OctagonYard$Octagon", "crossX", "(II)I"⟩, 5) := ⟨⟨by decide +kernel, by decide +kernel⟩, List.mem_of_getElem? (i := 155) (by decide +kernel), List.mem_of_getElem? (i := 239) (by decide +kernel), List.mem_of_getElem? (i := 240) (by decide +kernel)⟩
theorem lw_p4 : lw_okq (⟨"OctagonYard$Octagon", "crossY", "(II)I"⟩, 5) := ⟨⟨by decide +kernel, by decide +kernel⟩, List.mem_of_getElem? (i := 155) (by decide +kernel), List.mem_of_getElem? (i := 244) (by decide +kernel), List.mem_of_getElem? (i := 245) (by decide +kernel)⟩
theorem lw_p5 : lw_okq (⟨"OctagonYard$Octagon", "following", "(I)I"⟩, 5) := ⟨⟨by decide +kernel, by decide +kernel⟩, List.mem_of_getElem? (i := 155) (by decide +kernel), List.mem_of_getElem? (i := 253) (by decide +kernel), List.mem_of_getElem? (i := 254) (by decide +kernel)⟩
theorem lw_p6 : lw_okq (⟨"OctagonYard$Octagon", "kindOfFour", "()I"⟩, 5) := ⟨⟨by decide +kernel, by decide +kernel⟩, List.mem_of_getElem? (i := 155) (by decide +kernel), List.mem_of_getElem? (i := 343) (by decide +kernel), List.mem_of_getElem? (i := 344) (by decide +kernel)⟩
theorem lw_p7 : lw_okq (⟨"OctagonYard$Stock", "cameAsBlock", "(I)Z"⟩, 3) := ⟨⟨by decide +kernel, by decide +kernel⟩, List.mem_of_getElem? (i := 23) (by decide +kernel), List.mem_of_getElem? (i := 392) (by decide +kernel), List.mem_of_getElem? (i := 393) (by decide +kernel)⟩
theorem lw_p8 : lw_okq (⟨"OctagonYard$Octagon", "sideOf", "(I)I"⟩, 5) := ⟨⟨by decide +kernel, by decide +kernel⟩, List.mem_of_getElem? (i := 155) (by decide +kernel), List.mem_of_getElem? (i := 414) (by decide +kernel), List.mem_of_getElem? (i := 415) (by decide +kernel)⟩
theorem lw_p9 : lw_okq (⟨"OctagonYard$Octagon", "lowEnd", "(I)I"⟩, 5) := ⟨⟨by decide +kernel, by decide +kernel⟩, List.mem_of_getElem? (i := 155) (by decide +kernel), List.mem_of_getElem? (i := 418) (by decide +kernel), List.mem_of_getElem? (i := 419) (by decide +kernel)⟩
theorem lw_p10 : lw_okq (⟨"OctagonYard$Octagon", "alongSide", "(II)I"⟩, 5) := ⟨⟨by decide +kernel, by decide +kernel⟩, List.mem_of_getElem? (i := 155) (by decide +kernel), List.mem_of_getElem? (i := 422) (by decide +kernel), List.mem_of_getElem? (i := 423) (by decide +kernel)⟩
theorem lw_p11 : lw_okq (⟨"OctagonYard$Octagon", "highEnd", "(I)I"⟩, 5) := ⟨⟨by decide +kernel, by decide +kernel⟩, List.mem_of_getElem? (i := 155) (by decide +kernel), List.mem_of_getElem? (i := 427) (by decide +kernel), List.mem_of_getElem? (i := 428) (by decide +kernel)⟩
theorem lw_p12 : lw_okq (⟨"OctagonYard$Rules", "rankAfter", "(III)I"⟩, 6) := ⟨⟨by decide +kernel, by decide +kernel⟩, List.mem_of_getElem? (i := 67) (by decide +kernel), List.mem_of_getElem? (i := 464) (by decide +kernel), List.mem_of_getElem? (i := 465) (by decide +kernel)⟩
theorem lw_p13 : lw_okq (⟨"OctagonYard$Rules", "counts", "(III)Z"⟩, 6) := ⟨⟨by decide +kernel, by decide +kernel⟩, List.mem_of_getElem? (i := 67) (by decide +kernel), List.mem_of_getElem? (i := 468) (by decide +kernel), List.mem_of_getElem? (i := 469) (by decide +kernel)⟩
theorem lw_p14 : lw_okq (⟨"OctagonYard$Rules", "rankOf", "(III)I"⟩, 6) := ⟨⟨by decide +kernel, by decide +kernel⟩, List.mem_of_getElem? (i := 67) (by decide +kernel), List.mem_of_getElem? (i := 476) (by decide +kernel), List.mem_of_getElem? (i := 477) (by decide +kernel)⟩
theorem lw_p15 : lw_okq (⟨"OctagonYard$Rules", "numberOf", "(I)I"⟩, 6) := ⟨⟨by decide +kernel, by decide +kernel⟩, List.mem_of_getElem? (i := 67) (by decide +kernel), List.mem_of_getElem? (i := 480) (by decide +kernel), List.mem_of_getElem? (i := 481) (by decide +kernel)⟩
def lw_privs_1 : List (MethodName × Nat) := [(⟨"OctagonYard$Octagon", "clearReach", "()V"⟩, 5), (⟨"OctagonYard$Octagon", "stretch", "(II)V"⟩, 5), (⟨"OctagonYard$Octagon", "settle", "()V"⟩, 5), (⟨"OctagonYard$Octagon", "crossX", "(II)I"⟩, 5), (⟨"OctagonYard$Octagon", "crossY", "(II)I"⟩, 5), (⟨"OctagonYard$Octagon", "following", "(I)I"⟩, 5), (⟨"OctagonYard$Octagon", "kindOfFour", "()I"⟩, 5), (⟨"OctagonYard$Stock", "cameAsBlock", "(I)Z"⟩, 3), (⟨"OctagonYard$Octagon", "sideOf", "(I)I"⟩, 5), (⟨"OctagonYard$Octagon", "lowEnd", "(I)I"⟩, 5), (⟨"OctagonYard$Octagon", "alongSide", "(II)I"⟩, 5), (⟨"OctagonYard$Octagon", "highEnd", "(I)I"⟩, 5), (⟨"OctagonYard$Rules", "rankAfter", "(III)I"⟩, 6), (⟨"OctagonYard$Rules", "counts", "(III)Z"⟩, 6), (⟨"OctagonYard$Rules", "rankOf", "(III)I"⟩, 6), (⟨"OctagonYard$Rules", "numberOf", "(I)I"⟩, 6)]
theorem lw_r1 : ∀ q ∈ lw_privs_1, lw_okq q := List.forall_mem_cons.mpr ⟨lw_p0, List.forall_mem_cons.mpr ⟨lw_p1, List.forall_mem_cons.mpr ⟨lw_p2, List.forall_mem_cons.mpr ⟨lw_p3, List.forall_mem_cons.mpr ⟨lw_p4, List.forall_mem_cons.mpr ⟨lw_p5, List.forall_mem_cons.mpr ⟨lw_p6, List.forall_mem_cons.mpr ⟨lw_p7, List.forall_mem_cons.mpr ⟨lw_p8, List.forall_mem_cons.mpr ⟨lw_p9, List.forall_mem_cons.mpr ⟨lw_p10, List.forall_mem_cons.mpr ⟨lw_p11, List.forall_mem_cons.mpr ⟨lw_p12, List.forall_mem_cons.mpr ⟨lw_p13, List.forall_mem_cons.mpr ⟨lw_p14, List.forall_mem_cons.mpr ⟨lw_p15, fun _ h => absurd h List.not_mem_nil⟩⟩⟩⟩⟩⟩⟩⟩⟩⟩⟩⟩⟩⟩⟩⟩
theorem lw_p16 : lw_okq (⟨"OctagonYard$Assemblies", "isWithin", "(II)Z"⟩, 5) := ⟨⟨by decide +kernel, by decide +kernel⟩, List.mem_of_getElem? (i := 94) (by decide +kernel), List.mem_of_getElem? (i := 550) (by decide +kernel), List.mem_of_getElem? (i := 551) (by decide +kernel)⟩
theorem lw_p17 : lw_okq (⟨"OctagonYard$Assemblies", "hasRoom", "(II)Z"⟩, 5) := ⟨⟨by decide +kernel, by decide +kernel⟩, List.mem_of_getElem? (i := 94) (by decide +kernel), List.mem_of_getElem? (i := 554) (by decide +kernel), List.mem_of_getElem? (i := 555) (by decide +kernel)⟩
theorem lw_p18 : lw_okq (⟨"OctagonYard$Assemblies", "gainOfParts", "(LOctagonYard$Assembly;)I"⟩, 5) := ⟨⟨by decide +kernel, by decide +kernel⟩, List.mem_of_getElem? (i := 94) (by decide +kernel), List.mem_of_getElem? (i := 564) (by decide +kernel), List.mem_of_getElem? (i := 565) (by decide +kernel)⟩
theorem lw_p19 : lw_okq (⟨"OctagonYard$Assemblies", "append", "(IIZ)I"⟩, 5) := ⟨⟨by decide +kernel, by decide +kernel⟩, List.mem_of_getElem? (i := 94) (by decide +kernel), List.mem_of_getElem? (i := 568) (by decide +kernel), List.mem_of_getElem? (i := 569) (by decide +kernel)⟩
theorem lw_p20 : lw_okq (⟨"OctagonYard$Assemblies", "gatherDown", "(II)V"⟩, 5) := ⟨⟨by decide +kernel, by decide +kernel⟩, List.mem_of_getElem? (i := 94) (by decide +kernel), List.mem_of_getElem? (i := 588) (by decide +kernel), List.mem_of_getElem? (i := 589) (by decide +kernel)⟩
theorem lw_p21 : lw_okq (⟨"OctagonYardModel", "stands", "(I)Z"⟩, 49) := ⟨⟨by decide +kernel, by decide +kernel⟩, List.mem_of_getElem? (i := 658) (by decide +kernel), List.mem_of_getElem? (i := 826) (by decide +kernel), List.mem_of_getElem? (i := 827) (by decide +kernel)⟩
theorem lw_p22 : lw_okq (⟨"OctagonYardModel", "keep", "(II)V"⟩, 49) := ⟨⟨by decide +kernel, by decide +kernel⟩, List.mem_of_getElem? (i := 658) (by decide +kernel), List.mem_of_getElem? (i := 835) (by decide +kernel), List.mem_of_getElem? (i := 836) (by decide +kernel)⟩
theorem lw_p23 : lw_okq (⟨"OctagonYardModel", "keeps", "(I)V"⟩, 49) := ⟨⟨by decide +kernel, by decide +kernel⟩, List.mem_of_getElem? (i := 658) (by decide +kernel), List.mem_of_getElem? (i := 839) (by decide +kernel), List.mem_of_getElem? (i := 840) (by decide +kernel)⟩
theorem lw_p24 : lw_okq (⟨"OctagonYardModel", "findPoints", "()V"⟩, 49) := ⟨⟨by decide +kernel, by decide +kernel⟩, List.mem_of_getElem? (i := 658) (by decide +kernel), List.mem_of_getElem? (i := 843) (by decide +kernel), List.mem_of_getElem? (i := 844) (by decide +kernel)⟩
theorem lw_p25 : lw_okq (⟨"OctagonYardModel", "point", "(II)V"⟩, 49) := ⟨⟨by decide +kernel, by decide +kernel⟩, List.mem_of_getElem? (i := 658) (by decide +kernel), List.mem_of_getElem? (i := 847) (by decide +kernel), List.mem_of_getElem? (i := 848) (by decide +kernel)⟩
theorem lw_p26 : lw_okq (⟨"OctagonYardModel", "isLet", "(II)Z"⟩, 49) := ⟨⟨by decide +kernel, by decide +kernel⟩, List.mem_of_getElem? (i := 658) (by decide +kernel), List.mem_of_getElem? (i := 851) (by decide +kernel), List.mem_of_getElem? (i := 852) (by decide +kernel)⟩
theorem lw_p27 : lw_okq (⟨"OctagonYardModel", "most", "(I)I"⟩, 49) := ⟨⟨by decide +kernel, by decide +kernel⟩, List.mem_of_getElem? (i := 658) (by decide +kernel), List.mem_of_getElem? (i := 855) (by decide +kernel), List.mem_of_getElem? (i := 856) (by decide +kernel)⟩
theorem lw_p28 : lw_okq (⟨"OctagonYardModel", "isPiece", "(I)Z"⟩, 49) := ⟨⟨by decide +kernel, by decide +kernel⟩, List.mem_of_getElem? (i := 658) (by decide +kernel), List.mem_of_getElem? (i := 866) (by decide +kernel), List.mem_of_getElem? (i := 867) (by decide +kernel)⟩
theorem lw_p29 : lw_okq (⟨"OctagonYardModel", "takes", "(I)V"⟩, 49) := ⟨⟨by decide +kernel, by decide +kernel⟩, List.mem_of_getElem? (i := 658) (by decide +kernel), List.mem_of_getElem? (i := 873) (by decide +kernel), List.mem_of_getElem? (i := 874) (by decide +kernel)⟩
theorem lw_p30 : lw_okq (⟨"OctagonYardModel", "findSides", "()V"⟩, 49) := ⟨⟨by decide +kernel, by decide +kernel⟩, List.mem_of_getElem? (i := 658) (by decide +kernel), List.mem_of_getElem? (i := 877) (by decide +kernel), List.mem_of_getElem? (i := 878) (by decide +kernel)⟩
theorem lw_p31 : lw_okq (⟨"OctagonYardModel", "findSide", "(I)V"⟩, 49) := ⟨⟨by decide +kernel, by decide +kernel⟩, List.mem_of_getElem? (i := 658) (by decide +kernel), List.mem_of_getElem? (i := 881) (by decide +kernel), List.mem_of_getElem? (i := 882) (by decide +kernel)⟩
def lw_privs_2 : List (MethodName × Nat) := [(⟨"OctagonYard$Assemblies", "isWithin", "(II)Z"⟩, 5), (⟨"OctagonYard$Assemblies", "hasRoom", "(II)Z"⟩, 5), (⟨"OctagonYard$Assemblies", "gainOfParts", "(LOctagonYard$Assembly;)I"⟩, 5), (⟨"OctagonYard$Assemblies", "append", "(IIZ)I"⟩, 5), (⟨"OctagonYard$Assemblies", "gatherDown", "(II)V"⟩, 5), (⟨"OctagonYardModel", "stands", "(I)Z"⟩, 49), (⟨"OctagonYardModel", "keep", "(II)V"⟩, 49), (⟨"OctagonYardModel", "keeps", "(I)V"⟩, 49), (⟨"OctagonYardModel", "findPoints", "()V"⟩, 49), (⟨"OctagonYardModel", "point", "(II)V"⟩, 49), (⟨"OctagonYardModel", "isLet", "(II)Z"⟩, 49), (⟨"OctagonYardModel", "most", "(I)I"⟩, 49), (⟨"OctagonYardModel", "isPiece", "(I)Z"⟩, 49), (⟨"OctagonYardModel", "takes", "(I)V"⟩, 49), (⟨"OctagonYardModel", "findSides", "()V"⟩, 49), (⟨"OctagonYardModel", "findSide", "(I)V"⟩, 49)]
theorem lw_r2 : ∀ q ∈ lw_privs_2, lw_okq q := List.forall_mem_cons.mpr ⟨lw_p16, List.forall_mem_cons.mpr ⟨lw_p17, List.forall_mem_cons.mpr ⟨lw_p18, List.forall_mem_cons.mpr ⟨lw_p19, List.forall_mem_cons.mpr ⟨lw_p20, List.forall_mem_cons.mpr ⟨lw_p21, List.forall_mem_cons.mpr ⟨lw_p22, List.forall_mem_cons.mpr ⟨lw_p23, List.forall_mem_cons.mpr ⟨lw_p24, List.forall_mem_cons.mpr ⟨lw_p25, List.forall_mem_cons.mpr ⟨lw_p26, List.forall_mem_cons.mpr ⟨lw_p27, List.forall_mem_cons.mpr ⟨lw_p28, List.forall_mem_cons.mpr ⟨lw_p29, List.forall_mem_cons.mpr ⟨lw_p30, List.forall_mem_cons.mpr ⟨lw_p31, fun _ h => absurd h List.not_mem_nil⟩⟩⟩⟩⟩⟩⟩⟩⟩⟩⟩⟩⟩⟩⟩⟩
theorem lw_p32 : lw_okq (⟨"OctagonYardModel", "turnRows", "()V"⟩, 49) := ⟨⟨by decide +kernel, by decide +kernel⟩, List.mem_of_getElem? (i := 658) (by decide +kernel), List.mem_of_getElem? (i := 885) (by decide +kernel), List.mem_of_getElem? (i := 886) (by decide +kernel)⟩
theorem lw_p33 : lw_okq (⟨"OctagonYardModel", "kindNow", "()I"⟩, 49) := ⟨⟨by decide +kernel, by decide +kernel⟩, List.mem_of_getElem? (i := 658) (by decide +kernel), List.mem_of_getElem? (i := 913) (by decide +kernel), List.mem_of_getElem? (i := 914) (by decide +kernel)⟩
theorem lw_p34 : lw_okq (⟨"OctagonYardModel", "areaNow", "()I"⟩, 49) := ⟨⟨by decide +kernel, by decide +kernel⟩, List.mem_of_getElem? (i := 658) (by decide +kernel), List.mem_of_getElem? (i := 932) (by decide +kernel), List.mem_of_getElem? (i := 933) (by decide +kernel)⟩
theorem lw_p35 : lw_okq (⟨"OctagonYardModel", "areTwo", "(II)Z"⟩, 49) := ⟨⟨by decide +kernel, by decide +kernel⟩, List.mem_of_getElem? (i := 658) (by decide +kernel), List.mem_of_getElem? (i := 956) (by decide +kernel), List.mem_of_getElem? (i := 957) (by decide +kernel)⟩
theorem lw_p36 : lw_okq (⟨"OctagonYardModel", "nearness", "(II)I"⟩, 49) := ⟨⟨by decide +kernel, by decide +kernel⟩, List.mem_of_getElem? (i := 658) (by decide +kernel), List.mem_of_getElem? (i := 960) (by decide +kernel), List.mem_of_getElem? (i := 961) (by decide +kernel)⟩
theorem lw_p37 : lw_okq (⟨"OctagonYardModel", "overlaps", "(II)Z"⟩, 49) := ⟨⟨by decide +kernel, by decide +kernel⟩, List.mem_of_getElem? (i := 658) (by decide +kernel), List.mem_of_getElem? (i := 964) (by decide +kernel), List.mem_of_getElem? (i := 965) (by decide +kernel)⟩
theorem lw_p38 : lw_okq (⟨"OctagonYardModel", "keepsSides", "()V"⟩, 49) := ⟨⟨by decide +kernel, by decide +kernel⟩, List.mem_of_getElem? (i := 658) (by decide +kernel), List.mem_of_getElem? (i := 968) (by decide +kernel), List.mem_of_getElem? (i := 969) (by decide +kernel)⟩
theorem lw_p39 : lw_okq (⟨"OctagonYardModel", "shared", "(II)I"⟩, 49) := ⟨⟨by decide +kernel, by decide +kernel⟩, List.mem_of_getElem? (i := 658) (by decide +kernel), List.mem_of_getElem? (i := 972) (by decide +kernel), List.mem_of_getElem? (i := 973) (by decide +kernel)⟩
theorem lw_p40 : lw_okq (⟨"OctagonYardModel", "nth", "(III)I"⟩, 49) := ⟨⟨by decide +kernel, by decide +kernel⟩, List.mem_of_getElem? (i := 658) (by decide +kernel), List.mem_of_getElem? (i := 993) (by decide +kernel), List.mem_of_getElem? (i := 994) (by decide +kernel)⟩
theorem lw_p41 : lw_okq (⟨"OctagonYardModel", "rank", "(III)I"⟩, 49) := ⟨⟨by decide +kernel, by decide +kernel⟩, List.mem_of_getElem? (i := 658) (by decide +kernel), List.mem_of_getElem? (i := 997) (by decide +kernel), List.mem_of_getElem? (i := 998) (by decide +kernel)⟩
theorem lw_p42 : lw_okq (⟨"OctagonYardModel", "treating", "(II)I"⟩, 49) := ⟨⟨by decide +kernel, by decide +kernel⟩, List.mem_of_getElem? (i := 658) (by decide +kernel), List.mem_of_getElem? (i := 1008) (by decide +kernel), List.mem_of_getElem? (i := 1009) (by decide +kernel)⟩
theorem lw_p43 : lw_okq (⟨"OctagonYardModel", "kindOf", "(I)I"⟩, 49) := ⟨⟨by decide +kernel, by decide +kernel⟩, List.mem_of_getElem? (i := 658) (by decide +kernel), List.mem_of_getElem? (i := 1020) (by decide +kernel), List.mem_of_getElem? (i := 1021) (by decide +kernel)⟩
theorem lw_p44 : lw_okq (⟨"OctagonYardModel", "isAssembly", "(I)Z"⟩, 49) := ⟨⟨by decide +kernel, by decide +kernel⟩, List.mem_of_getElem? (i := 658) (by decide +kernel), List.mem_of_getElem? (i := 1032) (by decide +kernel), List.mem_of_getElem? (i := 1033) (by decide +kernel)⟩
theorem lw_p45 : lw_okq (⟨"OctagonYardModel", "isWithin", "(II)Z"⟩, 49) := ⟨⟨by decide +kernel, by decide +kernel⟩, List.mem_of_getElem? (i := 658) (by decide +kernel), List.mem_of_getElem? (i := 1036) (by decide +kernel), List.mem_of_getElem? (i := 1037) (by decide +kernel)⟩
theorem lw_p46 : lw_okq (⟨"OctagonYardModel", "countWalks", "()I"⟩, 49) := ⟨⟨by decide +kernel, by decide +kernel⟩, List.mem_of_getElem? (i := 658) (by decide +kernel), List.mem_of_getElem? (i := 1040) (by decide +kernel), List.mem_of_getElem? (i := 1041) (by decide +kernel)⟩
theorem lw_p47 : lw_okq (⟨"OctagonYardModel", "walkedAt", "(II)I"⟩, 49) := ⟨⟨by decide +kernel, by decide +kernel⟩, List.mem_of_getElem? (i := 658) (by decide +kernel), List.mem_of_getElem? (i := 1053) (by decide +kernel), List.mem_of_getElem? (i := 1054) (by decide +kernel)⟩
def lw_privs_3 : List (MethodName × Nat) := [(⟨"OctagonYardModel", "turnRows", "()V"⟩, 49), (⟨"OctagonYardModel", "kindNow", "()I"⟩, 49), (⟨"OctagonYardModel", "areaNow", "()I"⟩, 49), (⟨"OctagonYardModel", "areTwo", "(II)Z"⟩, 49), (⟨"OctagonYardModel", "nearness", "(II)I"⟩, 49), (⟨"OctagonYardModel", "overlaps", "(II)Z"⟩, 49), (⟨"OctagonYardModel", "keepsSides", "()V"⟩, 49), (⟨"OctagonYardModel", "shared", "(II)I"⟩, 49), (⟨"OctagonYardModel", "nth", "(III)I"⟩, 49), (⟨"OctagonYardModel", "rank", "(III)I"⟩, 49), (⟨"OctagonYardModel", "treating", "(II)I"⟩, 49), (⟨"OctagonYardModel", "kindOf", "(I)I"⟩, 49), (⟨"OctagonYardModel", "isAssembly", "(I)Z"⟩, 49), (⟨"OctagonYardModel", "isWithin", "(II)Z"⟩, 49), (⟨"OctagonYardModel", "countWalks", "()I"⟩, 49), (⟨"OctagonYardModel", "walkedAt", "(II)I"⟩, 49)]
theorem lw_r3 : ∀ q ∈ lw_privs_3, lw_okq q := List.forall_mem_cons.mpr ⟨lw_p32, List.forall_mem_cons.mpr ⟨lw_p33, List.forall_mem_cons.mpr ⟨lw_p34, List.forall_mem_cons.mpr ⟨lw_p35, List.forall_mem_cons.mpr ⟨lw_p36, List.forall_mem_cons.mpr ⟨lw_p37, List.forall_mem_cons.mpr ⟨lw_p38, List.forall_mem_cons.mpr ⟨lw_p39, List.forall_mem_cons.mpr ⟨lw_p40, List.forall_mem_cons.mpr ⟨lw_p41, List.forall_mem_cons.mpr ⟨lw_p42, List.forall_mem_cons.mpr ⟨lw_p43, List.forall_mem_cons.mpr ⟨lw_p44, List.forall_mem_cons.mpr ⟨lw_p45, List.forall_mem_cons.mpr ⟨lw_p46, List.forall_mem_cons.mpr ⟨lw_p47, fun _ h => absurd h List.not_mem_nil⟩⟩⟩⟩⟩⟩⟩⟩⟩⟩⟩⟩⟩⟩⟩⟩
theorem lw_p48 : lw_okq (⟨"OctagonYardModel", "rests", "(I)Z"⟩, 49) := ⟨⟨by decide +kernel, by decide +kernel⟩, List.mem_of_getElem? (i := 658) (by decide +kernel), List.mem_of_getElem? (i := 1070) (by decide +kernel), List.mem_of_getElem? (i := 1071) (by decide +kernel)⟩
theorem lw_p49 : lw_okq (⟨"OctagonYardModel", "restsOn", "(II)Z"⟩, 49) := ⟨⟨by decide +kernel, by decide +kernel⟩, List.mem_of_getElem? (i := 658) (by decide +kernel), List.mem_of_getElem? (i := 1074) (by decide +kernel), List.mem_of_getElem? (i := 1075) (by decide +kernel)⟩
def lw_privs_4 : List (MethodName × Nat) := [(⟨"OctagonYardModel", "rests", "(I)Z"⟩, 49), (⟨"OctagonYardModel", "restsOn", "(II)Z"⟩, 49)]
theorem lw_r4 : ∀ q ∈ lw_privs_4, lw_okq q := List.forall_mem_cons.mpr ⟨lw_p48, List.forall_mem_cons.mpr ⟨lw_p49, fun _ h => absurd h List.not_mem_nil⟩⟩
def lw_privs : List (MethodName × Nat) := lw_privs_1 ++ (lw_privs_2 ++ (lw_privs_3 ++ (lw_privs_4)))
def lw_tbl : List Cond := k2_sels lw_privs ++ tables_1
theorem lw_privs_ok : ∀ q ∈ lw_privs, lw_okq q := by
  show ∀ q ∈ lw_privs_1 ++ (lw_privs_2 ++ (lw_privs_3 ++ (lw_privs_4))), lw_okq q
  exact List.forall_mem_append.mpr ⟨lw_r1, List.forall_mem_append.mpr ⟨lw_r2, List.forall_mem_append.mpr ⟨lw_r3, lw_r4⟩⟩⟩
end
section
/-! ===== BEGIN words of one list among another's, by their places ===== -/
theorem goodIn_r {big : List Cond} (ws : List Cond) (ps : List Nat) (hp : ws = ps.filterMap (fun i => big[i]?)) (h : ws.all goodWord = true) : GoodIn big ws := by
  intro w hw
  have h1 := List.all_eq_true.mp h w hw
  rw [hp] at hw
  obtain ⟨i, -, hi⟩ := List.mem_filterMap.mp hw
  have hm : w ∈ big := by first | exact List.mem_of_getElem? hi | exact List.getElem?_mem hi
  exact ⟨hm, good_of_word h1⟩
theorem goodIn_app {big a b : List Cond} (ha : GoodIn big a) (hb : GoodIn big b) : GoodIn big (a ++ b) := fun w h => (List.mem_append.mp h).elim (ha w) (hb w)
theorem goodIn_ca {big a b : List Cond} {c : Cond} (ha : GoodIn big (c :: a)) (hb : GoodIn big b) : GoodIn big (c :: (a ++ b)) := fun w h => (List.mem_cons.mp h).elim (fun e => ha w (List.mem_cons.mpr (Or.inl e))) (fun h => (List.mem_append.mp h).elim (fun h => ha w (List.mem_cons.mpr (Or.inr h))) (hb w))
theorem goodIn_sub {big ws : List Cond} (hm : ∀ w ∈ ws, w ∈ big) (h : ws.all goodWord = true) : GoodIn big ws := fun w hw => ⟨hm w hw, good_of_word (List.all_eq_true.mp h w hw)⟩
/-! ===== END ===== -/

/-! ===== BEGIN printed: names, fields, word lists, decode rows ===== -/
def RX0 : String := "OctagonYard$Assemblies"
def TX0 : u_T := fun k => match k with
  | 0 => ("OctagonYard$Assemblies", "rows", "[LOctagonYard$Assembly;", true)
  | 1 => ("OctagonYard$Assemblies", "size", "I", false)
  | 2 => ("OctagonYard$Assemblies", "way", "[I", true)
  | 3 => ("OctagonYard$Assemblies", "length", "I", false)
  | _ => ("OctagonYard$Assemblies", "gain", "[I", true)
def tyX0 : Nat → FieldType := fun k => match k with
  | 0 => .array (.object "OctagonYard$Assembly")
  | 1 => .int
  | 2 => .array .int
  | 3 => .int
  | _ => .array .int
abbrev wsX00 : List Cond := u_ws RX0 TX0 5
theorem nmX0 : ∀ a, a < 5 → ∀ b, b < 5 → a ≠ b → (TX0 a).2.1 ≠ (TX0 b).2.1 := by decide +kernel
theorem tyX0_ok : ∀ k, k < 5 → parseFieldDescriptor (TX0 k).2.2.1 = some (tyX0 k) := by decide +kernel
abbrev cX0_init : ByteArray := prog_2_method_1_code
def yX0_init : MethodName := ⟨RX0, "<init>", "()V"⟩
abbrev cX0_isFull : ByteArray := prog_2_method_2_code
def yX0_isFull : MethodName := ⟨RX0, "isFull", "()Z"⟩
abbrev cX0_add : ByteArray := prog_2_method_3_code
def yX0_add : MethodName := ⟨RX0, "add", "()I"⟩
abbrev cX0_has : ByteArray := prog_2_method_4_code
def yX0_has : MethodName := ⟨RX0, "has", "(I)Z"⟩
abbrev cX0_hold : ByteArray := prog_2_method_5_code
def yX0_hold : MethodName := ⟨RX0, "hold", "(I)Z"⟩
abbrev cX0_joinPiece : ByteArray := prog_2_method_6_code
def yX0_joinPiece : MethodName := ⟨RX0, "joinPiece", "(II)I"⟩
abbrev cX0_joinAssembly : ByteArray := prog_2_method_7_code
def yX0_joinAssembly : MethodName := ⟨RX0, "joinAssembly", "(II)I"⟩
abbrev cX0_isWithin : ByteArray := prog_2_method_8_code
def yX0_isWithin : MethodName := ⟨RX0, "isWithin", "(II)Z"⟩
abbrev cX0_hasRoom : ByteArray := prog_2_method_9_code
def yX0_hasRoom : MethodName := ⟨RX0, "hasRoom", "(II)Z"⟩
abbrev cX0_gainOfParts : ByteArray := prog_2_method_10_code
def yX0_gainOfParts : MethodName := ⟨RX0, "gainOfParts", "(LOctagonYard$Assembly;)I"⟩
abbrev cX0_append : ByteArray := prog_2_method_11_code
def yX0_append : MethodName := ⟨RX0, "append", "(IIZ)I"⟩
abbrev cX0_gather : ByteArray := prog_2_method_12_code
def yX0_gather : MethodName := ⟨RX0, "gather", "(I)V"⟩
abbrev cX0_gatherDown : ByteArray := prog_2_method_13_code
def yX0_gatherDown : MethodName := ⟨RX0, "gatherDown", "(II)V"⟩
abbrev cX0_gathered : ByteArray := prog_2_method_14_code
def yX0_gathered : MethodName := ⟨RX0, "gathered", "()J"⟩
def RX1 : String := "OctagonYard$Assembly"
def TX1 : u_T := fun k => match k with
  | 0 => ("OctagonYard$Assembly", "part", "[I", true)
  | 1 => ("OctagonYard$Assembly", "isAssembly", "[Z", true)
  | 2 => ("OctagonYard$Assembly", "size", "I", false)
  | 3 => ("OctagonYard$Assembly", "pieces", "I", false)
  | _ => ("OctagonYard$Assembly", "within", "I", false)
def tyX1 : Nat → FieldType := fun k => match k with
  | 0 => .array .int
  | 1 => .array .boolean
  | 2 => .int
  | 3 => .int
  | _ => .int
abbrev wsX10 : List Cond := u_ws RX1 TX1 5
theorem nmX1 : ∀ a, a < 5 → ∀ b, b < 5 → a ≠ b → (TX1 a).2.1 ≠ (TX1 b).2.1 := by decide +kernel
theorem tyX1_ok : ∀ k, k < 5 → parseFieldDescriptor (TX1 k).2.2.1 = some (tyX1 k) := by decide +kernel
abbrev cX1_init : ByteArray := prog_3_method_1_code
def yX1_init : MethodName := ⟨RX1, "<init>", "()V"⟩
def RX2 : String := "OctagonYard$History"
def TX2 : u_T := fun k => match k with
  | 0 => ("OctagonYard$History", "changed", "[I", true)
  | 1 => ("OctagonYard$History", "fresh", "[I", true)
  | 2 => ("OctagonYard$History", "reach", "[I", true)
  | 3 => ("OctagonYard$History", "latest", "I", false)
  | _ => ("OctagonYard$History", "size", "I", false)
def tyX2 : Nat → FieldType := fun k => match k with
  | 0 => .array .int
  | 1 => .array .int
  | 2 => .array .int
  | 3 => .int
  | _ => .int
abbrev wsX20 : List Cond := u_ws RX2 TX2 5
theorem nmX2 : ∀ a, a < 5 → ∀ b, b < 5 → a ≠ b → (TX2 a).2.1 ≠ (TX2 b).2.1 := by decide +kernel
theorem tyX2_ok : ∀ k, k < 5 → parseFieldDescriptor (TX2 k).2.2.1 = some (tyX2 k) := by decide +kernel
abbrev cX2_init : ByteArray := prog_4_method_1_code
def yX2_init : MethodName := ⟨RX2, "<init>", "()V"⟩
abbrev cX2_keep : ByteArray := prog_4_method_2_code
def yX2_keep : MethodName := ⟨RX2, "keep", "(ILOctagonYard$Octagon;I)V"⟩
abbrev cX2_latestFresh : ByteArray := prog_4_method_3_code
def yX2_latestFresh : MethodName := ⟨RX2, "latestFresh", "()I"⟩
abbrev cX2_latestChanged : ByteArray := prog_4_method_4_code
def yX2_latestChanged : MethodName := ⟨RX2, "latestChanged", "()I"⟩
abbrev cX2_giveBack : ByteArray := prog_4_method_5_code
def yX2_giveBack : MethodName := ⟨RX2, "giveBack", "(LOctagonYard$Octagon;)V"⟩
abbrev cX2_dropLatest : ByteArray := prog_4_method_6_code
def yX2_dropLatest : MethodName := ⟨RX2, "dropLatest", "()V"⟩
def RX3 : String := "OctagonYard$Octagon"
def TX3 : u_T := fun k => match k with
  | 0 => ("OctagonYard$Octagon", "reach", "[I", true)
  | 1 => ("OctagonYard$Octagon", "cornerX", "[I", true)
  | 2 => ("OctagonYard$Octagon", "cornerY", "[I", true)
  | 3 => ("OctagonYard$Octagon", "direction", "[I", true)
  | _ => ("OctagonYard$Octagon", "corners", "I", false)
def tyX3 : Nat → FieldType := fun k => match k with
  | 0 => .array .int
  | 1 => .array .int
  | 2 => .array .int
  | 3 => .array .int
  | _ => .int
abbrev wsX30 : List Cond := u_ws RX3 TX3 5
theorem nmX3 : ∀ a, a < 5 → ∀ b, b < 5 → a ≠ b → (TX3 a).2.1 ≠ (TX3 b).2.1 := by decide +kernel
theorem tyX3_ok : ∀ k, k < 5 → parseFieldDescriptor (TX3 k).2.2.1 = some (tyX3 k) := by decide +kernel
abbrev cX3_init : ByteArray := prog_5_method_1_code
def yX3_init : MethodName := ⟨RX3, "<init>", "()V"⟩
abbrev cX3_becomeBox : ByteArray := prog_5_method_2_code
def yX3_becomeBox : MethodName := ⟨RX3, "becomeBox", "(II)V"⟩
abbrev cX3_becomeReach : ByteArray := prog_5_method_3_code
def yX3_becomeReach : MethodName := ⟨RX3, "becomeReach", "([II)V"⟩
abbrev cX3_canShift : ByteArray := prog_5_method_4_code
def yX3_canShift : MethodName := ⟨RX3, "canShift", "(II)Z"⟩
abbrev cX3_shift : ByteArray := prog_5_method_5_code
def yX3_shift : MethodName := ⟨RX3, "shift", "(II)V"⟩
abbrev cX3_swing : ByteArray := prog_5_method_6_code
def yX3_swing : MethodName := ⟨RX3, "swing", "(I)V"⟩
abbrev cX3_isCrossedBy : ByteArray := prog_5_method_7_code
def yX3_isCrossedBy : MethodName := ⟨RX3, "isCrossedBy", "(II)Z"⟩
abbrev cX3_splitAt : ByteArray := prog_5_method_8_code
def yX3_splitAt : MethodName := ⟨RX3, "splitAt", "(IILOctagonYard$Octagon;)V"⟩
abbrev cX3_wholeReach : ByteArray := prog_5_method_9_code
def yX3_wholeReach : MethodName := ⟨RX3, "wholeReach", "(I)I"⟩
abbrev cX3_kind : ByteArray := prog_5_method_10_code
def yX3_kind : MethodName := ⟨RX3, "kind", "()I"⟩
abbrev cX3_kindOfFour : ByteArray := prog_5_method_11_code
def yX3_kindOfFour : MethodName := ⟨RX3, "kindOfFour", "()I"⟩
abbrev cX3_slantedSides : ByteArray := prog_5_method_12_code
def yX3_slantedSides : MethodName := ⟨RX3, "slantedSides", "()I"⟩
abbrev cX3_eightfold : ByteArray := prog_5_method_13_code
def yX3_eightfold : MethodName := ⟨RX3, "eightfold", "()I"⟩
abbrev cX3_place : ByteArray := prog_5_method_14_code
def yX3_place : MethodName := ⟨RX3, "place", "(II)I"⟩
abbrev cX3_overlaps : ByteArray := prog_5_method_15_code
def yX3_overlaps : MethodName := ⟨RX3, "overlaps", "(LOctagonYard$Octagon;)Z"⟩
abbrev cX3_directionTo : ByteArray := prog_5_method_16_code
def yX3_directionTo : MethodName := ⟨RX3, "directionTo", "(LOctagonYard$Octagon;)I"⟩
abbrev cX3_common : ByteArray := prog_5_method_17_code
def yX3_common : MethodName := ⟨RX3, "common", "(ILOctagonYard$Octagon;)I"⟩
abbrev cX3_sideOf : ByteArray := prog_5_method_18_code
def yX3_sideOf : MethodName := ⟨RX3, "sideOf", "(I)I"⟩
abbrev cX3_lowEnd : ByteArray := prog_5_method_19_code
def yX3_lowEnd : MethodName := ⟨RX3, "lowEnd", "(I)I"⟩
abbrev cX3_highEnd : ByteArray := prog_5_method_20_code
def yX3_highEnd : MethodName := ⟨RX3, "highEnd", "(I)I"⟩
abbrev cX3_alongSide : ByteArray := prog_5_method_21_code
def yX3_alongSide : MethodName := ⟨RX3, "alongSide", "(II)I"⟩
abbrev cX3_following : ByteArray := prog_5_method_22_code
def yX3_following : MethodName := ⟨RX3, "following", "(I)I"⟩
abbrev cX3_clearReach : ByteArray := prog_5_method_23_code
def yX3_clearReach : MethodName := ⟨RX3, "clearReach", "()V"⟩
abbrev cX3_stretch : ByteArray := prog_5_method_24_code
def yX3_stretch : MethodName := ⟨RX3, "stretch", "(II)V"⟩
abbrev cX3_settle : ByteArray := prog_5_method_25_code
def yX3_settle : MethodName := ⟨RX3, "settle", "()V"⟩
abbrev cX3_crossX : ByteArray := prog_5_method_26_code
def yX3_crossX : MethodName := ⟨RX3, "crossX", "(II)I"⟩
abbrev cX3_crossY : ByteArray := prog_5_method_27_code
def yX3_crossY : MethodName := ⟨RX3, "crossY", "(II)I"⟩
def RX4 : String := "OctagonYard$Piece"
def TX4 : u_T := fun k => match k with
  | 0 => ("OctagonYard$Piece", "shape", "LOctagonYard$Octagon;", true)
  | 1 => ("OctagonYard$Piece", "thickness", "I", false)
  | 2 => ("OctagonYard$Piece", "origin", "I", false)
  | 3 => ("OctagonYard$Piece", "sawnFrom", "I", false)
  | _ => ("OctagonYard$Piece", "there", "Z", false)
def tyX4 : Nat → FieldType := fun k => match k with
  | 0 => .object "OctagonYard$Octagon"
  | 1 => .int
  | 2 => .int
  | 3 => .int
  | _ => .boolean
abbrev wsX40 : List Cond := u_ws RX4 TX4 5
theorem nmX4 : ∀ a, a < 5 → ∀ b, b < 5 → a ≠ b → (TX4 a).2.1 ≠ (TX4 b).2.1 := by decide +kernel
theorem tyX4_ok : ∀ k, k < 5 → parseFieldDescriptor (TX4 k).2.2.1 = some (tyX4 k) := by decide +kernel
abbrev cX4_init : ByteArray := prog_6_method_1_code
def yX4_init : MethodName := ⟨RX4, "<init>", "()V"⟩
abbrev cX4_bulk : ByteArray := prog_6_method_2_code
def yX4_bulk : MethodName := ⟨RX4, "bulk", "()J"⟩
abbrev cX4_cost : ByteArray := prog_6_method_3_code
def yX4_cost : MethodName := ⟨RX4, "cost", "()I"⟩
def RX5 : String := "OctagonYard$Rules"
def TX5 : u_T := fun k => match k with
  | 0 => ("OctagonYard$Rules", "first", "[I", true)
  | 1 => ("OctagonYard$Rules", "second", "[I", true)
  | 2 => ("OctagonYard$Rules", "joint", "[I", true)
  | 3 => ("OctagonYard$Rules", "ofPack", "[I", true)
  | 4 => ("OctagonYard$Rules", "size", "I", false)
  | _ => ("OctagonYard$Rules", "packsOn", "I", false)
def tyX5 : Nat → FieldType := fun k => match k with
  | 0 => .array .int
  | 1 => .array .int
  | 2 => .array .int
  | 3 => .array .int
  | 4 => .int
  | _ => .int
abbrev wsX50 : List Cond := u_ws RX5 TX5 6
theorem nmX5 : ∀ a, a < 6 → ∀ b, b < 6 → a ≠ b → (TX5 a).2.1 ≠ (TX5 b).2.1 := by decide +kernel
theorem tyX5_ok : ∀ k, k < 6 → parseFieldDescriptor (TX5 k).2.2.1 = some (tyX5 k) := by decide +kernel
abbrev cX5_init : ByteArray := prog_7_method_1_code
def yX5_init : MethodName := ⟨RX5, "<init>", "()V"⟩
abbrev cX5_isFull : ByteArray := prog_7_method_2_code
def yX5_isFull : MethodName := ⟨RX5, "isFull", "()Z"⟩
abbrev cX5_add : ByteArray := prog_7_method_3_code
def yX5_add : MethodName := ⟨RX5, "add", "(IIII)I"⟩
abbrev cX5_switchPack : ByteArray := prog_7_method_4_code
def yX5_switchPack : MethodName := ⟨RX5, "switchPack", "(IZ)I"⟩
abbrev cX5_inOrder : ByteArray := prog_7_method_5_code
def yX5_inOrder : MethodName := ⟨RX5, "inOrder", "(III)I"⟩
abbrev cX5_decide : ByteArray := prog_7_method_6_code
def yX5_decide : MethodName := ⟨RX5, "decide", "(II)I"⟩
abbrev cX5_rankAfter : ByteArray := prog_7_method_7_code
def yX5_rankAfter : MethodName := ⟨RX5, "rankAfter", "(III)I"⟩
abbrev cX5_rankOf : ByteArray := prog_7_method_8_code
def yX5_rankOf : MethodName := ⟨RX5, "rankOf", "(III)I"⟩
abbrev cX5_numberOf : ByteArray := prog_7_method_9_code
def yX5_numberOf : MethodName := ⟨RX5, "numberOf", "(I)I"⟩
abbrev cX5_counts : ByteArray := prog_7_method_10_code
def yX5_counts : MethodName := ⟨RX5, "counts", "(III)Z"⟩
abbrev cX5_stepsTo : ByteArray := prog_7_method_11_code
def yX5_stepsTo : MethodName := ⟨RX5, "stepsTo", "(II)I"⟩
def RX6 : String := "OctagonYard$Stock"
def TX6 : u_T := fun k => match k with
  | 0 => ("OctagonYard$Stock", "pieces", "[LOctagonYard$Piece;", true)
  | 1 => ("OctagonYard$Stock", "came", "I", false)
  | _ => ("OctagonYard$Stock", "blocks", "I", false)
def tyX6 : Nat → FieldType := fun k => match k with
  | 0 => .array (.object "OctagonYard$Piece")
  | 1 => .int
  | _ => .int
abbrev wsX60 : List Cond := u_ws RX6 TX6 3
theorem nmX6 : ∀ a, a < 3 → ∀ b, b < 3 → a ≠ b → (TX6 a).2.1 ≠ (TX6 b).2.1 := by decide +kernel
theorem tyX6_ok : ∀ k, k < 3 → parseFieldDescriptor (TX6 k).2.2.1 = some (tyX6 k) := by decide +kernel
abbrev cX6_init : ByteArray := prog_8_method_1_code
def yX6_init : MethodName := ⟨RX6, "<init>", "()V"⟩
abbrev cX6_isFull : ByteArray := prog_8_method_2_code
def yX6_isFull : MethodName := ⟨RX6, "isFull", "()Z"⟩
abbrev cX6_add : ByteArray := prog_8_method_3_code
def yX6_add : MethodName := ⟨RX6, "add", "(II)LOctagonYard$Piece;"⟩
abbrev cX6_find : ByteArray := prog_8_method_4_code
def yX6_find : MethodName := ⟨RX6, "find", "(I)LOctagonYard$Piece;"⟩
abbrev cX6_findEvenScrapped : ByteArray := prog_8_method_5_code
def yX6_findEvenScrapped : MethodName := ⟨RX6, "findEvenScrapped", "(I)LOctagonYard$Piece;"⟩
abbrev cX6_cameAsBlock : ByteArray := prog_8_method_6_code
def yX6_cameAsBlock : MethodName := ⟨RX6, "cameAsBlock", "(I)Z"⟩
abbrev cX6_takeBackLatest : ByteArray := prog_8_method_7_code
def yX6_takeBackLatest : MethodName := ⟨RX6, "takeBackLatest", "()V"⟩
abbrev cX6_present : ByteArray := prog_8_method_8_code
def yX6_present : MethodName := ⟨RX6, "present", "()I"⟩
abbrev cX6_lostOf : ByteArray := prog_8_method_9_code
def yX6_lostOf : MethodName := ⟨RX6, "lostOf", "(I)I"⟩
abbrev cX6_rests : ByteArray := prog_8_method_10_code
def yX6_rests : MethodName := ⟨RX6, "rests", "(IJ)Z"⟩
def RX7 : String := "OctagonYard"
def TX7 : u_T := fun k => match k with
  | 0 => ("OctagonYard", "stock", "LOctagonYard$Stock;", true)
  | 1 => ("OctagonYard", "history", "LOctagonYard$History;", true)
  | 2 => ("OctagonYard", "rules", "LOctagonYard$Rules;", true)
  | _ => ("OctagonYard", "assemblies", "LOctagonYard$Assemblies;", true)
def tyX7 : Nat → FieldType := fun k => match k with
  | 0 => .object "OctagonYard$Stock"
  | 1 => .object "OctagonYard$History"
  | 2 => .object "OctagonYard$Rules"
  | _ => .object "OctagonYard$Assemblies"
abbrev wsX70 : List Cond := u_ws RX7 TX7 4
theorem nmX7 : ∀ a, a < 4 → ∀ b, b < 4 → a ≠ b → (TX7 a).2.1 ≠ (TX7 b).2.1 := by decide +kernel
theorem tyX7_ok : ∀ k, k < 4 → parseFieldDescriptor (TX7 k).2.2.1 = some (tyX7 k) := by decide +kernel
abbrev cX7_init : ByteArray := prog_1_method_1_code
def yX7_init : MethodName := ⟨RX7, "<init>", "()V"⟩
abbrev cX7_block : ByteArray := prog_1_method_2_code
def yX7_block : MethodName := ⟨RX7, "block", "(III)I"⟩
abbrev cX7_cut : ByteArray := prog_1_method_3_code
def yX7_cut : MethodName := ⟨RX7, "cut", "(III)I"⟩
abbrev cX7_move : ByteArray := prog_1_method_4_code
def yX7_move : MethodName := ⟨RX7, "move", "(III)I"⟩
abbrev cX7_turn : ByteArray := prog_1_method_5_code
def yX7_turn : MethodName := ⟨RX7, "turn", "(II)I"⟩
abbrev cX7_scrap : ByteArray := prog_1_method_6_code
def yX7_scrap : MethodName := ⟨RX7, "scrap", "(I)I"⟩
abbrev cX7_bound : ByteArray := prog_1_method_7_code
def yX7_bound : MethodName := ⟨RX7, "bound", "(II)I"⟩
abbrev cX7_about : ByteArray := prog_1_method_8_code
def yX7_about : MethodName := ⟨RX7, "about", "(II)I"⟩
abbrev cX7_corner : ByteArray := prog_1_method_9_code
def yX7_corner : MethodName := ⟨RX7, "corner", "(III)I"⟩
abbrev cX7_side : ByteArray := prog_1_method_10_code
def yX7_side : MethodName := ⟨RX7, "side", "(II)I"⟩
abbrev cX7_area : ByteArray := prog_1_method_11_code
def yX7_area : MethodName := ⟨RX7, "area", "(I)I"⟩
abbrev cX7_volume : ByteArray := prog_1_method_12_code
def yX7_volume : MethodName := ⟨RX7, "volume", "(I)J"⟩
abbrev cX7_inside : ByteArray := prog_1_method_13_code
def yX7_inside : MethodName := ⟨RX7, "inside", "(III)I"⟩
abbrev cX7_waste : ByteArray := prog_1_method_14_code
def yX7_waste : MethodName := ⟨RX7, "waste", "(I)I"⟩
abbrev cX7_near : ByteArray := prog_1_method_15_code
def yX7_near : MethodName := ⟨RX7, "near", "(II)I"⟩
abbrev cX7_touch : ByteArray := prog_1_method_16_code
def yX7_touch : MethodName := ⟨RX7, "touch", "(III)I"⟩
abbrev cX7_rule : ByteArray := prog_1_method_17_code
def yX7_rule : MethodName := ⟨RX7, "rule", "(IIII)I"⟩
abbrev cX7_pack : ByteArray := prog_1_method_18_code
def yX7_pack : MethodName := ⟨RX7, "pack", "(IZ)I"⟩
abbrev cX7_above : ByteArray := prog_1_method_19_code
def yX7_above : MethodName := ⟨RX7, "above", "(III)I"⟩
abbrev cX7_treats : ByteArray := prog_1_method_20_code
def yX7_treats : MethodName := ⟨RX7, "treats", "(II)I"⟩
abbrev cX7_undecided : ByteArray := prog_1_method_21_code
def yX7_undecided : MethodName := ⟨RX7, "undecided", "()I"⟩
abbrev cX7_meet : ByteArray := prog_1_method_22_code
def yX7_meet : MethodName := ⟨RX7, "meet", "(II)I"⟩
abbrev cX7_assembly : ByteArray := prog_1_method_23_code
def yX7_assembly : MethodName := ⟨RX7, "assembly", "()I"⟩
abbrev cX7_put : ByteArray := prog_1_method_24_code
def yX7_put : MethodName := ⟨RX7, "put", "(IIZ)I"⟩
abbrev cX7_walked : ByteArray := prog_1_method_25_code
def yX7_walked : MethodName := ⟨RX7, "walked", "(I)I"⟩
abbrev cX7_walk : ByteArray := prog_1_method_26_code
def yX7_walk : MethodName := ⟨RX7, "walk", "(II)I"⟩
abbrev cX7_weight : ByteArray := prog_1_method_27_code
def yX7_weight : MethodName := ⟨RX7, "weight", "(I)J"⟩
abbrev cX7_price : ByteArray := prog_1_method_28_code
def yX7_price : MethodName := ⟨RX7, "price", "(I)I"⟩
abbrev cX7_check : ByteArray := prog_1_method_29_code
def yX7_check : MethodName := ⟨RX7, "check", "(I)I"⟩
abbrev cX7_undo : ByteArray := prog_1_method_30_code
def yX7_undo : MethodName := ⟨RX7, "undo", "()I"⟩
abbrev cX7_count : ByteArray := prog_1_method_31_code
def yX7_count : MethodName := ⟨RX7, "count", "(I)I"⟩
abbrev cX7_isFrom : ByteArray := prog_1_method_32_code
def yX7_isFrom : MethodName := ⟨RX7, "isFrom", "(III)Z"⟩
abbrev cX7_familyOf : ByteArray := prog_1_method_33_code
def yX7_familyOf : MethodName := ⟨RX7, "familyOf", "(I)I"⟩
abbrev cX7_opposite : ByteArray := prog_1_method_34_code
def yX7_opposite : MethodName := ⟨RX7, "opposite", "(I)I"⟩
abbrev cX7_measure : ByteArray := prog_1_method_35_code
def yX7_measure : MethodName := ⟨RX7, "measure", "(III)I"⟩
def RX8 : String := "OctagonYardModel"
def TX8 : u_T := fun k => match k with
  | 0 => ("OctagonYardModel", "nx", "[I", true)
  | 1 => ("OctagonYardModel", "ny", "[I", true)
  | 2 => ("OctagonYardModel", "around", "[I", true)
  | 3 => ("OctagonYardModel", "quarter", "[I", true)
  | 4 => ("OctagonYardModel", "across", "[I", true)
  | 5 => ("OctagonYardModel", "change", "[I", true)
  | 6 => ("OctagonYardModel", "came", "I", false)
  | 7 => ("OctagonYardModel", "there", "[Z", true)
  | 8 => ("OctagonYardModel", "bounds", "[I", true)
  | 9 => ("OctagonYardModel", "thick", "[I", true)
  | 10 => ("OctagonYardModel", "block", "[I", true)
  | 11 => ("OctagonYardModel", "isBlock", "[Z", true)
  | 12 => ("OctagonYardModel", "blockArea", "[I", true)
  | 13 => ("OctagonYardModel", "e", "[I", true)
  | 14 => ("OctagonYardModel", "points", "I", false)
  | 15 => ("OctagonYardModel", "px", "[I", true)
  | 16 => ("OctagonYardModel", "py", "[I", true)
  | 17 => ("OctagonYardModel", "sides", "I", false)
  | 18 => ("OctagonYardModel", "sideOf", "[I", true)
  | 19 => ("OctagonYardModel", "fromX", "[I", true)
  | 20 => ("OctagonYardModel", "fromY", "[I", true)
  | 21 => ("OctagonYardModel", "toX", "[I", true)
  | 22 => ("OctagonYardModel", "toY", "[I", true)
  | 23 => ("OctagonYardModel", "kept", "I", false)
  | 24 => ("OctagonYardModel", "kSort", "[I", true)
  | 25 => ("OctagonYardModel", "kPiece", "[I", true)
  | 26 => ("OctagonYardModel", "kBounds", "[I", true)
  | 27 => ("OctagonYardModel", "touchWay", "I", false)
  | 28 => ("OctagonYardModel", "touchLength", "I", false)
  | 29 => ("OctagonYardModel", "oSides", "I", false)
  | 30 => ("OctagonYardModel", "oOf", "[I", true)
  | 31 => ("OctagonYardModel", "oFromX", "[I", true)
  | 32 => ("OctagonYardModel", "oFromY", "[I", true)
  | 33 => ("OctagonYardModel", "oToX", "[I", true)
  | 34 => ("OctagonYardModel", "oToY", "[I", true)
  | 35 => ("OctagonYardModel", "rules", "I", false)
  | 36 => ("OctagonYardModel", "firsts", "[I", true)
  | 37 => ("OctagonYardModel", "seconds", "[I", true)
  | 38 => ("OctagonYardModel", "joints", "[I", true)
  | 39 => ("OctagonYardModel", "inPack", "[I", true)
  | 40 => ("OctagonYardModel", "packs", "[Z", true)
  | 41 => ("OctagonYardModel", "assemblies", "I", false)
  | 42 => ("OctagonYardModel", "itemMany", "[I", true)
  | 43 => ("OctagonYardModel", "items", "[I", true)
  | 44 => ("OctagonYardModel", "isWhole", "[Z", true)
  | 45 => ("OctagonYardModel", "walks", "[I", true)
  | 46 => ("OctagonYardModel", "holds", "[Z", true)
  | 47 => ("OctagonYardModel", "isWalked", "[Z", true)
  | _ => ("OctagonYardModel", "isAsked", "[Z", true)
def tyX8 : Nat → FieldType := fun k => match k with
  | 0 => .array .int
  | 1 => .array .int
  | 2 => .array .int
  | 3 => .array .int
  | 4 => .array .int
  | 5 => .array .int
  | 6 => .int
  | 7 => .array .boolean
  | 8 => .array .int
  | 9 => .array .int
  | 10 => .array .int
  | 11 => .array .boolean
  | 12 => .array .int
  | 13 => .array .int
  | 14 => .int
  | 15 => .array .int
  | 16 => .array .int
  | 17 => .int
  | 18 => .array .int
  | 19 => .array .int
  | 20 => .array .int
  | 21 => .array .int
  | 22 => .array .int
  | 23 => .int
  | 24 => .array .int
  | 25 => .array .int
  | 26 => .array .int
  | 27 => .int
  | 28 => .int
  | 29 => .int
  | 30 => .array .int
  | 31 => .array .int
  | 32 => .array .int
  | 33 => .array .int
  | 34 => .array .int
  | 35 => .int
  | 36 => .array .int
  | 37 => .array .int
  | 38 => .array .int
  | 39 => .array .int
  | 40 => .array .boolean
  | 41 => .int
  | 42 => .array .int
  | 43 => .array .int
  | 44 => .array .boolean
  | 45 => .array .int
  | 46 => .array .boolean
  | 47 => .array .boolean
  | _ => .array .boolean
abbrev wsX80 : List Cond := u_ws RX8 TX8 49
theorem nmX8 : ∀ a, a < 49 → ∀ b, b < 49 → a ≠ b → (TX8 a).2.1 ≠ (TX8 b).2.1 := by decide +kernel
theorem tyX8_ok : ∀ k, k < 49 → parseFieldDescriptor (TX8 k).2.2.1 = some (tyX8 k) := by decide +kernel
abbrev cX8_init : ByteArray := prog_10_method_1_code
def yX8_init : MethodName := ⟨RX8, "<init>", "()V"⟩
abbrev cX8_in : ByteArray := prog_10_method_3_code
def yX8_in : MethodName := ⟨RX8, "in", "(JJJ)Z"⟩
abbrev cX8_isPiece : ByteArray := prog_10_method_4_code
def yX8_isPiece : MethodName := ⟨RX8, "isPiece", "(I)Z"⟩
abbrev cX8_isLet : ByteArray := prog_10_method_5_code
def yX8_isLet : MethodName := ⟨RX8, "isLet", "(II)Z"⟩
abbrev cX8_point : ByteArray := prog_10_method_6_code
def yX8_point : MethodName := ⟨RX8, "point", "(II)V"⟩
abbrev cX8_findPoints : ByteArray := prog_10_method_7_code
def yX8_findPoints : MethodName := ⟨RX8, "findPoints", "()V"⟩
abbrev cX8_findSides : ByteArray := prog_10_method_8_code
def yX8_findSides : MethodName := ⟨RX8, "findSides", "()V"⟩
abbrev cX8_turnRows : ByteArray := prog_10_method_9_code
def yX8_turnRows : MethodName := ⟨RX8, "turnRows", "()V"⟩
abbrev cX8_findSide : ByteArray := prog_10_method_10_code
def yX8_findSide : MethodName := ⟨RX8, "findSide", "(I)V"⟩
abbrev cX8_areaNow : ByteArray := prog_10_method_11_code
def yX8_areaNow : MethodName := ⟨RX8, "areaNow", "()I"⟩
abbrev cX8_most : ByteArray := prog_10_method_12_code
def yX8_most : MethodName := ⟨RX8, "most", "(I)I"⟩
abbrev cX8_up : ByteArray := prog_10_method_13_code
def yX8_up : MethodName := ⟨RX8, "up", "(I)I"⟩
abbrev cX8_keeps : ByteArray := prog_10_method_14_code
def yX8_keeps : MethodName := ⟨RX8, "keeps", "(I)V"⟩
abbrev cX8_takes : ByteArray := prog_10_method_15_code
def yX8_takes : MethodName := ⟨RX8, "takes", "(I)V"⟩
abbrev cX8_keep : ByteArray := prog_10_method_16_code
def yX8_keep : MethodName := ⟨RX8, "keep", "(II)V"⟩
abbrev cX8_undo : ByteArray := prog_10_method_17_code
def yX8_undo : MethodName := ⟨RX8, "undo", "()I"⟩
abbrev cX8_block : ByteArray := prog_10_method_18_code
def yX8_block : MethodName := ⟨RX8, "block", "(III)I"⟩
abbrev cX8_cut : ByteArray := prog_10_method_19_code
def yX8_cut : MethodName := ⟨RX8, "cut", "(III)I"⟩
abbrev cX8_move : ByteArray := prog_10_method_20_code
def yX8_move : MethodName := ⟨RX8, "move", "(III)I"⟩
abbrev cX8_turn : ByteArray := prog_10_method_21_code
def yX8_turn : MethodName := ⟨RX8, "turn", "(II)I"⟩
abbrev cX8_scrap : ByteArray := prog_10_method_22_code
def yX8_scrap : MethodName := ⟨RX8, "scrap", "(I)I"⟩
abbrev cX8_bound : ByteArray := prog_10_method_23_code
def yX8_bound : MethodName := ⟨RX8, "bound", "(II)I"⟩
abbrev cX8_kindNow : ByteArray := prog_10_method_24_code
def yX8_kindNow : MethodName := ⟨RX8, "kindNow", "()I"⟩
abbrev cX8_kindOf : ByteArray := prog_10_method_25_code
def yX8_kindOf : MethodName := ⟨RX8, "kindOf", "(I)I"⟩
abbrev cX8_family : ByteArray := prog_10_method_26_code
def yX8_family : MethodName := ⟨RX8, "family", "(I)I"⟩
abbrev cX8_about : ByteArray := prog_10_method_27_code
def yX8_about : MethodName := ⟨RX8, "about", "(II)I"⟩
abbrev cX8_corner : ByteArray := prog_10_method_28_code
def yX8_corner : MethodName := ⟨RX8, "corner", "(III)I"⟩
abbrev cX8_side : ByteArray := prog_10_method_29_code
def yX8_side : MethodName := ⟨RX8, "side", "(II)I"⟩
abbrev cX8_area : ByteArray := prog_10_method_30_code
def yX8_area : MethodName := ⟨RX8, "area", "(I)I"⟩
abbrev cX8_volume : ByteArray := prog_10_method_31_code
def yX8_volume : MethodName := ⟨RX8, "volume", "(I)J"⟩
abbrev cX8_inside : ByteArray := prog_10_method_32_code
def yX8_inside : MethodName := ⟨RX8, "inside", "(III)I"⟩
abbrev cX8_waste : ByteArray := prog_10_method_33_code
def yX8_waste : MethodName := ⟨RX8, "waste", "(I)I"⟩
abbrev cX8_overlaps : ByteArray := prog_10_method_34_code
def yX8_overlaps : MethodName := ⟨RX8, "overlaps", "(II)Z"⟩
abbrev cX8_shared : ByteArray := prog_10_method_35_code
def yX8_shared : MethodName := ⟨RX8, "shared", "(II)I"⟩
abbrev cX8_keepsSides : ByteArray := prog_10_method_36_code
def yX8_keepsSides : MethodName := ⟨RX8, "keepsSides", "()V"⟩
abbrev cX8_nearness : ByteArray := prog_10_method_37_code
def yX8_nearness : MethodName := ⟨RX8, "nearness", "(II)I"⟩
abbrev cX8_areTwo : ByteArray := prog_10_method_38_code
def yX8_areTwo : MethodName := ⟨RX8, "areTwo", "(II)Z"⟩
abbrev cX8_near : ByteArray := prog_10_method_39_code
def yX8_near : MethodName := ⟨RX8, "near", "(II)I"⟩
abbrev cX8_touch : ByteArray := prog_10_method_40_code
def yX8_touch : MethodName := ⟨RX8, "touch", "(III)I"⟩
abbrev cX8_rule : ByteArray := prog_10_method_41_code
def yX8_rule : MethodName := ⟨RX8, "rule", "(IIII)I"⟩
abbrev cX8_pack : ByteArray := prog_10_method_42_code
def yX8_pack : MethodName := ⟨RX8, "pack", "(IZ)I"⟩
abbrev cX8_steps : ByteArray := prog_10_method_43_code
def yX8_steps : MethodName := ⟨RX8, "steps", "(II)I"⟩
abbrev cX8_rank : ByteArray := prog_10_method_44_code
def yX8_rank : MethodName := ⟨RX8, "rank", "(III)I"⟩
abbrev cX8_nth : ByteArray := prog_10_method_45_code
def yX8_nth : MethodName := ⟨RX8, "nth", "(III)I"⟩
abbrev cX8_isKind : ByteArray := prog_10_method_46_code
def yX8_isKind : MethodName := ⟨RX8, "isKind", "(I)Z"⟩
abbrev cX8_above : ByteArray := prog_10_method_47_code
def yX8_above : MethodName := ⟨RX8, "above", "(III)I"⟩
abbrev cX8_treating : ByteArray := prog_10_method_48_code
def yX8_treating : MethodName := ⟨RX8, "treating", "(II)I"⟩
abbrev cX8_treats : ByteArray := prog_10_method_49_code
def yX8_treats : MethodName := ⟨RX8, "treats", "(II)I"⟩
abbrev cX8_undecided : ByteArray := prog_10_method_50_code
def yX8_undecided : MethodName := ⟨RX8, "undecided", "()I"⟩
abbrev cX8_meet : ByteArray := prog_10_method_51_code
def yX8_meet : MethodName := ⟨RX8, "meet", "(II)I"⟩
abbrev cX8_isAssembly : ByteArray := prog_10_method_52_code
def yX8_isAssembly : MethodName := ⟨RX8, "isAssembly", "(I)Z"⟩
abbrev cX8_assembly : ByteArray := prog_10_method_53_code
def yX8_assembly : MethodName := ⟨RX8, "assembly", "()I"⟩
abbrev cX8_stands : ByteArray := prog_10_method_54_code
def yX8_stands : MethodName := ⟨RX8, "stands", "(I)Z"⟩
abbrev cX8_isWithin : ByteArray := prog_10_method_55_code
def yX8_isWithin : MethodName := ⟨RX8, "isWithin", "(II)Z"⟩
abbrev cX8_countWalks : ByteArray := prog_10_method_56_code
def yX8_countWalks : MethodName := ⟨RX8, "countWalks", "()I"⟩
abbrev cX8_put : ByteArray := prog_10_method_57_code
def yX8_put : MethodName := ⟨RX8, "put", "(IIZ)I"⟩
abbrev cX8_walked : ByteArray := prog_10_method_58_code
def yX8_walked : MethodName := ⟨RX8, "walked", "(I)I"⟩
abbrev cX8_walkedAt : ByteArray := prog_10_method_59_code
def yX8_walkedAt : MethodName := ⟨RX8, "walkedAt", "(II)I"⟩
abbrev cX8_walk : ByteArray := prog_10_method_60_code
def yX8_walk : MethodName := ⟨RX8, "walk", "(II)I"⟩
abbrev cX8_weight : ByteArray := prog_10_method_61_code
def yX8_weight : MethodName := ⟨RX8, "weight", "(I)J"⟩
abbrev cX8_price : ByteArray := prog_10_method_62_code
def yX8_price : MethodName := ⟨RX8, "price", "(I)I"⟩
abbrev cX8_restsOn : ByteArray := prog_10_method_63_code
def yX8_restsOn : MethodName := ⟨RX8, "restsOn", "(II)Z"⟩
abbrev cX8_rests : ByteArray := prog_10_method_64_code
def yX8_rests : MethodName := ⟨RX8, "rests", "(I)Z"⟩
abbrev cX8_check : ByteArray := prog_10_method_65_code
def yX8_check : MethodName := ⟨RX8, "check", "(I)I"⟩
abbrev cX8_count : ByteArray := prog_10_method_66_code
def yX8_count : MethodName := ⟨RX8, "count", "(I)I"⟩
def RJ6 : String := "java/lang/Integer"
def TJ6 : u_T := fun k => match k with
  | _ => ("", "", "", false)
def tyJ6 : Nat → FieldType := fun k => match k with
  | _ => .int
abbrev wsJ60 : List Cond := u_ws RJ6 TJ6 0
theorem nmJ6 : ∀ a, a < 0 → ∀ b, b < 0 → a ≠ b → (TJ6 a).2.1 ≠ (TJ6 b).2.1 := by decide +kernel
theorem tyJ6_ok : ∀ k, k < 0 → parseFieldDescriptor (TJ6 k).2.2.1 = some (tyJ6 k) := by decide +kernel
abbrev cJ6_bitCount_0f7a4 : ByteArray := prog_11_method_49_code
def yJ6_bitCount_0f7a4 : MethodName := ⟨RJ6, "bitCount", "(I)I"⟩
def RJ9 : String := "java/lang/Math"
def TJ9 : u_T := fun k => match k with
  | _ => ("", "", "", false)
def tyJ9 : Nat → FieldType := fun k => match k with
  | _ => .int
abbrev wsJ90 : List Cond := u_ws RJ9 TJ9 0
theorem nmJ9 : ∀ a, a < 0 → ∀ b, b < 0 → a ≠ b → (TJ9 a).2.1 ≠ (TJ9 b).2.1 := by decide +kernel
theorem tyJ9_ok : ∀ k, k < 0 → parseFieldDescriptor (TJ9 k).2.2.1 = some (tyJ9 k) := by decide +kernel
abbrev cJ9_floorDiv_7cf53 : ByteArray := prog_12_method_47_code
def yJ9_floorDiv_7cf53 : MethodName := ⟨RJ9, "floorDiv", "(II)I"⟩
abbrev cJ9_max_7cf53 : ByteArray := prog_12_method_65_code
def yJ9_max_7cf53 : MethodName := ⟨RJ9, "max", "(II)I"⟩
abbrev cJ9_min_7cf53 : ByteArray := prog_12_method_69_code
def yJ9_min_7cf53 : MethodName := ⟨RJ9, "min", "(II)I"⟩
def RJ10 : String := "java/lang/System"
def TJ10 : u_T := fun k => match k with
  | _ => ("", "", "", false)
def tyJ10 : Nat → FieldType := fun k => match k with
  | _ => .int
abbrev wsJ100 : List Cond := u_ws RJ10 TJ10 0
theorem nmJ10 : ∀ a, a < 0 → ∀ b, b < 0 → a ≠ b → (TJ10 a).2.1 ≠ (TJ10 b).2.1 := by decide +kernel
theorem tyJ10_ok : ∀ k, k < 0 → parseFieldDescriptor (TJ10 k).2.2.1 = some (tyJ10 k) := by decide +kernel
def RJ7 : String := "java/util/Arrays"
def TJ7 : u_T := fun k => match k with
  | _ => ("", "", "", false)
def tyJ7 : Nat → FieldType := fun k => match k with
  | _ => .int
abbrev wsJ70 : List Cond := u_ws RJ7 TJ7 0
theorem nmJ7 : ∀ a, a < 0 → ∀ b, b < 0 → a ≠ b → (TJ7 a).2.1 ≠ (TJ7 b).2.1 := by decide +kernel
theorem tyJ7_ok : ∀ k, k < 0 → parseFieldDescriptor (TJ7 k).2.2.1 = some (tyJ7 k) := by decide +kernel
abbrev cJ7_fill_53178 : ByteArray := prog_14_method_103_code
def yJ7_fill_53178 : MethodName := ⟨RJ7, "fill", "([II)V"⟩
def RL : String := "OctagonYardLaw"
abbrev cL_law : ByteArray := code
def yL_law : MethodName := ⟨RL, "law", "([I)Z"⟩
abbrev vwCl : List vw_C := [(RX0, TX0, 5), (RX1, TX1, 5), (RX2, TX2, 5), (RX3, TX3, 5), (RX4, TX4, 5), (RX5, TX5, 6), (RX6, TX6, 3), (RX7, TX7, 4), (RX8, TX8, 49)]
end
section
/-! ===== THE SMALL MACHINE: a state of the two systems is a table of ints, how many pieces and how many assemblies were made; references are fixed by the regions ===== -/
abbrev MV : Type := Int32 ⊕ (Int64 ⊕ Option (Nat × Nat))
abbrev vI (x : Int32) : MV := Sum.inl x
abbrev vL (x : Int64) : MV := Sum.inr (Sum.inl x)
abbrev vN : MV := Sum.inr (Sum.inr none)
abbrev vR (r i : Nat) : MV := Sum.inr (Sum.inr (some (r, i)))
abbrev vO (r : Nat) (o : Option Nat) : MV := Sum.inr (Sum.inr (o.map (fun i => (r, i))))
/-- ints by region, number, place; pieces made; assemblies made -/
abbrev SS : Type := (Nat → Nat → Nat → Int32) × Nat × Nat
def cv (ad : Nat → Nat → Nat) : MV → Value
  | .inl x => .int x
  | .inr (.inl x) => .long x
  | .inr (.inr none) => .null
  | .inr (.inr (some q)) => .ref (ad q.1 q.2)
def up (σ : SS) (r i k : Nat) (v : Int32) : SS := (fun r' i' k' => if r' = r ∧ i' = i ∧ k' = k then v else σ.1 r' i' k', σ.2)
/-- regions: an object of a class (its number in vwCl, its fields) or an array (its kind, its length) -/
def rgT : List (Option ((Nat ⊕ Nat) × Nat)) := [some (.inl 7, 4), some (.inl 6, 3), some (.inr 2, 60), some (.inl 2, 5), some (.inr 0, 8), some (.inr 0, 8), some (.inr 0, 64), some (.inl 5, 6), some (.inr 0, 40), some (.inr 0, 40), some (.inr 0, 40), some (.inr 0, 40), some (.inl 0, 5), some (.inr 3, 12), some (.inr 0, 500), some (.inr 0, 12), some (.inl 4, 5), some (.inl 3, 5), some (.inr 0, 8), some (.inr 0, 8), some (.inr 0, 8), some (.inr 0, 8), some (.inl 1, 5), some (.inr 0, 20), some (.inr 1, 20), some (.inl 8, 49), none, none, none, none, none, none, none, none, none, none, none, none, none, none, some (.inr 0, 8), some (.inr 0, 8), some (.inr 0, 8), some (.inr 0, 8), some (.inr 0, 8), some (.inr 0, 8), none, some (.inr 1, 60), some (.inr 0, 480), some (.inr 0, 60), some (.inr 0, 60), some (.inr 1, 60), some (.inr 0, 60), some (.inr 0, 8), none, some (.inr 0, 32), some (.inr 0, 32), none, some (.inr 0, 8), some (.inr 0, 8), some (.inr 0, 8), some (.inr 0, 8), some (.inr 0, 8), none, some (.inr 0, 8), some (.inr 0, 8), some (.inr 0, 64), none, none, none, some (.inr 0, 8), some (.inr 0, 8), some (.inr 0, 8), some (.inr 0, 8), some (.inr 0, 8), none, some (.inr 0, 40), some (.inr 0, 40), some (.inr 0, 40), some (.inr 0, 40), some (.inr 1, 8), none, some (.inr 0, 12), some (.inr 0, 240), some (.inr 1, 240), some (.inr 0, 12), some (.inr 1, 12), some (.inr 1, 60), some (.inr 1, 60)]
/-- of a region's fields those that refer to a region's cell of the same number -/
def rtT : List (List (Option Nat)) := [[some 1, some 3, some 7, some 12], [some 2, none, none], [], [some 4, some 5, some 6, none, none], [], [], [], [some 8, some 9, some 10, some 11, none, none], [], [], [], [], [some 13, none, some 14, none, some 15], [], [], [], [some 17, none, none, none, none], [some 18, some 19, some 20, some 21, none], [], [], [], [], [some 23, some 24, none, none, none], [], [], [some 40, some 41, some 42, some 43, some 44, some 45, none, some 47, some 48, some 49, some 50, some 51, some 52, some 53, none, some 55, some 56, none, some 58, some 59, some 60, some 61, some 62, none, some 64, some 65, some 66, none, none, none, some 70, some 71, some 72, some 73, some 74, none, some 76, some 77, some 78, some 79, some 80, none, some 82, some 83, some 84, some 85, some 86, some 87, some 88], [], [], [], [], [], [], [], [], [], [], [], [], [], [], [], [], [], [], [], [], [], [], [], [], [], [], [], [], [], [], [], [], [], [], [], [], [], [], [], [], [], [], [], [], [], [], [], [], [], [], [], [], [], [], [], [], [], [], [], [], [], [], []]
def rg (r : Nat) : Option ((Nat ⊕ Nat) × Nat) := (rgT[r]?).getD none
def rt (r k : Nat) : Option Nat := (((rtT[r]?).getD [])[k]?).getD none
/-- what a place holds -/
def view (σ : SS) (r i k : Nat) : MV := match rt r k with
  | some t => vR t i
  | none => if r = 2 then (if k < σ.2.1 then vR 16 k else vN) else if r = 13 then (if k < σ.2.2 then vR 22 k else vN) else vI (σ.1 r i k)
/-- which cells there are -/
def gal (σ : SS) (r i : Nat) : Prop := (rg r).isSome = true ∧ (if r < 16 then i = 0 else if r < 22 then i < σ.2.1 else if r < 25 then i < σ.2.2 else i = 0)
def alv (σ : SS) (r i : Nat) : Prop := gal σ r i ∨ (100 ≤ r ∧ r < 105 ∧ i = 0)
def hal (σ : SS) : MV → Prop
  | .inr (.inr (some q)) => alv σ q.1 q.2
  | _ => True
def aty : Nat → FieldType
  | 0 => .int
  | 1 => .boolean
  | 2 => .object "OctagonYard$Piece"
  | _ => .object "OctagonYard$Assembly"
def snm : Nat → String
  | 0 => "ACROSS"
  | 1 => "UPWARD"
  | 2 => "ROUND"
  | _ => "TURNS"
def slst : Nat → List Int32
  | 0 => [1, 0, 1, 1, -1, 0, -1, -1]
  | 1 => [0, 1, 1, -1, 0, -1, -1, 1]
  | 2 => [6, 5, 3, 0, 2, 1, 7, 4]
  | _ => [5, 0, 3, 6, 1, 4, 7, 2, 4, 1, 7, 6, 0, 5, 3, 2, 1, 0, 2, 7, 5, 4, 6, 3]
def sln (k : Nat) : Nat := (slst k).length
def sfn (k j : Nat) : Int32 := (slst k).getD j 0
/-- classes and slots, array classes, the heap at the start, the static arrays' addresses (the fifth: the script), the script's length and ints -/
abbrev WX : Type := va_G × (Nat → ClassId) × Heap × (Nat → Nat) × Nat × (Nat → Int32)
def cellOk (w : WX) (ad : Nat → Nat → Nat) (σ : SS) (r i : Nat) (H : Heap) : Prop := match rg r with
  | some (.inl ci, N) => t_OB (ad r i) (w.1.1 ci) N (w.1.2 ci) H (fun k => cv ad (view σ r i k))
  | some (.inr ty, n) => H[ad r i]? = some (arrV (w.2.1 ty) n (fun j => cv ad (view σ r i j)))
  | none => True
def Rel (w : WX) (ad : Nat → Nat → Nat) (σ : SS) (H : Heap) : Prop := w.2.2.1.size ≤ H.size ∧ (∀ q : Nat, q < w.2.2.1.size → H[q]? = w.2.2.1[q]?) ∧ (∀ r i, gal σ r i → w.2.2.1.size ≤ ad r i ∧ cellOk w ad σ r i H) ∧ (∀ r i r' i', gal σ r i → gal σ r' i' → ad r i = ad r' i' → r = r' ∧ i = i') ∧ (∀ k : Nat, k < 5 → ad (100 + k) 0 = w.2.2.2.1 k)
def nestWord : Cond → Bool
  | .fieldLinkNest _ _ _ _ _ _ => true
  | .methodLinkNest _ _ _ _ => true
  | _ => false
/-- the tables' words that a call keeps -/
def mtbl : List Cond := lw_tbl.filter (fun w => goodWord w || nestWord w)
theorem tbl_ok {x : Cond} (h : x ∈ mtbl) : (goodWord x || nestWord x) = true := (List.mem_filter.mp h).2
def EnvW (w : WX) (U : State) : Prop := (∀ x ∈ mtbl, va_Nw x U) ∧ (∀ (c : Nat) (q : vw_C), vwCl[c]? = some q → u_Kn U q.1 q.2.1 q.2.2 (w.1.1 c) (w.1.2 c)) ∧ (∀ k : Nat, k < 4 → ArrOfT U (w.2.1 k) (aty k) ∧ va_RA U (w.2.1 k) (aty k)) ∧ (∀ k : Nat, k < 4 → va_Z "OctagonYard" (snm k) "[I" (.ref (w.2.2.2.1 k)) (fun q => w.2.2.1.size ≤ q) U w.2.2.1 ∧ va_T .int (w.2.2.2.1 k) (sln k) (fun j => .int (sfn k j)) (fun q => w.2.2.1.size ≤ q) U w.2.2.1 ∧ w.2.2.2.1 k < w.2.2.1.size) ∧ va_X (w.2.2.2.1 4) w.2.2.2.2.1 w.2.2.2.2.2 U w.2.2.1 ∧ w.2.2.2.1 4 < w.2.2.1.size
theorem nw_warm {x : Cond} (hx : x ∈ mtbl) {s U : State} (hW : s.WarmedH U.vm) (h : va_Nw x s) : va_Nw x U := by
  have h1 := tbl_ok hx
  rw [Bool.or_eq_true] at h1
  rcases h1 with h1 | h1
  · exact word_at hW (good_of_word h1) h
  · cases x <;> first | exact va_Nw.warmF hW h | exact va_Nw.warmM hW h | cases h1
theorem nw_use {x : Cond} (hx : x ∈ mtbl) {s : State} {args : Array Value} (h : va_Nw x s) : x.before args s = true := by
  have h1 := tbl_ok hx
  rw [Bool.or_eq_true] at h1
  rcases h1 with h1 | h1
  · exact word_at (State.WarmedH.refl s) (good_of_word h1) h
  · cases x <;> first | exact va_Nw.use rfl h | cases h1
theorem EnvW.warm {w : WX} {s U : State} (hW : s.WarmedH U.vm) (h : EnvW w s) : EnvW w U :=
  ⟨fun x hx => nw_warm hx hW (h.1 x hx), fun c q hq => u_Kn_moved hW.alike (h.2.1 c q hq), fun k hk => ⟨arrOfT_moved hW.alike (h.2.2.1 k hk).1, (h.2.2.1 k hk).2.moved hW.alike⟩, fun k hk => ⟨(h.2.2.2.1 k hk).1.moved hW.alike, (h.2.2.2.1 k hk).2.1.moved hW.alike, (h.2.2.2.1 k hk).2.2⟩, h.2.2.2.2.1.moved hW.alike, h.2.2.2.2.2⟩
theorem EnvW.calling {w : WX} {U : State} {g : JFrame} {mk : MethodId} {a : Array Value} (h : EnvW w U) : EnvW w (U.calling g mk a) := EnvW.warm (U := U.calling g mk a) (State.WarmedH.refl U) h
end
section
/-- locals by place: what is known of them -/
def lok (ad : Nat → Nat → Nat) (ls : Array Slot) (nL : Nat) (lv : List (Option MV)) : Prop := ls.size = nL ∧ lv_wf ls ∧ ∀ (i : Nat) (v : MV), lv[i]? = some (some v) → ls[i]? = some (.val (cv ad v))
def lpairs (ad : Nat → Nat → Nat) (lv : List (Option MV)) : List (Nat × Value) := (List.range lv.length).filterMap (fun i => match lv[i]? with
  | some (some v) => some (i, cv ad v)
  | _ => none)
theorem mem_lpairs {ad : Nat → Nat → Nat} {lv : List (Option MV)} {i : Nat} {v : MV} (h : lv[i]? = some (some v)) : (i, cv ad v) ∈ lpairs ad lv := by
  refine List.mem_filterMap.mpr ⟨i, List.mem_range.mpr (List.getElem?_eq_some_iff.mp h).1, ?_⟩
  rw [h]
theorem lpairs_mem {ad : Nat → Nat → Nat} {lv : List (Option MV)} {q : Nat × Value} (h : q ∈ lpairs ad lv) : ∃ v, lv[q.1]? = some (some v) ∧ q.2 = cv ad v := by
  obtain ⟨i, -, hi⟩ := List.mem_filterMap.mp h
  split at hi
  · rename_i v hv
    cases hi
    exact ⟨v, hv, rfl⟩
  · cases hi
theorem lok.has {ad : Nat → Nat → Nat} {ls : Array Slot} {nL : Nat} {lv : List (Option MV)} (h : lok ad ls nL lv) : lv_has ls nL (lpairs ad lv) := by
  refine ⟨h.1, h.2.1, fun q hq => ?_⟩
  obtain ⟨v, h1, h2⟩ := lpairs_mem hq
  rw [h2]
  exact h.2.2 q.1 v h1
/-- is the place before i known to hold a long -/
def pL (lv : List (Option MV)) : Nat → Bool
  | 0 => false
  | j + 1 => match lv[j]? with
    | some (some (.inr (.inl _))) => true
    | _ => false
def c1 : MV → Bool
  | .inr (.inl _) => false
  | _ => true
theorem c1_cat {ad : Nat → Nat → Nat} {v : MV} (h : c1 v = true) : (cv ad v).category = 1 := by
  match v, h with
  | .inl _, _ => rfl
  | .inr (.inr none), _ => rfl
  | .inr (.inr (some _)), _ => rfl
theorem cat2 {ad : Nat → Nat → Nat} {v : MV} (h : (cv ad v).category = 2) : c1 v = false := by
  match v, h with
  | .inr (.inl _), _ => rfl
theorem lok.s1 {ad : Nat → Nat → Nat} {ls' : Array Slot} {nL : Nat} {lv : List (Option MV)} {i : Nat} {v : MV} (hp : pL lv i = false) (h2 : lv_has ls' nL ((i, cv ad v) :: (lpairs ad lv).filter (fun q => !(q.1 == i) && !(q.1 + 1 == i && q.2.category == 2)))) : lok ad ls' nL (lv.set i (some v)) := by
  refine ⟨h2.1, h2.2.1, fun j u hj => ?_⟩
  rw [List.getElem?_set] at hj
  split at hj
  · rename_i hij
    subst hij
    split at hj
    · cases hj
      exact h2.2.2 (i, cv ad v) List.mem_cons_self
    · cases hj
  · rename_i hij
    refine h2.2.2 (j, cv ad u) (List.mem_cons_of_mem _ (List.mem_filter.mpr ⟨mem_lpairs hj, ?_⟩))
    by_cases hji : j + 1 = i
    · subst hji
      have : (cv ad u).category ≠ 2 := by
        intro hc2
        have h3 := cat2 hc2
        match u, h3 with
        | .inr (.inl x), _ => simp [pL, hj] at hp
      simp [this]
    · simp [hji]
      omega
theorem lok.s2 {ad : Nat → Nat → Nat} {ls' : Array Slot} {nL : Nat} {lv : List (Option MV)} {i : Nat} {x : Int64} (hp : pL lv i = false) (h2 : lv_has ls' nL ((i, .long x) :: (lpairs ad lv).filter (fun q => !(q.1 == i) && (!(q.1 == i + 1) && !(q.1 + 1 == i && q.2.category == 2))))) : lok ad ls' nL ((lv.set (i + 1) none).set i (some (vL x))) := by
  refine ⟨h2.1, h2.2.1, fun j u hj => ?_⟩
  rw [List.getElem?_set] at hj
  split at hj
  · rename_i hij
    subst hij
    split at hj
    · cases hj
      exact h2.2.2 (i, cv ad (vL x)) List.mem_cons_self
    · cases hj
  · rename_i hij
    rw [List.getElem?_set] at hj
    split at hj
    · split at hj
      · cases hj
      · cases hj
    · rename_i hij2
      refine h2.2.2 (j, cv ad u) (List.mem_cons_of_mem _ (List.mem_filter.mpr ⟨mem_lpairs hj, ?_⟩))
      by_cases hji : j + 1 = i
      · subst hji
        have : (cv ad u).category ≠ 2 := by
          intro hc2
          have h3 := cat2 hc2
          match u, h3 with
          | .inr (.inl x), _ => simp [pL, hj] at hp
        simp [this]
        omega
      · simp [hji]
        omega
abbrev MI : Type := MethodName × ByteArray × Nat × Option FieldType
abbrev MX : Type := Program × Launch × Env × Room × State × MethodId × Array Value × List Frame × Method × Code
abbrev MY : Type := WX × (Nat → Nat → Nat) × SS
abbrev RES : Type := Option MV × SS
def Qm (Y : MY) (res : RES) : Array Value → State → Outcome → State → Prop := fun _ _ o t =>
  ∃ ad : Nat → Nat → Nat, o = .returned (res.1.map (cv ad)) ∧ Rel Y.1 ad res.2 t.heap ∧ (∀ r i, alv Y.2.2 r i → alv res.2 r i ∧ ad r i = Y.2.1 r i) ∧ ∀ v, res.1 = some v → hal res.2 v
def okX (d : Nat) (X : MX) (Y : MY) (mi : MI) : Prop := X.1.tables.exec = Jvm.exec ∧ X.2.2.2.2.2.2.2.2.2.code = mi.2.1 ∧ X.2.2.2.2.2.2.2.2.1.sig.returnType = mi.2.2.2 ∧ X.2.2.2.2.2.2.2.2.2.maxLocals = mi.2.2.1 ∧ X.2.2.2.2.1.vm.findClass mi.1.cls = some X.2.2.2.2.2.1.cls ∧ X.2.2.2.2.2.2.2.2.1.locks = false ∧ EnvW Y.1 X.2.2.2.2.1 ∧ d ≤ X.2.2.2.1.frames ∧ 40 * d ≤ X.2.2.2.1.locals
/-- all that changes as a method runs -/
def Dyn (R : Room) (Y : MY) (b : Nat × Nat) (nL : Nat) (lv : List (Option MV)) (st : List MV) (σ : SS) (ad : Nat → Nat → Nat) (H : Heap) (locs : List Loc) (ls : Array Slot) (cells slots : Nat) : Prop :=
  Rel Y.1 ad σ H ∧ (∀ r i, alv Y.2.2 r i → alv σ r i ∧ ad r i = Y.2.1 r i) ∧ (∀ q ∈ locs, Y.1.2.2.1.size ≤ q.base) ∧ lok ad ls nL lv ∧ (∀ v, some v ∈ lv → hal σ v) ∧ (∀ v ∈ st, hal σ v) ∧ cells + b.1 = R.cells ∧ slots + b.2 = R.slots
/-- from this place of the method it returns res -/
def WM (d : Nat) (X : MX) (Y : MY) (b : Nat × Nat) (mi : MI) (pc : Nat) (lv : List (Option MV)) (st : List MV) (σ : SS) (res : RES) : Prop :=
  okX d X Y mi → ∀ (ad : Nat → Nat → Nat) (H : Heap) (locs : List Loc) (ls : Array Slot) (cells slots : Nat), Dyn X.2.2.2.1 Y b mi.2.2.1 lv st σ ad H locs ls cells slots →
    W X.1 X.2.1 X.2.2.1 X.2.2.2.1 X.2.2.2.2.1 X.2.2.2.2.2.1 X.2.2.2.2.2.2.1 X.2.2.2.2.2.2.2.1 X.2.2.2.2.2.2.2.2.1 X.2.2.2.2.2.2.2.2.2 H locs cells slots
      (MQ X.2.2.2.2.2.2.2.1 (Qm Y res) X.2.2.2.2.2.2.1 X.2.2.2.2.1 X.2.2.2.1.cells X.2.2.2.1.slots (fun q => Y.1.2.2.1.size ≤ q)) (F0 X.2.2.2.2.2.1 pc ls (st.map (cv ad)))
theorem Dyn.stk {R : Room} {Y : MY} {b : Nat × Nat} {nL : Nat} {lv : List (Option MV)} {st st' : List MV} {σ : SS} {ad : Nat → Nat → Nat} {H : Heap} {locs : List Loc} {ls : Array Slot} {cells slots : Nat} (h : Dyn R Y b nL lv st σ ad H locs ls cells slots) (h' : ∀ v ∈ st', hal σ v) : Dyn R Y b nL lv st' σ ad H locs ls cells slots :=
  ⟨h.1, h.2.1, h.2.2.1, h.2.2.2.1, h.2.2.2.2.1, h', h.2.2.2.2.2.2⟩
theorem Dyn.sto {R : Room} {Y : MY} {b : Nat × Nat} {nL : Nat} {lv lv' : List (Option MV)} {st st' : List MV} {σ : SS} {ad : Nat → Nat → Nat} {H : Heap} {locs : List Loc} {ls ls' : Array Slot} {cells slots : Nat} (h : Dyn R Y b nL lv st σ ad H locs ls cells slots) (hl : lok ad ls' nL lv') (hv : ∀ v, some v ∈ lv' → hal σ v) (h' : ∀ v ∈ st', hal σ v) : Dyn R Y b nL lv' st' σ ad H locs ls' cells slots :=
  ⟨h.1, h.2.1, h.2.2.1, hl, hv, h', h.2.2.2.2.2.2⟩
theorem Dyn.lv {R : Room} {Y : MY} {b : Nat × Nat} {nL : Nat} {lv : List (Option MV)} {st : List MV} {σ : SS} {ad : Nat → Nat → Nat} {H : Heap} {locs : List Loc} {ls : Array Slot} {cells slots : Nat} (h : Dyn R Y b nL lv st σ ad H locs ls cells slots) : lok ad ls nL lv := h.2.2.2.1
theorem Dyn.hst {R : Room} {Y : MY} {b : Nat × Nat} {nL : Nat} {lv : List (Option MV)} {st : List MV} {σ : SS} {ad : Nat → Nat → Nat} {H : Heap} {locs : List Loc} {ls : Array Slot} {cells slots : Nat} (h : Dyn R Y b nL lv st σ ad H locs ls cells slots) : ∀ v ∈ st, hal σ v := h.2.2.2.2.2.1
theorem Dyn.hlv {R : Room} {Y : MY} {b : Nat × Nat} {nL : Nat} {lv : List (Option MV)} {st : List MV} {σ : SS} {ad : Nat → Nat → Nat} {H : Heap} {locs : List Loc} {ls : Array Slot} {cells slots : Nat} (h : Dyn R Y b nL lv st σ ad H locs ls cells slots) : ∀ v, some v ∈ lv → hal σ v := h.2.2.2.2.1
end
section
section ROWS
variable {d : Nat} {X : MX} {Y : MY} {b : Nat × Nat} {mi : MI} {pc pc' : Nat} {lv : List (Option MV)} {st : List MV} {σ : SS} {res : RES}
theorem WM.lift {st' : List MV} (hs : (∀ v ∈ st, hal σ v) → (∀ v, some v ∈ lv → hal σ v) → ∀ v ∈ st', hal σ v)
    (row : ∀ {p : Program} {l : Launch} {e : Env} {R : Room} {s : State} {m : MethodId} {args : Array Value} {below : List Frame} {meth : Method} {c : Code} {H : Heap} {locs : List Loc} {cells slots : Nat} {Q : State → Prop} (ad : Nat → Nat → Nat) (ls : Array Slot), p.tables.exec = Jvm.exec → c.code = mi.2.1 → lok ad ls mi.2.2.1 lv →
      W p l e R s m args below meth c H locs cells slots Q (F0 m pc' ls (st'.map (cv ad))) → W p l e R s m args below meth c H locs cells slots Q (F0 m pc ls (st.map (cv ad))))
    (k : WM d X Y b mi pc' lv st' σ res) : WM d X Y b mi pc lv st σ res :=
  fun ok ad H locs ls cells slots h => row ad ls ok.1 ok.2.1 h.lv (k ok ad H locs ls cells slots (h.stk (hs h.hst h.hlv)))
theorem hc_ {v : MV} (hv : hal σ v) (h : ∀ u ∈ st, hal σ u) : ∀ u ∈ v :: st, hal σ u := List.forall_mem_cons.mpr ⟨hv, h⟩
theorem ht1 {v : MV} (h : ∀ u ∈ v :: st, hal σ u) : ∀ u ∈ st, hal σ u := (List.forall_mem_cons.mp h).2
theorem hh1 {v : MV} (h : ∀ u ∈ v :: st, hal σ u) : hal σ v := (List.forall_mem_cons.mp h).1
theorem r_iconst {n : Int} {x : Int32} (hd : decode mi.2.1 pc = .ok (.iconst n, 1)) (hv : Int32.ofInt n = x) (hp : pc + 1 = pc') (k : WM d X Y b mi pc' lv (vI x :: st) σ res) : WM d X Y b mi pc lv st σ res := by
  subst hp
  exact WM.lift (by exact fun h _ => hc_ trivial h) (fun ad ls hx hb _ k => lv_iconst hx hb hd hv k) k
theorem r_bipush {n : Int} {x : Int32} (hd : decode mi.2.1 pc = .ok (.bipush n, 2)) (hv : (Int8.ofInt n).toInt32 = x) (hp : pc + 2 = pc') (k : WM d X Y b mi pc' lv (vI x :: st) σ res) : WM d X Y b mi pc lv st σ res := by
  subst hp
  exact WM.lift (by exact fun h _ => hc_ trivial h) (fun ad ls hx hb _ k => lv_bipush hx hb hd hv k) k
theorem r_sipush {n : Int} {x : Int32} (hd : decode mi.2.1 pc = .ok (.sipush n, 3)) (hv : (Int16.ofInt n).toInt32 = x) (hp : pc + 3 = pc') (k : WM d X Y b mi pc' lv (vI x :: st) σ res) : WM d X Y b mi pc lv st σ res := by
  subst hp
  exact WM.lift (by exact fun h _ => hc_ trivial h) (fun ad ls hx hb _ k => lv_sipush hx hb hd hv k) k
theorem r_lconst {n : Fin 2} {x : Int64} (hd : decode mi.2.1 pc = .ok (.lconst n, 1)) (hv : Int64.ofNat (n : Nat) = x) (hp : pc + 1 = pc') (k : WM d X Y b mi pc' lv (vL x :: st) σ res) : WM d X Y b mi pc lv st σ res := by
  subst hp
  exact WM.lift (by exact fun h _ => hc_ trivial h) (fun ad ls hx hb _ k => lv_lconst hx hb hd hv k) k
theorem r_null (hd : decode mi.2.1 pc = .ok (.aconst_null, 1)) (hp : pc + 1 = pc') (k : WM d X Y b mi pc' lv (vN :: st) σ res) : WM d X Y b mi pc lv st σ res := by
  subst hp
  exact WM.lift (by exact fun h _ => hc_ trivial h) (fun ad ls hx hb _ k => lv_null hx hb hd k) k
theorem r_iload_n {n : Fin 4} {i : Nat} {x : Int32} (hd : decode mi.2.1 pc = .ok (.iload_n n, 1)) (hi : (n : Nat) = i) (hl : lv[i]? = some (some (vI x))) (hp : pc + 1 = pc') (k : WM d X Y b mi pc' lv (vI x :: st) σ res) : WM d X Y b mi pc lv st σ res := by
  subst hp
  exact WM.lift (by exact fun h _ => hc_ trivial h) (fun ad ls hx hb hL k => lv_iload_n hx hb hd hi (hL.2.2 i _ hl) k) k
theorem r_iload {i : Nat} {x : Int32} (hd : decode mi.2.1 pc = .ok (.iload i, 2)) (hl : lv[i]? = some (some (vI x))) (hp : pc + 2 = pc') (k : WM d X Y b mi pc' lv (vI x :: st) σ res) : WM d X Y b mi pc lv st σ res := by
  subst hp
  exact WM.lift (by exact fun h _ => hc_ trivial h) (fun ad ls hx hb hL k => lv_iload hx hb hd (hL.2.2 i _ hl) k) k
theorem r_lload_n {n : Fin 4} {i : Nat} {x : Int64} (hd : decode mi.2.1 pc = .ok (.lload_n n, 1)) (hi : (n : Nat) = i) (hl : lv[i]? = some (some (vL x))) (hp : pc + 1 = pc') (k : WM d X Y b mi pc' lv (vL x :: st) σ res) : WM d X Y b mi pc lv st σ res := by
  subst hp
  exact WM.lift (by exact fun h _ => hc_ trivial h) (fun ad ls hx hb hL k => lv_lload_n hx hb hd hi (hL.2.2 i _ hl) k) k
theorem r_lload {i : Nat} {x : Int64} (hd : decode mi.2.1 pc = .ok (.lload i, 2)) (hl : lv[i]? = some (some (vL x))) (hp : pc + 2 = pc') (k : WM d X Y b mi pc' lv (vL x :: st) σ res) : WM d X Y b mi pc lv st σ res := by
  subst hp
  exact WM.lift (by exact fun h _ => hc_ trivial h) (fun ad ls hx hb hL k => lv_lload hx hb hd (hL.2.2 i _ hl) k) k
theorem r_aload_n {n : Fin 4} {i : Nat} {q : Option (Nat × Nat)} (hd : decode mi.2.1 pc = .ok (.aload_n n, 1)) (hi : (n : Nat) = i) (hl : lv[i]? = some (some (.inr (.inr q)))) (hp : pc + 1 = pc') (k : WM d X Y b mi pc' lv (.inr (.inr q) :: st) σ res) : WM d X Y b mi pc lv st σ res := by
  subst hp
  refine WM.lift (by exact fun h h2 => hc_ (h2 _ (List.mem_of_getElem? hl)) h) (fun ad ls hx hb hL k => ?_) k
  cases q with
  | none => exact lv_aload_nN hx hb hd hi (hL.2.2 i _ hl) k
  | some q => exact lv_aload_n hx hb hd hi (hL.2.2 i _ hl) k
theorem r_aload {i : Nat} {q : Option (Nat × Nat)} (hd : decode mi.2.1 pc = .ok (.aload i, 2)) (hl : lv[i]? = some (some (.inr (.inr q)))) (hp : pc + 2 = pc') (k : WM d X Y b mi pc' lv (.inr (.inr q) :: st) σ res) : WM d X Y b mi pc lv st σ res := by
  subst hp
  refine WM.lift (by exact fun h h2 => hc_ (h2 _ (List.mem_of_getElem? hl)) h) (fun ad ls hx hb hL k => ?_) k
  cases q with
  | none => exact lv_aloadN hx hb hd (hL.2.2 i _ hl) k
  | some q => exact lv_aload hx hb hd (hL.2.2 i _ hl) k
theorem r_iadd {x y : Int32} (hd : decode mi.2.1 pc = .ok (.iadd, 1)) (hp : pc + 1 = pc') (k : WM d X Y b mi pc' lv (vI (x + y) :: st) σ res) : WM d X Y b mi pc lv (vI y :: vI x :: st) σ res := by
  subst hp
  exact WM.lift (by exact fun h _ => hc_ trivial (ht1 (ht1 h))) (fun ad ls hx hb _ k => lv_iadd hx hb hd k) k
theorem r_isub {x y : Int32} (hd : decode mi.2.1 pc = .ok (.isub, 1)) (hp : pc + 1 = pc') (k : WM d X Y b mi pc' lv (vI (x - y) :: st) σ res) : WM d X Y b mi pc lv (vI y :: vI x :: st) σ res := by
  subst hp
  exact WM.lift (by exact fun h _ => hc_ trivial (ht1 (ht1 h))) (fun ad ls hx hb _ k => lv_isub hx hb hd k) k
theorem r_imul {x y : Int32} (hd : decode mi.2.1 pc = .ok (.imul, 1)) (hp : pc + 1 = pc') (k : WM d X Y b mi pc' lv (vI (x * y) :: st) σ res) : WM d X Y b mi pc lv (vI y :: vI x :: st) σ res := by
  subst hp
  exact WM.lift (by exact fun h _ => hc_ trivial (ht1 (ht1 h))) (fun ad ls hx hb _ k => lv_imul hx hb hd k) k
theorem r_iand {x y : Int32} (hd : decode mi.2.1 pc = .ok (.iand, 1)) (hp : pc + 1 = pc') (k : WM d X Y b mi pc' lv (vI (x &&& y) :: st) σ res) : WM d X Y b mi pc lv (vI y :: vI x :: st) σ res := by
  subst hp
  exact WM.lift (by exact fun h _ => hc_ trivial (ht1 (ht1 h))) (fun ad ls hx hb _ k => lv_iand hx hb hd k) k
theorem r_ior {x y : Int32} (hd : decode mi.2.1 pc = .ok (.ior, 1)) (hp : pc + 1 = pc') (k : WM d X Y b mi pc' lv (vI (x ||| y) :: st) σ res) : WM d X Y b mi pc lv (vI y :: vI x :: st) σ res := by
  subst hp
  exact WM.lift (by exact fun h _ => hc_ trivial (ht1 (ht1 h))) (fun ad ls hx hb _ k => lv_ior hx hb hd k) k
theorem r_ixor {x y : Int32} (hd : decode mi.2.1 pc = .ok (.ixor, 1)) (hp : pc + 1 = pc') (k : WM d X Y b mi pc' lv (vI (x ^^^ y) :: st) σ res) : WM d X Y b mi pc lv (vI y :: vI x :: st) σ res := by
  subst hp
  exact WM.lift (by exact fun h _ => hc_ trivial (ht1 (ht1 h))) (fun ad ls hx hb _ k => lv_ixor hx hb hd k) k
theorem r_ishl {x y : Int32} (hd : decode mi.2.1 pc = .ok (.ishl, 1)) (hp : pc + 1 = pc') (k : WM d X Y b mi pc' lv (vI (x <<< (y &&& 31)) :: st) σ res) : WM d X Y b mi pc lv (vI y :: vI x :: st) σ res := by
  subst hp
  exact WM.lift (by exact fun h _ => hc_ trivial (ht1 (ht1 h))) (fun ad ls hx hb _ k => lv_ishl hx hb hd k) k
theorem r_ishr {x y : Int32} (hd : decode mi.2.1 pc = .ok (.ishr, 1)) (hp : pc + 1 = pc') (k : WM d X Y b mi pc' lv (vI (x >>> (y &&& 31)) :: st) σ res) : WM d X Y b mi pc lv (vI y :: vI x :: st) σ res := by
  subst hp
  exact WM.lift (by exact fun h _ => hc_ trivial (ht1 (ht1 h))) (fun ad ls hx hb _ k => lv_ishr hx hb hd k) k
theorem r_ladd {x y : Int64} (hd : decode mi.2.1 pc = .ok (.ladd, 1)) (hp : pc + 1 = pc') (k : WM d X Y b mi pc' lv (vL (x + y) :: st) σ res) : WM d X Y b mi pc lv (vL y :: vL x :: st) σ res := by
  subst hp
  exact WM.lift (by exact fun h _ => hc_ trivial (ht1 (ht1 h))) (fun ad ls hx hb _ k => lv_ladd hx hb hd k) k
theorem r_lsub {x y : Int64} (hd : decode mi.2.1 pc = .ok (.lsub, 1)) (hp : pc + 1 = pc') (k : WM d X Y b mi pc' lv (vL (x - y) :: st) σ res) : WM d X Y b mi pc lv (vL y :: vL x :: st) σ res := by
  subst hp
  exact WM.lift (by exact fun h _ => hc_ trivial (ht1 (ht1 h))) (fun ad ls hx hb _ k => lv_lsub hx hb hd k) k
theorem r_lmul {x y : Int64} (hd : decode mi.2.1 pc = .ok (.lmul, 1)) (hp : pc + 1 = pc') (k : WM d X Y b mi pc' lv (vL (x * y) :: st) σ res) : WM d X Y b mi pc lv (vL y :: vL x :: st) σ res := by
  subst hp
  exact WM.lift (by exact fun h _ => hc_ trivial (ht1 (ht1 h))) (fun ad ls hx hb _ k => lv_lmul hx hb hd k) k
theorem r_land {x y : Int64} (hd : decode mi.2.1 pc = .ok (.land, 1)) (hp : pc + 1 = pc') (k : WM d X Y b mi pc' lv (vL (x &&& y) :: st) σ res) : WM d X Y b mi pc lv (vL y :: vL x :: st) σ res := by
  subst hp
  exact WM.lift (by exact fun h _ => hc_ trivial (ht1 (ht1 h))) (fun ad ls hx hb _ k => lv_land hx hb hd k) k
theorem r_lor {x y : Int64} (hd : decode mi.2.1 pc = .ok (.lor, 1)) (hp : pc + 1 = pc') (k : WM d X Y b mi pc' lv (vL (x ||| y) :: st) σ res) : WM d X Y b mi pc lv (vL y :: vL x :: st) σ res := by
  subst hp
  exact WM.lift (by exact fun h _ => hc_ trivial (ht1 (ht1 h))) (fun ad ls hx hb _ k => lv_lor hx hb hd k) k
theorem r_idiv {x y : Int32} (hd : decode mi.2.1 pc = .ok (.idiv, 1)) (hne : ¬ y = 0) (hp : pc + 1 = pc') (k : WM d X Y b mi pc' lv (vI (x / y) :: st) σ res) : WM d X Y b mi pc lv (vI y :: vI x :: st) σ res := by
  subst hp
  exact WM.lift (by exact fun h _ => hc_ trivial (ht1 (ht1 h))) (fun ad ls hx hb _ k => lv_idiv hx hb hd hne k) k
theorem r_irem {x y : Int32} (hd : decode mi.2.1 pc = .ok (.irem, 1)) (hne : ¬ y = 0) (hp : pc + 1 = pc') (k : WM d X Y b mi pc' lv (vI (x - x / y * y) :: st) σ res) : WM d X Y b mi pc lv (vI y :: vI x :: st) σ res := by
  subst hp
  exact WM.lift (by exact fun h _ => hc_ trivial (ht1 (ht1 h))) (fun ad ls hx hb _ k => lv_irem hx hb hd hne k) k
theorem r_ineg {x : Int32} (hd : decode mi.2.1 pc = .ok (.ineg, 1)) (hp : pc + 1 = pc') (k : WM d X Y b mi pc' lv (vI (-x) :: st) σ res) : WM d X Y b mi pc lv (vI x :: st) σ res := by
  subst hp
  exact WM.lift (by exact fun h _ => hc_ trivial (ht1 h)) (fun ad ls hx hb _ k => lv_ineg hx hb hd k) k
theorem r_i2l {x : Int32} (hd : decode mi.2.1 pc = .ok (.i2l, 1)) (hp : pc + 1 = pc') (k : WM d X Y b mi pc' lv (vL x.toInt64 :: st) σ res) : WM d X Y b mi pc lv (vI x :: st) σ res := by
  subst hp
  exact WM.lift (by exact fun h _ => hc_ trivial (ht1 h)) (fun ad ls hx hb _ k => lv_i2l hx hb hd rfl k) k
theorem r_iushr {x y : Int32} (hd : decode mi.2.1 pc = .ok (.iushr, 1)) (hp : pc + 1 = pc') (k : WM d X Y b mi pc' lv (vI (x.toUInt32 >>> (y.toUInt32 &&& Int32.toUInt32 31)).toInt32 :: st) σ res) : WM d X Y b mi pc lv (vI y :: vI x :: st) σ res := by
  subst hp
  exact WM.lift (by exact fun h _ => hc_ trivial (ht1 (ht1 h))) (fun ad ls hx hb _ k => lv_iushr hx hb hd rfl k) k
theorem r_lshl {x : Int64} {y : Int32} (hd : decode mi.2.1 pc = .ok (.lshl, 1)) (hp : pc + 1 = pc') (k : WM d X Y b mi pc' lv (vL (x <<< (y.toInt64 &&& 63)) :: st) σ res) : WM d X Y b mi pc lv (vI y :: vL x :: st) σ res := by
  subst hp
  exact WM.lift (by exact fun h _ => hc_ trivial (ht1 (ht1 h))) (fun ad ls hx hb _ k => lv_lshl hx hb hd rfl k) k
theorem r_lshr {x : Int64} {y : Int32} (hd : decode mi.2.1 pc = .ok (.lshr, 1)) (hp : pc + 1 = pc') (k : WM d X Y b mi pc' lv (vL (x >>> (y.toInt64 &&& 63)) :: st) σ res) : WM d X Y b mi pc lv (vI y :: vL x :: st) σ res := by
  subst hp
  exact WM.lift (by exact fun h _ => hc_ trivial (ht1 (ht1 h))) (fun ad ls hx hb _ k => lv_lshr hx hb hd rfl k) k
theorem r_dup {v : MV} (hd : decode mi.2.1 pc = .ok (.dup, 1)) (hv : c1 v = true) (hp : pc + 1 = pc') (k : WM d X Y b mi pc' lv (v :: v :: st) σ res) : WM d X Y b mi pc lv (v :: st) σ res := by
  subst hp
  exact WM.lift (by exact fun h _ => hc_ (hh1 h) h) (fun ad ls hx hb _ k => lv_dup hx hb hd (c1_cat hv) k) k
theorem r_pop {v : MV} (hd : decode mi.2.1 pc = .ok (.pop, 1)) (hv : c1 v = true) (hp : pc + 1 = pc') (k : WM d X Y b mi pc' lv st σ res) : WM d X Y b mi pc lv (v :: st) σ res := by
  subst hp
  exact WM.lift (by exact fun h _ => ht1 h) (fun ad ls hx hb _ k => lv_pop hx hb hd (c1_cat hv) k) k
theorem r_dup_x1 {v u : MV} (hd : decode mi.2.1 pc = .ok (.dup_x1, 1)) (hv : c1 v = true) (hu : c1 u = true) (hp : pc + 1 = pc') (k : WM d X Y b mi pc' lv (v :: u :: v :: st) σ res) : WM d X Y b mi pc lv (v :: u :: st) σ res := by
  subst hp
  exact WM.lift (by exact fun h _ => hc_ (hh1 h) (hc_ (hh1 (ht1 h)) (hc_ (hh1 h) (ht1 (ht1 h))))) (fun ad ls hx hb _ k => lv_dup_x1 hx hb hd (c1_cat hv) (c1_cat hu) k) k
theorem r_dup2 {v u : MV} (hd : decode mi.2.1 pc = .ok (.dup2, 1)) (hv : c1 v = true) (hu : c1 u = true) (hp : pc + 1 = pc') (k : WM d X Y b mi pc' lv (v :: u :: v :: u :: st) σ res) : WM d X Y b mi pc lv (v :: u :: st) σ res := by
  subst hp
  exact WM.lift (by exact fun h _ => hc_ (hh1 h) (hc_ (hh1 (ht1 h)) h)) (fun ad ls hx hb _ k => lv_dup2_11 hx hb hd (c1_cat hv) (c1_cat hu) k) k
theorem r_goto {off : Int} (hd : decode mi.2.1 pc = .ok (.goto off, 3)) (ht : (pc : Int) + off = (pc' : Int)) (k : WM d X Y b mi pc' lv st σ res) : WM d X Y b mi pc lv st σ res :=
  WM.lift (by exact fun h _ => h) (fun ad ls hx hb _ k => lv_goto hx hb hd ht k) k
theorem WM.lift2 {st' : List MV} {pcT pcF : Nat} {c : Prop} (hs : (∀ v ∈ st, hal σ v) → ∀ v ∈ st', hal σ v)
    (row : ∀ {p : Program} {l : Launch} {e : Env} {R : Room} {s : State} {m : MethodId} {args : Array Value} {below : List Frame} {meth : Method} {cd : Code} {H : Heap} {locs : List Loc} {cells slots : Nat} {Q : State → Prop} (ad : Nat → Nat → Nat) (ls : Array Slot), p.tables.exec = Jvm.exec → cd.code = mi.2.1 →
      (c → W p l e R s m args below meth cd H locs cells slots Q (F0 m pcT ls (st'.map (cv ad)))) → (¬ c → W p l e R s m args below meth cd H locs cells slots Q (F0 m pcF ls (st'.map (cv ad)))) → W p l e R s m args below meth cd H locs cells slots Q (F0 m pc ls (st.map (cv ad))))
    (kT : c → WM d X Y b mi pcT lv st' σ res) (kF : ¬ c → WM d X Y b mi pcF lv st' σ res) : WM d X Y b mi pc lv st σ res :=
  fun ok ad H locs ls cells slots h => row ad ls ok.1 ok.2.1 (fun hcd => kT hcd ok ad H locs ls cells slots (h.stk (hs h.hst))) (fun hcd => kF hcd ok ad H locs ls cells slots (h.stk (hs h.hst)))
theorem r_icmp_eq {α : Type} {A B : Option α} {rr : α} {x y : Int32} {off : Int} {pcT : Nat} (hd : decode mi.2.1 pc = .ok (.if_icmp .eq off, 3)) (ht : (pc : Int) + off = (pcT : Int)) (hp : pc + 3 = pc') (h : (if x = y then A else B) = some rr) (kT : x = y → A = some rr → WM d X Y b mi pcT lv st σ res) (kF : ¬ (x = y) → B = some rr → WM d X Y b mi pc' lv st σ res) : WM d X Y b mi pc lv (vI y :: vI x :: st) σ res := by
  subst hp
  exact WM.lift2 (c := x = y) (by exact fun h => ht1 (ht1 h)) (fun ad ls hx hb kT kF => lv_icmp_eq hx hb hd ht kT kF) (fun hc => kT hc (by rw [if_pos hc] at h; exact h)) (fun hc => kF hc (by rw [if_neg hc] at h; exact h))
theorem r_if_eq {α : Type} {A B : Option α} {rr : α} {x : Int32} {off : Int} {pcT : Nat} (hd : decode mi.2.1 pc = .ok (.ifCond .eq off, 3)) (ht : (pc : Int) + off = (pcT : Int)) (hp : pc + 3 = pc') (h : (if x = 0 then A else B) = some rr) (kT : x = 0 → A = some rr → WM d X Y b mi pcT lv st σ res) (kF : ¬ (x = 0) → B = some rr → WM d X Y b mi pc' lv st σ res) : WM d X Y b mi pc lv (vI x :: st) σ res := by
  subst hp
  exact WM.lift2 (c := x = 0) (by exact fun h => ht1 h) (fun ad ls hx hb kT kF => lv_if_eq hx hb hd ht kT kF) (fun hc => kT hc (by rw [if_pos hc] at h; exact h)) (fun hc => kF hc (by rw [if_neg hc] at h; exact h))
theorem r_icmp_lt {α : Type} {A B : Option α} {rr : α} {x y : Int32} {off : Int} {pcT : Nat} (hd : decode mi.2.1 pc = .ok (.if_icmp .lt off, 3)) (ht : (pc : Int) + off = (pcT : Int)) (hp : pc + 3 = pc') (h : (if x < y then A else B) = some rr) (kT : x < y → A = some rr → WM d X Y b mi pcT lv st σ res) (kF : ¬ (x < y) → B = some rr → WM d X Y b mi pc' lv st σ res) : WM d X Y b mi pc lv (vI y :: vI x :: st) σ res := by
  subst hp
  exact WM.lift2 (c := x < y) (by exact fun h => ht1 (ht1 h)) (fun ad ls hx hb kT kF => lv_icmp_lt hx hb hd ht kT kF) (fun hc => kT hc (by rw [if_pos hc] at h; exact h)) (fun hc => kF hc (by rw [if_neg hc] at h; exact h))
theorem r_if_lt {α : Type} {A B : Option α} {rr : α} {x : Int32} {off : Int} {pcT : Nat} (hd : decode mi.2.1 pc = .ok (.ifCond .lt off, 3)) (ht : (pc : Int) + off = (pcT : Int)) (hp : pc + 3 = pc') (h : (if x < 0 then A else B) = some rr) (kT : x < 0 → A = some rr → WM d X Y b mi pcT lv st σ res) (kF : ¬ (x < 0) → B = some rr → WM d X Y b mi pc' lv st σ res) : WM d X Y b mi pc lv (vI x :: st) σ res := by
  subst hp
  exact WM.lift2 (c := x < 0) (by exact fun h => ht1 h) (fun ad ls hx hb kT kF => lv_if_lt hx hb hd ht kT kF) (fun hc => kT hc (by rw [if_pos hc] at h; exact h)) (fun hc => kF hc (by rw [if_neg hc] at h; exact h))
theorem r_icmp_ge {α : Type} {A B : Option α} {rr : α} {x y : Int32} {off : Int} {pcT : Nat} (hd : decode mi.2.1 pc = .ok (.if_icmp .ge off, 3)) (ht : (pc : Int) + off = (pcT : Int)) (hp : pc + 3 = pc') (h : (if y ≤ x then A else B) = some rr) (kT : y ≤ x → A = some rr → WM d X Y b mi pcT lv st σ res) (kF : ¬ (y ≤ x) → B = some rr → WM d X Y b mi pc' lv st σ res) : WM d X Y b mi pc lv (vI y :: vI x :: st) σ res := by
  subst hp
  exact WM.lift2 (c := y ≤ x) (by exact fun h => ht1 (ht1 h)) (fun ad ls hx hb kT kF => lv_icmp_ge hx hb hd ht kT kF) (fun hc => kT hc (by rw [if_pos hc] at h; exact h)) (fun hc => kF hc (by rw [if_neg hc] at h; exact h))
theorem r_if_ge {α : Type} {A B : Option α} {rr : α} {x : Int32} {off : Int} {pcT : Nat} (hd : decode mi.2.1 pc = .ok (.ifCond .ge off, 3)) (ht : (pc : Int) + off = (pcT : Int)) (hp : pc + 3 = pc') (h : (if 0 ≤ x then A else B) = some rr) (kT : 0 ≤ x → A = some rr → WM d X Y b mi pcT lv st σ res) (kF : ¬ (0 ≤ x) → B = some rr → WM d X Y b mi pc' lv st σ res) : WM d X Y b mi pc lv (vI x :: st) σ res := by
  subst hp
  exact WM.lift2 (c := 0 ≤ x) (by exact fun h => ht1 h) (fun ad ls hx hb kT kF => lv_if_ge hx hb hd ht kT kF) (fun hc => kT hc (by rw [if_pos hc] at h; exact h)) (fun hc => kF hc (by rw [if_neg hc] at h; exact h))
theorem r_icmp_gt {α : Type} {A B : Option α} {rr : α} {x y : Int32} {off : Int} {pcT : Nat} (hd : decode mi.2.1 pc = .ok (.if_icmp .gt off, 3)) (ht : (pc : Int) + off = (pcT : Int)) (hp : pc + 3 = pc') (h : (if y < x then A else B) = some rr) (kT : y < x → A = some rr → WM d X Y b mi pcT lv st σ res) (kF : ¬ (y < x) → B = some rr → WM d X Y b mi pc' lv st σ res) : WM d X Y b mi pc lv (vI y :: vI x :: st) σ res := by
  subst hp
  exact WM.lift2 (c := y < x) (by exact fun h => ht1 (ht1 h)) (fun ad ls hx hb kT kF => lv_icmp_gt hx hb hd ht kT kF) (fun hc => kT hc (by rw [if_pos hc] at h; exact h)) (fun hc => kF hc (by rw [if_neg hc] at h; exact h))
theorem r_if_gt {α : Type} {A B : Option α} {rr : α} {x : Int32} {off : Int} {pcT : Nat} (hd : decode mi.2.1 pc = .ok (.ifCond .gt off, 3)) (ht : (pc : Int) + off = (pcT : Int)) (hp : pc + 3 = pc') (h : (if 0 < x then A else B) = some rr) (kT : 0 < x → A = some rr → WM d X Y b mi pcT lv st σ res) (kF : ¬ (0 < x) → B = some rr → WM d X Y b mi pc' lv st σ res) : WM d X Y b mi pc lv (vI x :: st) σ res := by
  subst hp
  exact WM.lift2 (c := 0 < x) (by exact fun h => ht1 h) (fun ad ls hx hb kT kF => lv_if_gt hx hb hd ht kT kF) (fun hc => kT hc (by rw [if_pos hc] at h; exact h)) (fun hc => kF hc (by rw [if_neg hc] at h; exact h))
theorem r_icmp_le {α : Type} {A B : Option α} {rr : α} {x y : Int32} {off : Int} {pcT : Nat} (hd : decode mi.2.1 pc = .ok (.if_icmp .le off, 3)) (ht : (pc : Int) + off = (pcT : Int)) (hp : pc + 3 = pc') (h : (if x ≤ y then A else B) = some rr) (kT : x ≤ y → A = some rr → WM d X Y b mi pcT lv st σ res) (kF : ¬ (x ≤ y) → B = some rr → WM d X Y b mi pc' lv st σ res) : WM d X Y b mi pc lv (vI y :: vI x :: st) σ res := by
  subst hp
  exact WM.lift2 (c := x ≤ y) (by exact fun h => ht1 (ht1 h)) (fun ad ls hx hb kT kF => lv_icmp_le hx hb hd ht kT kF) (fun hc => kT hc (by rw [if_pos hc] at h; exact h)) (fun hc => kF hc (by rw [if_neg hc] at h; exact h))
theorem r_if_le {α : Type} {A B : Option α} {rr : α} {x : Int32} {off : Int} {pcT : Nat} (hd : decode mi.2.1 pc = .ok (.ifCond .le off, 3)) (ht : (pc : Int) + off = (pcT : Int)) (hp : pc + 3 = pc') (h : (if x ≤ 0 then A else B) = some rr) (kT : x ≤ 0 → A = some rr → WM d X Y b mi pcT lv st σ res) (kF : ¬ (x ≤ 0) → B = some rr → WM d X Y b mi pc' lv st σ res) : WM d X Y b mi pc lv (vI x :: st) σ res := by
  subst hp
  exact WM.lift2 (c := x ≤ 0) (by exact fun h => ht1 h) (fun ad ls hx hb kT kF => lv_if_le hx hb hd ht kT kF) (fun hc => kT hc (by rw [if_pos hc] at h; exact h)) (fun hc => kF hc (by rw [if_neg hc] at h; exact h))
theorem r_icmp_ne {α : Type} {A B : Option α} {rr : α} {x y : Int32} {off : Int} {pcT : Nat} (hd : decode mi.2.1 pc = .ok (.if_icmp .ne off, 3)) (ht : (pc : Int) + off = (pcT : Int)) (hp : pc + 3 = pc') (h : (if x = y then A else B) = some rr) (kT : x = y → A = some rr → WM d X Y b mi pc' lv st σ res) (kF : ¬ (x = y) → B = some rr → WM d X Y b mi pcT lv st σ res) : WM d X Y b mi pc lv (vI y :: vI x :: st) σ res := by
  subst hp
  exact WM.lift2 (c := x = y) (by exact fun h => ht1 (ht1 h)) (fun ad ls hx hb kT kF => lv_icmp_ne hx hb hd ht kF kT) (fun hc => kT hc (by rw [if_pos hc] at h; exact h)) (fun hc => kF hc (by rw [if_neg hc] at h; exact h))
theorem r_if_ne {α : Type} {A B : Option α} {rr : α} {x : Int32} {off : Int} {pcT : Nat} (hd : decode mi.2.1 pc = .ok (.ifCond .ne off, 3)) (ht : (pc : Int) + off = (pcT : Int)) (hp : pc + 3 = pc') (h : (if x = 0 then A else B) = some rr) (kT : x = 0 → A = some rr → WM d X Y b mi pc' lv st σ res) (kF : ¬ (x = 0) → B = some rr → WM d X Y b mi pcT lv st σ res) : WM d X Y b mi pc lv (vI x :: st) σ res := by
  subst hp
  exact WM.lift2 (c := x = 0) (by exact fun h => ht1 h) (fun ad ls hx hb kT kF => lv_if_ne hx hb hd ht kF kT) (fun hc => kT hc (by rw [if_pos hc] at h; exact h)) (fun hc => kF hc (by rw [if_neg hc] at h; exact h))
theorem r_ifnull {α : Type} {A : Option α} {B : Nat → Option α} {rr : α} {r : Nat} {q : Option Nat} {off : Int} {pcT : Nat} (hd : decode mi.2.1 pc = .ok (.ifnull off, 3)) (ht : (pc : Int) + off = (pcT : Int)) (hp : pc + 3 = pc') (h : q.elim A B = some rr) (kT : q = none → A = some rr → WM d X Y b mi pcT lv st σ res) (kF : ∀ i, q = some i → B i = some rr → WM d X Y b mi pc' lv st σ res) : WM d X Y b mi pc lv (vO r q :: st) σ res := by
  subst hp
  cases q with
  | none => exact WM.lift (by exact fun h _ => ht1 h) (fun ad ls hx hb _ k => lv_ifnullN hx hb hd ht k) (kT rfl h)
  | some i => exact WM.lift (by exact fun h _ => ht1 h) (fun ad ls hx hb _ k => lv_ifnull hx hb hd k) (kF i rfl h)
theorem r_ifnonnull {α : Type} {A : Option α} {B : Nat → Option α} {rr : α} {r : Nat} {q : Option Nat} {off : Int} {pcT : Nat} (hd : decode mi.2.1 pc = .ok (.ifnonnull off, 3)) (ht : (pc : Int) + off = (pcT : Int)) (hp : pc + 3 = pc') (h : q.elim A B = some rr) (kT : q = none → A = some rr → WM d X Y b mi pc' lv st σ res) (kF : ∀ i, q = some i → B i = some rr → WM d X Y b mi pcT lv st σ res) : WM d X Y b mi pc lv (vO r q :: st) σ res := by
  subst hp
  cases q with
  | none => exact WM.lift (by exact fun h _ => ht1 h) (fun ad ls hx hb _ k => lv_ifnonnullN hx hb hd k) (kT rfl h)
  | some i => exact WM.lift (by exact fun h _ => ht1 h) (fun ad ls hx hb _ k => lv_ifnonnull hx hb hd ht k) (kF i rfl h)
theorem hset {lv : List (Option MV)} {i : Nat} {v : MV} (h : ∀ u, some u ∈ lv → hal σ u) (hv : hal σ v) : ∀ u, some u ∈ lv.set i (some v) → hal σ u := fun u hu => by
  rcases List.mem_or_eq_of_mem_set hu with h1 | h1
  · exact h u h1
  · cases h1
    exact hv
theorem hsetN {lv : List (Option MV)} {i : Nat} (h : ∀ u, some u ∈ lv → hal σ u) : ∀ u, some u ∈ lv.set i none → hal σ u := fun u hu => by
  rcases List.mem_or_eq_of_mem_set hu with h1 | h1
  · exact h u h1
  · cases h1
theorem r_istore {i : Nat} {x : Int32} (hd : decode mi.2.1 pc = .ok (.istore i, 2)) (hn : Nat.blt i mi.2.2.1 = true) (hl : pL lv i = false) (hp : pc + 2 = pc') (k : WM d X Y b mi pc' (lv.set i (some (vI x))) st σ res) : WM d X Y b mi pc lv (vI x :: st) σ res := by
  subst hp
  intro ok ad H locs ls cells slots h
  exact lv_istore ok.1 ok.2.1 hd h.lv.has (by simpa using hn) rfl (fun ls' h2 => k ok ad H locs ls' cells slots (h.sto (lok.s1 (v := vI x) hl h2) (hset h.hlv (hh1 h.hst)) (ht1 h.hst)))
theorem r_istore_n {i : Nat} {n : Fin 4} {x : Int32} (hd : decode mi.2.1 pc = .ok (.istore_n n, 1)) (hi : (n : Nat) = i) (hn : Nat.blt i mi.2.2.1 = true) (hl : pL lv i = false) (hp : pc + 1 = pc') (k : WM d X Y b mi pc' (lv.set i (some (vI x))) st σ res) : WM d X Y b mi pc lv (vI x :: st) σ res := by
  subst hp
  intro ok ad H locs ls cells slots h
  exact lv_istore_n ok.1 ok.2.1 hd hi h.lv.has (by simpa using hn) rfl (fun ls' h2 => k ok ad H locs ls' cells slots (h.sto (lok.s1 (v := vI x) hl h2) (hset h.hlv (hh1 h.hst)) (ht1 h.hst)))
theorem r_astore {i : Nat} {q : Option (Nat × Nat)} (hd : decode mi.2.1 pc = .ok (.astore i, 2)) (hn : Nat.blt i mi.2.2.1 = true) (hl : pL lv i = false) (hp : pc + 2 = pc') (k : WM d X Y b mi pc' (lv.set i (some (.inr (.inr q)))) st σ res) : WM d X Y b mi pc lv (.inr (.inr q) :: st) σ res := by
  subst hp
  intro ok ad H locs ls cells slots h
  cases q with
  | none => exact lv_astoreN ok.1 ok.2.1 hd h.lv.has (by simpa using hn) rfl (fun ls' h2 => k ok ad H locs ls' cells slots (h.sto (lok.s1 (v := vN) hl h2) (hset h.hlv (hh1 h.hst)) (ht1 h.hst)))
  | some q => exact lv_astore ok.1 ok.2.1 hd h.lv.has (by simpa using hn) rfl (fun ls' h2 => k ok ad H locs ls' cells slots (h.sto (lok.s1 (v := .inr (.inr (some q))) hl h2) (hset h.hlv (hh1 h.hst)) (ht1 h.hst)))
theorem r_astore_n {i : Nat} {n : Fin 4} {q : Option (Nat × Nat)} (hd : decode mi.2.1 pc = .ok (.astore_n n, 1)) (hi : (n : Nat) = i) (hn : Nat.blt i mi.2.2.1 = true) (hl : pL lv i = false) (hp : pc + 1 = pc') (k : WM d X Y b mi pc' (lv.set i (some (.inr (.inr q)))) st σ res) : WM d X Y b mi pc lv (.inr (.inr q) :: st) σ res := by
  subst hp
  intro ok ad H locs ls cells slots h
  cases q with
  | none => exact lv_astore_nN ok.1 ok.2.1 hd hi h.lv.has (by simpa using hn) rfl (fun ls' h2 => k ok ad H locs ls' cells slots (h.sto (lok.s1 (v := vN) hl h2) (hset h.hlv (hh1 h.hst)) (ht1 h.hst)))
  | some q => exact lv_astore_n ok.1 ok.2.1 hd hi h.lv.has (by simpa using hn) rfl (fun ls' h2 => k ok ad H locs ls' cells slots (h.sto (lok.s1 (v := .inr (.inr (some q))) hl h2) (hset h.hlv (hh1 h.hst)) (ht1 h.hst)))
theorem r_lstore {i : Nat} {x : Int64} (hd : decode mi.2.1 pc = .ok (.lstore i, 2)) (hn : Nat.blt (i + 1) mi.2.2.1 = true) (hl : pL lv i = false) (hp : pc + 2 = pc') (k : WM d X Y b mi pc' ((lv.set (i + 1) none).set i (some (vL x))) st σ res) : WM d X Y b mi pc lv (vL x :: st) σ res := by
  subst hp
  intro ok ad H locs ls cells slots h
  exact lv_lstore ok.1 ok.2.1 hd h.lv.has (by simpa using hn) rfl (fun ls' h2 => k ok ad H locs ls' cells slots (h.sto (lok.s2 hl h2) (hset (hsetN h.hlv) (hh1 h.hst)) (ht1 h.hst)))
theorem r_lstore_n {i : Nat} {n : Fin 4} {x : Int64} (hd : decode mi.2.1 pc = .ok (.lstore_n n, 1)) (hi : (n : Nat) = i) (hn : Nat.blt (i + 1) mi.2.2.1 = true) (hl : pL lv i = false) (hp : pc + 1 = pc') (k : WM d X Y b mi pc' ((lv.set (i + 1) none).set i (some (vL x))) st σ res) : WM d X Y b mi pc lv (vL x :: st) σ res := by
  subst hp
  intro ok ad H locs ls cells slots h
  exact lv_lstore_n ok.1 ok.2.1 hd hi h.lv.has (by simpa using hn) rfl (fun ls' h2 => k ok ad H locs ls' cells slots (h.sto (lok.s2 hl h2) (hset (hsetN h.hlv) (hh1 h.hst)) (ht1 h.hst)))
theorem r_iinc {i : Nat} {n : Int} {x v : Int32} (hd : decode mi.2.1 pc = .ok (.iinc i n, 3)) (hx : lv[i]? = some (some (vI x))) (hv : x + Int32.ofInt n = v) (hn : Nat.blt i mi.2.2.1 = true) (hl : pL lv i = false) (hp : pc + 3 = pc') (k : WM d X Y b mi pc' (lv.set i (some (vI v))) st σ res) : WM d X Y b mi pc lv st σ res := by
  subst hp
  intro ok ad H locs ls cells slots h
  have h0 : lv_has ls mi.2.2.1 ((i, Value.int x) :: lpairs ad lv) := ⟨h.lv.1, h.lv.2.1, fun q hq => by
    rcases List.mem_cons.mp hq with e | e
    · rw [e]
      exact h.lv.2.2 i _ hx
    · exact h.lv.has.2.2 q e⟩
  refine lv_iinc ok.1 ok.2.1 hd h0 (k := 0) rfl hv (by simpa using hn) rfl (fun ls' h2 => k ok ad H locs ls' cells slots (h.sto (lok.s1 (v := vI v) hl ?_) (hset h.hlv trivial) h.hst))
  rw [List.filter_cons_of_neg (by simp)] at h2
  exact h2
def drp (lv : List (Option MV)) : List Nat → List (Option MV)
  | [] => lv
  | k :: ks => drp (lv.set k none) ks
theorem drp_get {i : Nat} {v : MV} : ∀ (ks : List Nat) (lv : List (Option MV)), (drp lv ks)[i]? = some (some v) → lv[i]? = some (some v)
  | [], _, h => h
  | k :: ks, lv, h => by
    have h1 := drp_get ks _ h
    rw [List.getElem?_set] at h1
    split at h1
    · split at h1 <;> cases h1
    · exact h1
theorem WM.drop (ks : List Nat) {lv' : List (Option MV)} (he : drp lv ks = lv') (k : WM d X Y b mi pc lv' st σ res) : WM d X Y b mi pc lv st σ res := by
  subst he
  intro ok ad H locs ls cells slots h
  refine k ok ad H locs ls cells slots ⟨h.1, h.2.1, h.2.2.1, ⟨h.lv.1, h.lv.2.1, fun i v hi => h.lv.2.2 i v (drp_get ks lv hi)⟩, fun v hv => ?_, h.2.2.2.2.2⟩
  obtain ⟨i, hi⟩ := List.mem_iff_getElem?.mp hv
  exact h.hlv v (List.mem_of_getElem? (drp_get ks lv hi))
end ROWS
end
section
/-! ===== fields, arrays ===== -/
abbrev inr (j : Int32) (n : Nat) : Prop := ¬ (j < 0 ∨ n ≤ j.toNatClampNeg)
abbrev ix (j : Int32) : Nat := j.toNatClampNeg
def chk {α : Type} (p : Prop) [Decidable p] (A : Option α) : Option α := if p then A else none
theorem chk_t {α : Type} {p : Prop} [Decidable p] {A : Option α} {r : α} (h : chk p A = some r) : p ∧ A = some r := by
  unfold chk at h
  split at h
  · rename_i hp
    exact ⟨hp, h⟩
  · cases h
theorem chk_p {α : Type} {p : Prop} [Decidable p] {A : Option α} (h : p) : chk p A = A := if_pos h
def cal {α β : Type} (F : Option (β × SS)) (K : β → SS → Option α) : Option α := match F with
  | some q => K q.1 q.2
  | none => none
theorem cal_t {α β : Type} {F : Option (β × SS)} {K : β → SS → Option α} {r : α} (h : cal F K = some r) : ∃ q σ, F = some (q, σ) ∧ K q σ = some r := by
  unfold cal at h
  cases F with
  | none => cases h
  | some q => exact ⟨q.1, q.2, rfl, h⟩
theorem cal_s {α β : Type} {F : Option (β × SS)} {K : β → SS → Option α} {q : β} {σ : SS} (h : F = some (q, σ)) : cal F K = K q σ := by rw [h]; rfl
/-- a name for a value -/
def lt_ {α β : Type} (v : β) (K : β → Option α) : Option α := K v
/-- fields: the link, the class's number and how many fields it has, the field's place -/
def FL (own : String) (idx ci N k : Nat) : Prop := ∃ (C : String) (T : u_T), vwCl[ci]? = some (C, T, N) ∧ k < N ∧ (T k).1 = C ∧ Cond.fieldLink own idx C (T k).2.1 (T k).2.2.1 ∈ mtbl ∧ ∀ w ∈ u_ws C T N, w ∈ mtbl
/-- what a store into a field needs more -/
def FW (ci N k : Nat) (ty : FieldType) : Prop := ∃ (C : String) (T : u_T) (tf : Nat → FieldType), vwCl[ci]? = some (C, T, N) ∧ (T k).2.2.2 = false ∧ parseFieldDescriptor (T k).2.2.1 = some ty ∧ (∀ k, k < N → parseFieldDescriptor (T k).2.2.1 = some (tf k)) ∧ ∀ a, a < N → ∀ b, b < N → a ≠ b → (T a).2.1 ≠ (T b).2.1
theorem gal_of {σ : SS} {r i : Nat} {x : (Nat ⊕ Nat) × Nat} (h : alv σ r i) (hr : rg r = some x) : gal σ r i := by
  rcases h with h | ⟨h1, h2, -⟩
  · exact h
  · exfalso
    have : rgT[r]? = none := List.getElem?_eq_none (by show 89 ≤ r; omega)
    rw [rg, this] at hr
    cases hr
theorem view_up {σ : SS} {r i k : Nat} {v : Int32} (h2 : r ≠ 2) (h13 : r ≠ 13) (hrt : rt r k = none) (r' i' k' : Nat) : view (up σ r i k v) r' i' k' = if r' = r ∧ i' = i ∧ k' = k then vI v else view σ r' i' k' := by
  by_cases h : r' = r ∧ i' = i ∧ k' = k
  · rw [if_pos h]
    obtain ⟨rfl, rfl, rfl⟩ := h
    simp [view, hrt, h2, h13, up]
  · rw [if_neg h]
    have e : (up σ r i k v).1 r' i' k' = σ.1 r' i' k' := if_neg h
    unfold view
    rw [e]
    rfl
/-- a cell was written at one place: the state -/
theorem Rel.put {w : WX} {ad : Nat → Nat → Nat} {σ : SS} {H H' : Heap} {r i k : Nat} {v : Int32} (h : Rel w ad σ H) (hg : gal σ r i) (h2 : r ≠ 2) (h13 : r ≠ 13) (hrt : rt r k = none) (hz : H'.size = H.size) (ho : ∀ q, q ≠ ad r i → H'[q]? = H[q]?) (hc : cellOk w ad (up σ r i k v) r i H') : Rel w ad (up σ r i k v) H' := by
  have hb := (h.2.2.1 r i hg).1
  refine ⟨by rw [hz]; exact h.1, fun q hq => by rw [ho q (by omega)]; exact h.2.1 q hq, fun r' i' hg' => ?_, h.2.2.2.1, h.2.2.2.2⟩
  by_cases he : r' = r ∧ i' = i
  · obtain ⟨rfl, rfl⟩ := he
    exact ⟨hb, hc⟩
  · refine ⟨(h.2.2.1 r' i' hg').1, ?_⟩
    have hne : ad r' i' ≠ ad r i := fun e => he (h.2.2.2.1 r' i' r i hg' hg e)
    have hc' := (h.2.2.1 r' i' hg').2
    have hv : ∀ k', view (up σ r i k v) r' i' k' = view σ r' i' k' := fun k' => by rw [view_up h2 h13 hrt, if_neg (fun q => he ⟨q.1, q.2.1⟩)]
    unfold cellOk at hc' ⊢
    simp only [hv]
    split
    · rename_i hr
      rw [hr] at hc'
      exact t_OB.kept hc' (ho _ hne)
    · rename_i hr
      rw [hr] at hc'
      rw [ho _ hne]
      exact hc'
    · trivial
theorem hal_up {σ : SS} {r i k : Nat} {v : Int32} (u : MV) : hal (up σ r i k v) u = hal σ u := rfl
theorem alv_up {σ : SS} {r i k : Nat} {v : Int32} (r' i' : Nat) : alv (up σ r i k v) r' i' = alv σ r' i' := rfl
section HEAPROWS
variable {d : Nat} {X : MX} {Y : MY} {b : Nat × Nat} {mi : MI} {pc pc' : Nat} {lv : List (Option MV)} {st : List MV} {σ : SS} {res : RES} {α : Type} {rr : α}
theorem okX.hts (ok : okX d X Y mi) : ∀ w ∈ mtbl, w.before X.2.2.2.2.2.2.1 X.2.2.2.2.1 = true := fun w hw => nw_use hw (ok.2.2.2.2.2.2.1.1 w hw)
theorem okX.env (ok : okX d X Y mi) : EnvW Y.1 X.2.2.2.2.1 := ok.2.2.2.2.2.2.1
theorem okX.own (ok : okX d X Y mi) : X.2.2.2.2.1.vm.findClass mi.1.cls = some X.2.2.2.2.2.1.cls := ok.2.2.2.2.1
theorem r_get {r i k ci N idx : Nat} {v : MV} (hf : FL mi.1.cls idx ci N k) (hd : decode mi.2.1 pc = .ok (.getfield idx, 3)) (hrg : rg r = some (.inl ci, N)) (hv : view σ r i k = v) (hh : gal σ r i → hal σ v) (hp : pc + 3 = pc') (k : WM d X Y b mi pc' lv (v :: st) σ res) : WM d X Y b mi pc lv (vR r i :: st) σ res := by
  subst hp
  intro ok ad H locs ls cells slots h
  have hg : gal σ r i := gal_of (hh1 h.hst) hrg
  obtain ⟨C, T, hcl, hk, hTC, hlink, hin⟩ := hf
  have hc := (h.1.2.2.1 r i hg).2
  unfold cellOk at hc
  rw [hrg] at hc
  obtain ⟨cell, q1, q2, q3, q4⟩ := hc
  obtain ⟨hS, hfc, kC, hkC, hkind⟩ := ok.env.2.1 ci _ hcl
  obtain ⟨cf, kf, fi, f, hi, hsl⟩ := hS _ hk
  have hst := (u_facts hfc hkC (u_lays ok.hts hin hk) hi).1
  have hl := ok.hts _ hlink
  refine W.getf ok.1 ok.2.1 ok.own hl (by rw [← hTC]; exact hi) hst q1 (by rw [q3]; exact fun h => by cases h) (v := cv ad v) ?_ rfl rfl hd (k ok ad H locs ls cells slots (h.stk (hc_ (hh hg) (ht1 h.hst))))
  rw [hsl, q4 _ hk, ← hv]
theorem narrow_z {v : Int32} (h : v = 0 ∨ v = 1) : narrow .boolean (.int v) = .int v := by
  rcases h with rfl | rfl <;> rfl
theorem fits_z {v : Int32} (h : v = 0 ∨ v = 1) : fits .boolean (.int v) = true := by
  rcases h with rfl | rfl <;> rfl
theorem r_put {r i k ci N idx : Nat} {v : Int32} {ty : FieldType} (hf : FL mi.1.cls idx ci N k) (hw : FW ci N k ty) (hn : narrow ty (.int v) = .int v) (hfit : fits ty (.int v) = true) (hd : decode mi.2.1 pc = .ok (.putfield idx, 3)) (hrg : rg r = some (.inl ci, N)) (h2 : r ≠ 2) (h13 : r ≠ 13) (hrt : rt r k = none) (hp : pc + 3 = pc') (kk : WM d X Y b mi pc' lv st (up σ r i k v) res) : WM d X Y b mi pc lv (vI v :: vR r i :: st) σ res := by
  subst hp
  intro ok ad H locs ls cells slots h
  have hg : gal σ r i := gal_of (hh1 (ht1 h.hst)) hrg
  obtain ⟨C, T, hcl, hk, hTC, hlink, hin⟩ := hf
  obtain ⟨C', T', tf, hcl', hfin, hty, htf, hnm⟩ := hw
  cases hcl.symm.trans hcl'
  have hc := (h.1.2.2.1 r i hg).2
  unfold cellOk at hc
  rw [hrg] at hc
  obtain ⟨cell, q1, q2, q3, q4⟩ := hc
  have hK : va_K Y.1.1 vwCl [] X.2.2.2.2.1 := ⟨ok.env.2.1, fun k q h => by simp at h⟩
  have hap := va_apart (own := C) ok.hts hin tf htf hnm hK hcl
  obtain ⟨hS, hfc, kC, hkC, hkind⟩ := ok.env.2.1 ci _ hcl
  obtain ⟨cf, kf, fi, f, hi, hsl⟩ := hS _ hk
  have hlay := ok.hts _ (hin _ (u_in_lay hk))
  unfold u_lay at hlay
  rw [if_neg (by rw [hfin]; decide)] at hlay
  have hst := (u_facts hfc hkC (u_lays ok.hts hin hk) hi).1
  have h6 := u_store hfc hkC hkind hlay hi hty hn hfit
  refine W.putK ok.1 ok.2.1 (f := f) ⟨ok.own, ok.hts _ hlink, ⟨_, _, _, by rw [← hTC]; exact hi⟩, hst⟩ (by rw [q2]; exact h6) q1 q3 (by rw [hsl]; exact k2_hasslot (q4 k hk)) rfl rfl hd fun H' e1 e2 e3 => ?_
  rw [hsl] at e1 ⊢
  refine kk ok ad H' _ ls cells slots ⟨Rel.put h.1 hg h2 h13 hrt e2 e3 ?_, h.2.1, fun q hq => ?_, h.lv, h.hlv, ht1 (ht1 h.hst), h.2.2.2.2.2.2⟩
  · unfold cellOk
    rw [hrg]
    refine t_OB.to (V := updV (fun j => cv ad (view σ r i j)) k (.int v)) ⟨_, e1, q2, q3, t_set q4 hap hk _⟩ (fun j _ => ?_)
    rw [view_up h2 h13 hrt]
    by_cases hj : j = k
    · subst hj
      simp [updV, cv]
    · simp [updV, hj]
  · rcases List.mem_append.mp hq with h1 | h1
    · exact h.2.2.1 q h1
    · rw [List.mem_singleton.mp h1]
      exact (h.1.2.2.1 r i hg).1
theorem r_iaload {r i n : Nat} {j : Int32} {A : Option α} (hd : decode mi.2.1 pc = .ok (.iaload, 1)) (hrg : rg r = some (.inr 0, n)) (hv : ∀ k, view σ r i k = vI (σ.1 r i k)) (hp : pc + 1 = pc') (h : chk (inr j n) A = some rr) (k : A = some rr → WM d X Y b mi pc' lv (vI (σ.1 r i (ix j)) :: st) σ res) : WM d X Y b mi pc lv (vI j :: vR r i :: st) σ res := by
  subst hp
  obtain ⟨hin, h⟩ := chk_t h
  intro ok ad H locs ls cells slots hD
  have hg : gal σ r i := gal_of (hh1 (ht1 hD.hst)) hrg
  have hc := (hD.1.2.2.1 r i hg).2
  unfold cellOk at hc
  rw [hrg] at hc
  have hlt : j.toNatClampNeg < n := Nat.not_le.mp fun q => hin (Or.inr q)
  exact W.iald (v := .int (σ.1 r i (ix j))) ok.1 ok.2.1 hc ((ok.env.2.2.1 0 (by decide)).1 n _) (fun q => by cases q) (by rw [arrV_size]; exact hin) (by rw [arrV_read _ _ hlt, hv]; rfl) rfl rfl hd (k h ok ad H locs ls cells slots (hD.stk (hc_ trivial (ht1 (ht1 hD.hst)))))
theorem r_baload {r i n : Nat} {j : Int32} {A : Option α} (hd : decode mi.2.1 pc = .ok (.baload, 1)) (hrg : rg r = some (.inr 1, n)) (hv : ∀ k, view σ r i k = vI (σ.1 r i k)) (hp : pc + 1 = pc') (h : chk (inr j n) A = some rr) (k : A = some rr → WM d X Y b mi pc' lv (vI (σ.1 r i (ix j)) :: st) σ res) : WM d X Y b mi pc lv (vI j :: vR r i :: st) σ res := by
  subst hp
  obtain ⟨hin, h⟩ := chk_t h
  intro ok ad H locs ls cells slots hD
  have hg : gal σ r i := gal_of (hh1 (ht1 hD.hst)) hrg
  have hc := (hD.1.2.2.1 r i hg).2
  unfold cellOk at hc
  rw [hrg] at hc
  have hlt : j.toNatClampNeg < n := Nat.not_le.mp fun q => hin (Or.inr q)
  exact W.zald (v := .int (σ.1 r i (ix j))) ok.1 ok.2.1 hc ((ok.env.2.2.1 1 (by decide)).1 n _) (fun q => by cases q) (by rw [arrV_size]; exact hin) (by rw [arrV_read _ _ hlt, hv]; rfl) rfl rfl hd (k h ok ad H locs ls cells slots (hD.stk (hc_ trivial (ht1 (ht1 hD.hst)))))
/-- a row of references: pieces (2), assemblies (13) -/
theorem r_aaload {r i n t a : Nat} {c : SS → Nat} {j : Int32} {A : Option α} (hd : decode mi.2.1 pc = .ok (.aaload, 1)) (hrg : rg r = some (.inr a, n)) (ha : a < 4) (hty : (aty a).isReference = true) (hv : ∀ k, view σ r i k = vO t (if k < c σ then some k else none)) (hh : ∀ k, k < c σ → alv σ t k) (hp : pc + 1 = pc') (h : chk (inr j n) A = some rr) (k : A = some rr → WM d X Y b mi pc' lv (vO t (if ix j < c σ then some (ix j) else none) :: st) σ res) : WM d X Y b mi pc lv (vI j :: vR r i :: st) σ res := by
  subst hp
  obtain ⟨hin, h⟩ := chk_t h
  intro ok ad H locs ls cells slots hD
  have hg : gal σ r i := gal_of (hh1 (ht1 hD.hst)) hrg
  have hc := (hD.1.2.2.1 r i hg).2
  unfold cellOk at hc
  rw [hrg] at hc
  have hlt : j.toNatClampNeg < n := Nat.not_le.mp fun q => hin (Or.inr q)
  refine W.aald (v := cv ad (vO t (if ix j < c σ then some (ix j) else none))) ok.1 ok.2.1 hc ((ok.env.2.2.1 a ha).1 n _) hty (fun q => by cases q) (by rw [arrV_size]; exact hin) (by rw [arrV_read _ _ hlt, hv]) rfl rfl hd (k h ok ad H locs ls cells slots (hD.stk (hc_ ?_ (ht1 (ht1 hD.hst)))))
  by_cases hj : ix j < c σ
  · rw [if_pos hj]
    exact hh _ hj
  · rw [if_neg hj]
    trivial
theorem r_arrst {r i n : Nat} {j v x : Int32} {H H' : Heap} {w : WX} {ad : Nat → Nat → Nat} {ty : Nat} (hR : Rel w ad σ H) (hg : gal σ r i) (hrg : rg r = some (.inr ty, n)) (hv : ∀ k, view σ r i k = vI (σ.1 r i k)) (h2 : r ≠ 2) (h13 : r ≠ 13) (hrt : ∀ k, rt r k = none) (e1 : H'[ad r i]? = some ((arrV (w.2.1 ty) n (fun j => cv ad (view σ r i j))).setSlot j.toNatClampNeg (.int x))) (e2 : H'.size = H.size) (e3 : ∀ q, q ≠ ad r i → H'[q]? = H[q]?) : Rel w ad (up σ r i (ix j) x) H' := by
  refine Rel.put hR hg h2 h13 (hrt _) e2 e3 ?_
  unfold cellOk
  rw [hrg]
  show H'[ad r i]? = _
  rw [e1, arrV_store]
  congr 2
  funext q
  rw [view_up h2 h13 (hrt _)]
  by_cases hq : q = ix j
  · subst hq
    simp [updV, cv]
  · have hq' : ¬ q = j.toNatClampNeg := hq
    simp [updV, hq']
theorem r_iastore {r i n : Nat} {j v : Int32} {A : Option α} (hd : decode mi.2.1 pc = .ok (.iastore, 1)) (hrg : rg r = some (.inr 0, n)) (hv : ∀ k, view σ r i k = vI (σ.1 r i k)) (h2 : r ≠ 2) (h13 : r ≠ 13) (hrt : ∀ k, rt r k = none) (hp : pc + 1 = pc') (h : chk (inr j n) A = some rr) (k : A = some rr → WM d X Y b mi pc' lv st (up σ r i (ix j) v) res) : WM d X Y b mi pc lv (vI v :: vI j :: vR r i :: st) σ res := by
  subst hp
  obtain ⟨hin, h⟩ := chk_t h
  intro ok ad H locs ls cells slots hD
  have hg : gal σ r i := gal_of (hh1 (ht1 (ht1 hD.hst))) hrg
  have hc := (hD.1.2.2.1 r i hg).2
  unfold cellOk at hc
  rw [hrg] at hc
  refine W.iast ok.1 ok.2.1 hc ((ok.env.2.2.1 0 (by decide)).1 n _) (fun q => by cases q) (by rw [arrV_size]; exact hin) rfl rfl hd fun H' e1 e2 e3 => ?_
  refine k h ok ad H' _ ls cells slots ⟨r_arrst (v := v) hD.1 hg hrg hv h2 h13 hrt e1 e2 e3, hD.2.1, fun q hq => ?_, hD.lv, hD.hlv, ht1 (ht1 (ht1 hD.hst)), hD.2.2.2.2.2.2⟩
  rcases List.mem_append.mp hq with h1 | h1
  · exact hD.2.2.1 q h1
  · rw [List.mem_singleton.mp h1]
    exact (hD.1.2.2.1 r i hg).1
theorem r_bastore {r i n : Nat} {j v : Int32} {A : Option α} (hd : decode mi.2.1 pc = .ok (.bastore, 1)) (hrg : rg r = some (.inr 1, n)) (hv : ∀ k, view σ r i k = vI (σ.1 r i k)) (h2 : r ≠ 2) (h13 : r ≠ 13) (hrt : ∀ k, rt r k = none) (hz : v = 0 ∨ v = 1) (hp : pc + 1 = pc') (h : chk (inr j n) A = some rr) (k : A = some rr → WM d X Y b mi pc' lv st (up σ r i (ix j) v) res) : WM d X Y b mi pc lv (vI v :: vI j :: vR r i :: st) σ res := by
  subst hp
  obtain ⟨hin, h⟩ := chk_t h
  intro ok ad H locs ls cells slots hD
  have hg : gal σ r i := gal_of (hh1 (ht1 (ht1 hD.hst))) hrg
  have hc := (hD.1.2.2.1 r i hg).2
  unfold cellOk at hc
  rw [hrg] at hc
  refine W.zast ok.1 ok.2.1 hc ((ok.env.2.2.1 1 (by decide)).1 n _) (fun q => by cases q) (by rw [arrV_size]; exact hin) rfl rfl hd fun H' e1 e2 e3 => ?_
  rw [narrow_z hz] at e1
  refine k h ok ad H' _ ls cells slots ⟨r_arrst (v := v) hD.1 hg hrg hv h2 h13 hrt e1 e2 e3, hD.2.1, fun q hq => ?_, hD.lv, hD.hlv, ht1 (ht1 (ht1 hD.hst)), hD.2.2.2.2.2.2⟩
  rcases List.mem_append.mp hq with h1 | h1
  · exact hD.2.2.1 q h1
  · rw [List.mem_singleton.mp h1]
    exact (hD.1.2.2.1 r i hg).1
theorem r_alen {r i n a : Nat} {x : Int32} (hd : decode mi.2.1 pc = .ok (.arraylength, 1)) (hrg : rg r = some (.inr a, n)) (ha : a < 4) (hx : Int32.ofNat n = x) (hp : pc + 1 = pc') (k : WM d X Y b mi pc' lv (vI x :: st) σ res) : WM d X Y b mi pc lv (vR r i :: st) σ res := by
  subst hp
  intro ok ad H locs ls cells slots hD
  have hg : gal σ r i := gal_of (hh1 hD.hst) hrg
  have hc := (hD.1.2.2.1 r i hg).2
  unfold cellOk at hc
  rw [hrg] at hc
  exact W.alen (n := x) ok.1 ok.2.1 hc ((ok.env.2.2.1 a ha).1 n _) (by rw [arrV_size, ← hx]) rfl rfl hd (k ok ad H locs ls cells slots (hD.stk (hc_ trivial (ht1 hD.hst))))
theorem r_saload {k : Nat} {j : Int32} {A : Option α} (hd : decode mi.2.1 pc = .ok (.iaload, 1)) (hk : k < 4) (hp : pc + 1 = pc') (h : chk (inr j (sln k)) A = some rr) (kk : A = some rr → WM d X Y b mi pc' lv (vI (sfn k (ix j)) :: st) σ res) : WM d X Y b mi pc lv (vI j :: vR (100 + k) 0 :: st) σ res := by
  subst hp
  obtain ⟨hin, h⟩ := chk_t h
  intro ok ad H locs ls cells slots hD
  obtain ⟨-, ⟨scr, h1, h2, h3, h4, -, h5, -⟩, hbl⟩ := ok.env.2.2.2.1 k hk
  have hlt : j.toNatClampNeg < sln k := Nat.not_le.mp fun q => hin (Or.inr q)
  refine W.iald (a := ad (100 + k) 0) (v := .int (sfn k (ix j))) ok.1 ok.2.1 (by rw [hD.1.2.2.2.2 k (by omega), hD.1.2.1 _ hbl]; exact h1) h2 h3 (fun q => q.elim (fun q => hin (Or.inl q)) (fun q => absurd (Nat.lt_of_lt_of_le hlt h4) (Nat.not_lt.mpr q))) (h5 _ hlt) rfl rfl hd (kk h ok ad H locs ls cells slots (hD.stk (hc_ trivial (ht1 (ht1 hD.hst)))))
theorem r_scload {j : Int32} {A : Option α} (hd : decode mi.2.1 pc = .ok (.iaload, 1)) (hp : pc + 1 = pc') (h : chk (inr j Y.1.2.2.2.2.1) A = some rr) (kk : A = some rr → WM d X Y b mi pc' lv (vI (Y.1.2.2.2.2.2 (ix j)) :: st) σ res) : WM d X Y b mi pc lv (vI j :: vR 104 0 :: st) σ res := by
  subst hp
  obtain ⟨hin, h⟩ := chk_t h
  intro ok ad H locs ls cells slots hD
  obtain ⟨⟨scr, h1, h2, h3, h4, h5⟩, hbl⟩ := ok.env.2.2.2.2
  have hlt : j.toNatClampNeg < Y.1.2.2.2.2.1 := Nat.not_le.mp fun q => hin (Or.inr q)
  exact W.iald (a := ad 104 0) (v := .int (Y.1.2.2.2.2.2 (ix j))) ok.1 ok.2.1 (by rw [hD.1.2.2.2.2 4 (by omega), hD.1.2.1 _ hbl]; exact h1) h2 h3 (by rw [h4]; exact hin) (h5 _ hlt) rfl rfl hd (kk h ok ad H locs ls cells slots (hD.stk (hc_ trivial (ht1 (ht1 hD.hst)))))
theorem r_sclen {x : Int32} (hd : decode mi.2.1 pc = .ok (.arraylength, 1)) (hx : Int32.ofNat Y.1.2.2.2.2.1 = x) (hp : pc + 1 = pc') (k : WM d X Y b mi pc' lv (vI x :: st) σ res) : WM d X Y b mi pc lv (vR 104 0 :: st) σ res := by
  subst hp
  intro ok ad H locs ls cells slots hD
  obtain ⟨⟨scr, h1, h2, h3, h4, h5⟩, hbl⟩ := ok.env.2.2.2.2
  exact W.alen (a := ad 104 0) (n := x) ok.1 ok.2.1 (by rw [hD.1.2.2.2.2 4 (by omega), hD.1.2.1 _ hbl]; exact h1) h2 (by rw [h4, ← hx]) rfl rfl hd (k ok ad H locs ls cells slots (hD.stk (hc_ trivial (ht1 hD.hst))))
theorem r_getstatic {k idx : Nat} (hl : Cond.fieldLink mi.1.cls idx "OctagonYard" (snm k) "[I" ∈ mtbl) (hd : decode mi.2.1 pc = .ok (.getstatic idx, 3)) (hk : k < 4) (hp : pc + 3 = pc') (kk : WM d X Y b mi pc' lv (vR (100 + k) 0 :: st) σ res) : WM d X Y b mi pc lv st σ res := by
  subst hp
  intro ok ad H locs ls cells slots hD
  obtain ⟨⟨cf, kf, fi, f, a, cell, h1, h2, h3, h4, h5, h6, h7, h8⟩, -, hbl⟩ := ok.env.2.2.2.1 k hk
  refine W.gets ok.1 ok.2.1 ok.own (ok.hts _ hl) h1 h2 h3 h4 (by rw [hD.1.2.1 a (by omega)]; exact h5) (fun e => by rw [e] at h6; cases h6) h7 rfl hd ?_
  have := kk ok ad H locs ls cells slots (hD.stk (hc_ (Or.inr ⟨by show 100 ≤ 100 + k; omega, by show 100 + k < 105; omega, rfl⟩) hD.hst))
  rw [← hD.1.2.2.2.2 k (by omega)]
  exact this
theorem r_getstaticN {k idx : Nat} {host : String} (hl : Cond.fieldLinkNest mi.1.cls idx "OctagonYard" (snm k) "[I" host ∈ mtbl) (hd : decode mi.2.1 pc = .ok (.getstatic idx, 3)) (hk : k < 4) (hp : pc + 3 = pc') (kk : WM d X Y b mi pc' lv (vR (100 + k) 0 :: st) σ res) : WM d X Y b mi pc lv st σ res := by
  subst hp
  intro ok ad H locs ls cells slots hD
  obtain ⟨⟨cf, kf, fi, f, a, cell, h1, h2, h3, h4, h5, h6, h7, h8⟩, -, hbl⟩ := ok.env.2.2.2.1 k hk
  refine va_WgetsN ok.1 ok.2.1 ok.own (ok.hts _ hl) h1 h2 h3 h4 (by rw [hD.1.2.1 a (by omega)]; exact h5) (fun e => by rw [e] at h6; cases h6) h7 rfl hd ?_
  have := kk ok ad H locs ls cells slots (hD.stk (hc_ (Or.inr ⟨by show 100 ≤ 100 + k; omega, by show 100 + k < 105; omega, rfl⟩) hD.hst))
  rw [← hD.1.2.2.2.2 k (by omega)]
  exact this
theorem r_lcmp {x y : Int64} (hd : decode mi.2.1 pc = .ok (.lcmp, 1)) (hp : pc + 1 = pc') (k : WM d X Y b mi pc' lv (vI (lg_cmp x y) :: st) σ res) : WM d X Y b mi pc lv (vL y :: vL x :: st) σ res := by
  subst hp
  exact WM.lift (by exact fun h _ => hc_ trivial (ht1 (ht1 h))) (fun ad ls hx hb _ k => W.lcmp hx hb hd k) k
theorem r_ldc {idx : Nat} {v : Int32} (hc : Cond.constant mi.1.cls idx v ∈ mtbl) (hd : decode mi.2.1 pc = .ok (.ldc idx, 2)) (hp : pc + 2 = pc') (k : WM d X Y b mi pc' lv (vI v :: st) σ res) : WM d X Y b mi pc lv st σ res := by
  subst hp
  intro ok ad H locs ls cells slots hD
  exact lv_ldc ok.1 ok.2.1 ok.own (ok.hts _ hc) hd (k ok ad H locs ls cells slots (hD.stk (hc_ trivial hD.hst)))
theorem r_ldcw {idx : Nat} {v : Int32} (hc : Cond.constant mi.1.cls idx v ∈ mtbl) (hd : decode mi.2.1 pc = .ok (.ldc_w idx, 3)) (hp : pc + 3 = pc') (k : WM d X Y b mi pc' lv (vI v :: st) σ res) : WM d X Y b mi pc lv st σ res := by
  subst hp
  intro ok ad H locs ls cells slots hD
  exact lv_ldcw ok.1 ok.2.1 ok.own (ok.hts _ hc) hd (k ok ad H locs ls cells slots (hD.stk (hc_ trivial hD.hst)))
theorem r_ldc2 {idx : Nat} {v : Int64} (hc : Cond.constantLong mi.1.cls idx v ∈ mtbl) (hd : decode mi.2.1 pc = .ok (.ldc2_w idx, 3)) (hp : pc + 3 = pc') (k : WM d X Y b mi pc' lv (vL v :: st) σ res) : WM d X Y b mi pc lv st σ res := by
  subst hp
  intro ok ad H locs ls cells slots hD
  exact lv_ldc2 ok.1 ok.2.1 ok.own (ok.hts _ hc) hd (k ok ad H locs ls cells slots (hD.stk (hc_ trivial hD.hst)))
end HEAPROWS
end
section
/-! ===== ends, contracts, calls ===== -/
section ENDS
variable {d : Nat} {X : MX} {Y : MY} {b : Nat × Nat} {mi : MI} {pc pc' : Nat} {lv : List (Option MV)} {st : List MV} {σ σ' : SS} {res : RES} {α : Type} {rr : α}
theorem qm_end {H : Heap} {locs : List Loc} {ls : Array Slot} {ad : Nat → Nat → Nat} {cells slots : Nat} {R : Room} {v : MV} {nL : Nat} (h : Dyn R Y b nL lv (v :: st) σ ad H locs ls cells slots) {t : State} (ht : t.heap = H) {as : Array Value} {s : State} : Qm Y (some v, σ) as s (.returned (some (cv ad v))) t :=
  ⟨ad, rfl, by rw [ht]; exact h.1, h.2.1, fun u hu => by cases hu; exact hh1 h.hst⟩
theorem dyn_room {H : Heap} {locs : List Loc} {ls : Array Slot} {ad : Nat → Nat → Nat} {cells slots : Nat} {R : Room} {nL : Nat} (h : Dyn R Y b nL lv st σ ad H locs ls cells slots) : cells ≤ R.cells ∧ slots ≤ R.slots := by
  have h1 := h.2.2.2.2.2.2.1
  have h2 := h.2.2.2.2.2.2.2
  omega
theorem r_iret {x r : Int32} (hd : decode mi.2.1 pc = .ok (.ireturn, 1)) (hr : mi.2.2.2 = some .int) (h : some (x, σ) = some (r, σ')) : WM d X Y b mi pc lv [vI x] σ (some (vI r), σ') := by
  cases h
  intro ok ad H locs ls cells slots hD
  refine W.widen (dyn_room hD).1 (dyn_room hD).2 ?_
  exact W.iret ok.1 ok.2.1 (ok.2.2.1.trans hr) (fun t ht _ => qm_end hD ht) hD.2.2.1 hd ok.2.2.2.2.2.1
theorem r_zret {x r : Int32} (hd : decode mi.2.1 pc = .ok (.ireturn, 1)) (hr : mi.2.2.2 = some .boolean) (hz : x = 0 ∨ x = 1) (h : some (x, σ) = some (r, σ')) : WM d X Y b mi pc lv [vI x] σ (some (vI r), σ') := by
  cases h
  intro ok ad H locs ls cells slots hD
  refine W.widen (dyn_room hD).1 (dyn_room hD).2 ?_
  exact W.zret ok.1 ok.2.1 (ok.2.2.1.trans hr) (narrow_z hz) (fun t ht _ => qm_end hD ht) hD.2.2.1 hd ok.2.2.2.2.2.1
theorem r_lret {x r : Int64} (hd : decode mi.2.1 pc = .ok (.lreturn, 1)) (hr : mi.2.2.2 = some .long) (h : some (x, σ) = some (r, σ')) : WM d X Y b mi pc lv [vL x] σ (some (vL r), σ') := by
  cases h
  intro ok ad H locs ls cells slots hD
  refine W.widen (dyn_room hD).1 (dyn_room hD).2 ?_
  exact W.lret ok.1 ok.2.1 (ok.2.2.1.trans hr) (fun t ht _ => qm_end hD ht) hD.2.2.1 hd ok.2.2.2.2.2.1
theorem r_vret {r : Unit} (hd : decode mi.2.1 pc = .ok (.return_, 1)) (hr : mi.2.2.2 = none) (h : some ((), σ) = some (r, σ')) : WM d X Y b mi pc lv [] σ (none, σ') := by
  cases h
  intro ok ad H locs ls cells slots hD
  refine W.widen (dyn_room hD).1 (dyn_room hD).2 ?_
  exact W.vret ok.1 ok.2.1 (ok.2.2.1.trans hr) (fun t ht _ => ⟨ad, rfl, by rw [ht]; exact hD.1, hD.2.1, fun u hu => by cases hu⟩) hD.2.2.1 hd ok.2.2.2.2.2.1
theorem r_aret {k : Nat} {x r : Option Nat} {C : String} (hd : decode mi.2.1 pc = .ok (.areturn, 1)) (hr : mi.2.2.2 = some (.object C)) (h : some (x, σ) = some (r, σ')) : WM d X Y b mi pc lv [vO k x] σ (some (vO k r), σ') := by
  cases h
  intro ok ad H locs ls cells slots hD
  refine W.widen (dyn_room hD).1 (dyn_room hD).2 ?_
  refine W.aret ok.1 ok.2.1 (ok.2.2.1.trans hr) (Or.inl ⟨_, rfl⟩) ?_ (fun t ht _ => qm_end hD ht) hD.2.2.1 hd ok.2.2.2.2.2.1
  cases x with
  | none => exact Or.inl rfl
  | some i => exact Or.inr ⟨_, rfl⟩
end ENDS
/-- a method's contract -/
def MM (d : Nat) (b : Nat × Nat) (mi : MI) (as : List MV) (σ : SS) (res : RES) : Prop := ∀ (l : Launch) (w : WX) (ad : Nat → Nat → Nat), Met l mi.1 [.code mi.1 mi.2.1 mi.2.2.1 mi.2.2.2] { frames := d, cells := b.1, slots := b.2, locals := 40 * d } (va_Pc (as.map (cv ad)) (fun U => EnvW w U ∧ Rel w ad σ U.heap ∧ ∀ v ∈ as, hal σ v)) (Qm (w, ad, σ) res) b.1 b.2 (fun q => w.2.2.1.size ≤ q)
def entA : List MV → List (Option MV)
  | [] => []
  | .inr (.inl x) :: r => some (vL x) :: none :: entA r
  | .inl x :: r => some (vI x) :: entA r
  | .inr (.inr q) :: r => some (.inr (.inr q)) :: entA r
def ent (as : List MV) (n : Nat) : List (Option MV) := entA as ++ List.replicate (n - (entA as).length) none
theorem entA_mem {v : MV} : ∀ (as : List MV), some v ∈ entA as → v ∈ as
  | [], h => by cases h
  | .inr (.inl x) :: r, h => by
    rcases List.mem_cons.mp h with e | e
    · cases e
      exact List.mem_cons_self
    · rcases List.mem_cons.mp e with e | e
      · cases e
      · exact List.mem_cons_of_mem _ (entA_mem r e)
  | .inl x :: r, h => by
    rcases List.mem_cons.mp h with e | e
    · cases e
      exact List.mem_cons_self
    · exact List.mem_cons_of_mem _ (entA_mem r e)
  | .inr (.inr q) :: r, h => by
    rcases List.mem_cons.mp h with e | e
    · cases e
      exact List.mem_cons_self
    · exact List.mem_cons_of_mem _ (entA_mem r e)
theorem entA_args {ad : Nat → Nat → Nat} {v : MV} : ∀ (as : List MV) (j i : Nat), (entA as)[i]? = some (some v) → (j + i, cv ad v) ∈ lv_args j (as.map (cv ad))
  | [], j, i, h => by simp [entA] at h
  | .inr (.inl x) :: r, j, 0, h => by
    cases h
    exact List.mem_cons_self
  | .inr (.inl x) :: r, j, 1, h => by cases h
  | .inr (.inl x) :: r, j, i + 2, h => by
    have := entA_args (ad := ad) r (j + 2) i h
    rw [show j + (i + 2) = j + 2 + i by omega]
    exact List.mem_cons_of_mem _ this
  | .inl x :: r, j, 0, h => by
    cases h
    exact List.mem_cons_self
  | .inl x :: r, j, i + 1, h => by
    have := entA_args (ad := ad) r (j + 1) i h
    rw [show j + (i + 1) = j + 1 + i by omega]
    exact List.mem_cons_of_mem _ this
  | .inr (.inr none) :: r, j, 0, h => by
    cases h
    exact List.mem_cons_self
  | .inr (.inr none) :: r, j, i + 1, h => by
    have := entA_args (ad := ad) r (j + 1) i h
    rw [show j + (i + 1) = j + 1 + i by omega]
    exact List.mem_cons_of_mem _ this
  | .inr (.inr (some q)) :: r, j, 0, h => by
    cases h
    exact List.mem_cons_self
  | .inr (.inr (some q)) :: r, j, i + 1, h => by
    have := entA_args (ad := ad) r (j + 1) i h
    rw [show j + (i + 1) = j + 1 + i by omega]
    exact List.mem_cons_of_mem _ this
theorem entA_len {ad : Nat → Nat → Nat} : ∀ (as : List MV), (lg_sl (as.map (cv ad))).length = (entA as).length
  | [] => rfl
  | .inr (.inl x) :: r => by
    have := entA_len (ad := ad) r
    simp only [lg_sl, List.map_cons, List.flatMap_cons, List.length_append] at this ⊢
    rw [this]
    show 2 + _ = _
    simp only [entA, List.length_cons]
    omega
  | .inl x :: r => by
    have := entA_len (ad := ad) r
    simp only [lg_sl, List.map_cons, List.flatMap_cons, List.length_append] at this ⊢
    rw [this]
    show 1 + _ = _
    simp only [entA, List.length_cons]
    omega
  | .inr (.inr none) :: r => by
    have := entA_len (ad := ad) r
    simp only [lg_sl, List.map_cons, List.flatMap_cons, List.length_append] at this ⊢
    rw [this]
    show 1 + _ = _
    simp only [entA, List.length_cons]
    omega
  | .inr (.inr (some q)) :: r => by
    have := entA_len (ad := ad) r
    simp only [lg_sl, List.map_cons, List.flatMap_cons, List.length_append] at this ⊢
    rw [this]
    show 1 + _ = _
    simp only [entA, List.length_cons]
    omega
theorem MM.of {d : Nat} {b : Nat × Nat} {mi : MI} {as : List MV} {σ : SS} {res : RES} {lv : List (Option MV)} (hy : plainFor mi.1 = true) (he : ent as mi.2.2.1 = lv) (hn : Nat.ble (entA as).length mi.2.2.1 = true) (k : ∀ (X : MX) (Y : MY), WM d X Y b mi 0 lv [] σ res) : MM d b mi as σ res := by
  subst he
  intro l w ad
  refine va_MetF (cc := mi.2.1) (maxL := mi.2.2.1) (ret := mi.2.2.2) hy rfl ?_
  intro p e s m args below meth c s₁ B hml hv
  obtain ⟨rfl, hE, hR, hh⟩ := hv
  rw [lg_entry_eq]
  have hlen : (lg_sl (as.map (cv ad))).length ≤ mi.2.2.1 := by rw [entA_len]; simpa using hn
  have hl := lv_entry (as.map (cv ad)) hlen
  refine k (p, l, e, _, s, m, _, below, meth, c) (w, ad, σ) ⟨B.exec, B.bytes, B.returns, hml, findClass_of_methodNamed B.named, B.notSynchronized, hE, Nat.le_refl _, Nat.le_refl _⟩ ad s.heap [] _ 0 0 ⟨hR, fun r i h => ⟨h, rfl⟩, fun q h => by (cases h), ⟨hl.1, hl.2.1, fun i v hi => ?_⟩, fun v hv => ?_, fun v h => by (cases h), Nat.zero_add _, Nat.zero_add _⟩
  · refine hl.2.2 (i, cv ad v) ?_
    unfold ent at hi
    rw [List.getElem?_append] at hi
    split at hi
    · have := entA_args (ad := ad) as 0 i hi
      rwa [Nat.zero_add] at this
    · rw [List.getElem?_replicate] at hi
      split at hi <;> cases hi
  · unfold ent at hv
    rcases List.mem_append.mp hv with h1 | h1
    · exact hh v (entA_mem as h1)
    · exact absurd (List.eq_of_mem_replicate h1) (by simp)
def catS (st : List MV) : Nat := (st.map (fun v => if c1 v then 1 else 2)).sum
theorem catS_eq {ad : Nat → Nat → Nat} : ∀ (st : List MV), ((st.map (cv ad)).map fun v => v.category).sum = catS st
  | [] => rfl
  | v :: st => by
    have := catS_eq (ad := ad) st
    simp only [catS, List.map_cons, List.sum_cons] at this ⊢
    rw [this]
    congr 1
    match v with
    | .inl _ => rfl
    | .inr (.inl _) => rfl
    | .inr (.inr none) => rfl
    | .inr (.inr (some _)) => rfl
theorem cv_agree {σ : SS} {ad ad' : Nat → Nat → Nat} (h : ∀ r i, alv σ r i → ad' r i = ad r i) : ∀ {v : MV}, hal σ v → cv ad' v = cv ad v
  | .inl _, _ => rfl
  | .inr (.inl _), _ => rfl
  | .inr (.inr none), _ => rfl
  | .inr (.inr (some q)), hv => by
    show Value.ref _ = Value.ref _
    rw [h q.1 q.2 hv]
theorem hal_mono {σ σ' : SS} (h : ∀ r i, alv σ r i → alv σ' r i) : ∀ {v : MV}, hal σ v → hal σ' v
  | .inl _, _ => trivial
  | .inr (.inl _), _ => trivial
  | .inr (.inr none), _ => trivial
  | .inr (.inr (some q)), hv => h q.1 q.2 hv
theorem map_agree {σ : SS} {ad ad' : Nat → Nat → Nat} (h : ∀ r i, alv σ r i → ad' r i = ad r i) {st : List MV} (hs : ∀ v ∈ st, hal σ v) : st.map (cv ad') = st.map (cv ad) := List.map_congr_left (fun v hv => cv_agree h (hs v hv))
section CALLS
variable {d : Nat} {X : MX} {Y : MY} {b b' bc : Nat × Nat} {mi mc : MI} {pc pc' : Nat} {lv : List (Option MV)} {st : List MV} {σ σ' : SS} {res : RES} {α : Type} {rr : α}
/-- behind a call -/
theorem WM.back {rv : Option MV} {as : List MV} {g0 : List MV} (ok : okX d X Y mi) {ad : Nat → Nat → Nat} {H : Heap} {locs : List Loc} {ls : Array Slot} {cells slots : Nat} (hD : Dyn X.2.2.2.1 Y b mi.2.2.1 lv (g0 ++ st) σ ad H locs ls cells slots) (hb1 : b.1 = bc.1 + b'.1) (hb2 : b.2 = bc.2 + b'.2)
    (run : va_Run X.1 X.2.1 X.2.2.1 X.2.2.2.1 X.2.2.2.2.1 X.2.2.2.2.2.1 X.2.2.2.2.2.2.1 X.2.2.2.2.2.2.2.1 X.2.2.2.2.2.2.2.2.1 X.2.2.2.2.2.2.2.2.2 H locs cells slots bc.1 bc.2 (F0 X.2.2.2.2.2.1 pc ls ((g0 ++ st).map (cv ad))) (st.map (cv ad)) (Qm (Y.1, ad, σ) (rv, σ') (as.map (cv ad)).toArray) (fun q => Y.1.2.2.1.size ≤ q))
    (k : WM d X Y b' mi (pc + 3) lv (rv.toList ++ st) σ' res) : W X.1 X.2.1 X.2.2.1 X.2.2.2.1 X.2.2.2.2.1 X.2.2.2.2.2.1 X.2.2.2.2.2.2.1 X.2.2.2.2.2.2.2.1 X.2.2.2.2.2.2.2.2.1 X.2.2.2.2.2.2.2.2.2 H locs cells slots
      (MQ X.2.2.2.2.2.2.2.1 (Qm Y res) X.2.2.2.2.2.2.1 X.2.2.2.2.1 X.2.2.2.1.cells X.2.2.2.1.slots (fun q => Y.1.2.2.1.size ≤ q)) (F0 X.2.2.2.2.2.1 pc ls ((g0 ++ st).map (cv ad))) := by
  intro T hT Xs
  obtain ⟨v, st0, t, T', L, h0, X', hL, e1, e2, ⟨ad', ho, hR', hag, hres⟩, go⟩ := run T hT Xs
  have hst : ∀ v ∈ st, hal σ v := fun v hv => hD.hst v (List.mem_append_right _ hv)
  have hm : ∀ r i, alv σ r i → alv σ' r i := fun r i h => (hag r i h).1
  have ha : ∀ r i, alv σ r i → ad' r i = ad r i := fun r i h => (hag r i h).2
  have hdyn : Dyn X.2.2.2.1 Y b' mi.2.2.1 lv (rv.toList ++ st) σ' ad' T'.heap (locs ++ L) ls (cells + bc.1) (slots + bc.2) := by
    refine ⟨by rw [e1]; exact hR', fun r i h => ?_, fun q hq => ?_, ⟨hD.lv.1, hD.lv.2.1, fun i v hi => ?_⟩, fun v hv => hal_mono hm (hD.hlv v hv), fun v hv => ?_, ?_, ?_⟩
    · have h1 := hD.2.1 r i h
      exact ⟨hm r i h1.1, (ha r i h1.1).trans h1.2⟩
    · rcases List.mem_append.mp hq with h1 | h1
      · exact hD.2.2.1 q h1
      · exact hL q h1
    · rw [cv_agree ha (hD.hlv v (List.mem_of_getElem? hi))]
      exact hD.lv.2.2 i v hi
    · rcases List.mem_append.mp hv with h1 | h1
      · exact hres v (by simpa using h1)
      · exact hal_mono hm (hst v h1)
    · have := hD.2.2.2.2.2.2.1
      show cells + bc.1 + b'.1 = _
      omega
    · have := hD.2.2.2.2.2.2.2
      show slots + bc.2 + b'.2 = _
      omega
  obtain ⟨t2, s2, q2⟩ := k ok ad' T'.heap (locs ++ L) ls _ _ hdyn T' rfl X'
  refine ⟨t2, go t2 ?_, q2⟩
  have hv : v = rv.map (cv ad') := by cases ho; rfl
  have hf : (F0 X.2.2.2.2.2.1 (pc + 3) ls ((rv.toList ++ st).map (cv ad')) : JFrame) = { (F0 X.2.2.2.2.2.1 pc ls ((g0 ++ st).map (cv ad)) : JFrame) with pc := pc + 3, stack := v.toList ++ st.map (cv ad) } := by
    rw [hv, List.map_append, map_agree ha hst]
    cases rv <;> rfl
  rw [← hf]
  exact s2
/-- a call's words: an instance method -/
def CV (own : String) (idx : Nat) (mc : MI) (n : Nat) : Prop := (Cond.methodLink own idx mc.1 ∈ mtbl ∧ Cond.instanceMethod mc.1 ∈ mtbl ∧ Cond.selects mc.1.cls mc.1 mc.1 ∈ mtbl ∧ Cond.initialized mc.1.cls ∈ mtbl ∧ Cond.code mc.1 mc.2.1 mc.2.2.1 mc.2.2.2 ∈ mtbl) ∧ (mc.1.cls ≠ "java/lang/invoke/MethodHandle" ∧ mc.1.cls ≠ "java/lang/invoke/VarHandle" ∧ (parseMethodDescriptor mc.1.desc).map (fun d => d.parameters.length) = some n) ∧ mc.2.2.1 ≤ 21
/-- a static method of its own class, or of any -/
def CT (own : String) (idx : Nat) (mc : MI) (n : Nat) : Prop := (Cond.methodLink own idx mc.1 ∈ mtbl ∧ Cond.static mc.1 ∈ mtbl ∧ Cond.initialized mc.1.cls ∈ mtbl ∧ Cond.code mc.1 mc.2.1 mc.2.2.1 mc.2.2.2 ∈ mtbl) ∧ (mc.1.cls ≠ "java/lang/invoke/MethodHandle" ∧ mc.1.cls ≠ "java/lang/invoke/VarHandle" ∧ (parseMethodDescriptor mc.1.desc).map (fun d => d.parameters.length) = some n) ∧ mc.2.2.1 ≤ 21
/-- a private static method of a nest mate -/
def CN (own : String) (idx : Nat) (host : String) (mc : MI) (n : Nat) : Prop := (Cond.methodLinkNest own idx mc.1 host ∈ mtbl ∧ Cond.static mc.1 ∈ mtbl ∧ Cond.initialized mc.1.cls ∈ mtbl ∧ Cond.code mc.1 mc.2.1 mc.2.2.1 mc.2.2.2 ∈ mtbl) ∧ (mc.1.cls ≠ "java/lang/invoke/MethodHandle" ∧ mc.1.cls ≠ "java/lang/invoke/VarHandle" ∧ (parseMethodDescriptor mc.1.desc).map (fun d => d.parameters.length) = some n) ∧ mc.2.2.1 ≤ 21
theorem cw_ws {s : State} {args : Array Value} {y : MethodName} {cc : ByteArray} {n : Nat} {rt : Option FieldType} (h : (Cond.code y cc n rt).before args s = true) : ∀ w ∈ [Cond.code y cc n rt], ∀ (a' : Array Value) (U : State), s.WarmedH U.vm → w.before a' U = true := fun w hw a' U hW => by
  rw [List.mem_singleton.mp hw]
  exact word_at hW (Or.inl rfl) h
theorem par_n {D : String} {n : Nat} (h : (parseMethodDescriptor D).map (fun d => d.parameters.length) = some n) : ∀ sig, parseMethodDescriptor D = some sig → n = sig.parameters.length := fun sig hs => by
  rw [hs] at h
  exact (Option.some.inj h).symm
theorem pre_of {w : WX} {ad : Nat → Nat → Nat} {s : State} {as : List MV} {H : Heap} (hE : EnvW w s) (hR : Rel w ad σ H) (hh : ∀ v ∈ as, hal σ v) : FrameBlind (va_Pc (as.map (cv ad)) (fun U => EnvW w U ∧ Rel w ad σ U.heap ∧ ∀ v ∈ as, hal σ v)) ∧ ∀ U : State, U.heap = H → s.WarmedH U.vm → va_Pc (as.map (cv ad)) (fun U => EnvW w U ∧ Rel w ad σ U.heap ∧ ∀ v ∈ as, hal σ v) (as.map (cv ad)).toArray U :=
  ⟨fun a U g mk h => ⟨h.1, EnvW.calling h.2.1, h.2.2.1, h.2.2.2⟩, fun U hU hW => ⟨rfl, hE.warm hW, by rw [hU]; exact hR, hh⟩⟩

theorem r_callv_i {r i ci N idx n : Nat} {as : List MV} {F : Option (Int32 × SS)} {K : Int32 → SS → Option α} (hw : CV mi.1.cls idx mc n) (hd : decode mi.2.1 pc = .ok (.invokevirtual idx, 3)) (hrg : rg r = some (.inl ci, N)) (hcl : (vwCl[ci]?).map (fun q => q.1) = some mc.1.cls) (hn : as.length = n) (hs : Nat.ble (catS st) 8 = true) (hb1 : b.1 = bc.1 + b'.1) (hb2 : b.2 = bc.2 + b'.2) (hp : pc + 3 = pc') (h : cal F K = some rr) (hM : ∀ q σ', F = some (q, σ') → MM d bc mc (vR r i :: as) σ (some (vI q), σ')) (k : ∀ q σ', K q σ' = some rr → WM (d + 1) X Y b' mi pc' lv (vI q :: st) σ' res) : WM (d + 1) X Y b mi pc lv (as.reverse ++ vR r i :: st) σ res := by
  subst hp
  obtain ⟨q, σ', hF, hK⟩ := cal_t h
  have hM := hM q σ' hF
  have kk := k q σ' hK
  intro ok ad H locs ls cells slots hD
  obtain ⟨⟨w1, w2, w3, w4, w5⟩, ⟨d1, d2, d3⟩, hL⟩ := hw
  have hg : gal σ r i := gal_of (hh1 (fun v hv => hD.hst v (List.mem_append_right _ hv))) hrg
  have hh : ∀ v ∈ vR r i :: as, hal σ v := fun v hv => by
    rcases List.mem_cons.mp hv with e | e
    · rw [e]
      exact Or.inl hg
    · exact hD.hst v (List.mem_append_left _ (List.mem_reverse.mpr e))
  obtain ⟨pb, pc0⟩ := pre_of ok.env hD.1 hh
  have hcc := (hD.1.2.2.1 r i hg).2
  unfold cellOk at hcc
  rw [hrg] at hcc
  obtain ⟨cell, q1, q2, q3, q4⟩ := hcc
  obtain ⟨⟨C, T, N'⟩, hcq, hce⟩ := Option.map_eq_some_iff.mp hcl
  have hfc := (ok.env.2.1 ci _ hcq).2.1
  have hrun := va_runV (As := as.map (cv ad)) (rest := st.map (cv ad)) (g := F0 X.2.2.2.2.2.1 pc ls ((as.reverse ++ vR r i :: st).map (cv ad))) (locs := locs) (cells := cells) (slots := slots) (Ts := mtbl) (C := mc.1.cls) (bytes := mc.2.1) (maxL := mc.2.2.1) (ret := mc.2.2.2) (n := n) (H := H) (below := X.2.2.2.2.2.2.2.1) (meth := X.2.2.2.2.2.2.2.2.1) (e := X.2.2.1) (R := X.2.2.2.1) (b := ad r i)
    ⟨ok.1, ok.2.1, ok.2.2.2.1, ok.own, ok.hts⟩ (hM X.2.1 Y.1 ad)
    ⟨⟨rfl, rfl, ok.2.2.2.2.2.2.2.1, by have hlc := ok.2.2.2.2.2.2.2.2; show 8 + (mc.2.2.1 + 11) + 40 * d ≤ _; omega, cw_ws (ok.hts _ w5), List.mem_singleton.mpr rfl, ok.hts _ w5, ok.hts _ w4, ⟨d1, d2⟩, par_n d3, ok.hts _ w1⟩, ok.hts _ w2, ok.hts _ w3⟩
    ⟨pb, ⟨cell, q1, by rw [q3]; rfl, by rw [q2, ← hce]; exact hfc⟩, pc0⟩ rfl (by rw [List.length_map]; exact hn) hD.lv.1 (by show List.map _ _ = _; rw [List.map_append, List.map_reverse]; rfl) (by rw [catS_eq]; show 2 * 0 + catS st ≤ 8; have := Nat.le_of_ble_eq_true hs; omega) hd
    (by
      have h1 := hD.2.2.2.2.2.2.1
      have h2 := hD.2.2.2.2.2.2.2
      exact ⟨by omega, by omega⟩)
  rw [show as.reverse ++ vR r i :: st = (as.reverse ++ [vR r i]) ++ st by simp] at hrun hD ⊢
  exact WM.back (rv := some (vI q)) (as := vR r i :: as) ok hD hb1 hb2 hrun kk
theorem r_callv_l {r i ci N idx n : Nat} {as : List MV} {F : Option (Int64 × SS)} {K : Int64 → SS → Option α} (hw : CV mi.1.cls idx mc n) (hd : decode mi.2.1 pc = .ok (.invokevirtual idx, 3)) (hrg : rg r = some (.inl ci, N)) (hcl : (vwCl[ci]?).map (fun q => q.1) = some mc.1.cls) (hn : as.length = n) (hs : Nat.ble (catS st) 8 = true) (hb1 : b.1 = bc.1 + b'.1) (hb2 : b.2 = bc.2 + b'.2) (hp : pc + 3 = pc') (h : cal F K = some rr) (hM : ∀ q σ', F = some (q, σ') → MM d bc mc (vR r i :: as) σ (some (vL q), σ')) (k : ∀ q σ', K q σ' = some rr → WM (d + 1) X Y b' mi pc' lv (vL q :: st) σ' res) : WM (d + 1) X Y b mi pc lv (as.reverse ++ vR r i :: st) σ res := by
  subst hp
  obtain ⟨q, σ', hF, hK⟩ := cal_t h
  have hM := hM q σ' hF
  have kk := k q σ' hK
  intro ok ad H locs ls cells slots hD
  obtain ⟨⟨w1, w2, w3, w4, w5⟩, ⟨d1, d2, d3⟩, hL⟩ := hw
  have hg : gal σ r i := gal_of (hh1 (fun v hv => hD.hst v (List.mem_append_right _ hv))) hrg
  have hh : ∀ v ∈ vR r i :: as, hal σ v := fun v hv => by
    rcases List.mem_cons.mp hv with e | e
    · rw [e]
      exact Or.inl hg
    · exact hD.hst v (List.mem_append_left _ (List.mem_reverse.mpr e))
  obtain ⟨pb, pc0⟩ := pre_of ok.env hD.1 hh
  have hcc := (hD.1.2.2.1 r i hg).2
  unfold cellOk at hcc
  rw [hrg] at hcc
  obtain ⟨cell, q1, q2, q3, q4⟩ := hcc
  obtain ⟨⟨C, T, N'⟩, hcq, hce⟩ := Option.map_eq_some_iff.mp hcl
  have hfc := (ok.env.2.1 ci _ hcq).2.1
  have hrun := va_runV (As := as.map (cv ad)) (rest := st.map (cv ad)) (g := F0 X.2.2.2.2.2.1 pc ls ((as.reverse ++ vR r i :: st).map (cv ad))) (locs := locs) (cells := cells) (slots := slots) (Ts := mtbl) (C := mc.1.cls) (bytes := mc.2.1) (maxL := mc.2.2.1) (ret := mc.2.2.2) (n := n) (H := H) (below := X.2.2.2.2.2.2.2.1) (meth := X.2.2.2.2.2.2.2.2.1) (e := X.2.2.1) (R := X.2.2.2.1) (b := ad r i)
    ⟨ok.1, ok.2.1, ok.2.2.2.1, ok.own, ok.hts⟩ (hM X.2.1 Y.1 ad)
    ⟨⟨rfl, rfl, ok.2.2.2.2.2.2.2.1, by have hlc := ok.2.2.2.2.2.2.2.2; show 8 + (mc.2.2.1 + 11) + 40 * d ≤ _; omega, cw_ws (ok.hts _ w5), List.mem_singleton.mpr rfl, ok.hts _ w5, ok.hts _ w4, ⟨d1, d2⟩, par_n d3, ok.hts _ w1⟩, ok.hts _ w2, ok.hts _ w3⟩
    ⟨pb, ⟨cell, q1, by rw [q3]; rfl, by rw [q2, ← hce]; exact hfc⟩, pc0⟩ rfl (by rw [List.length_map]; exact hn) hD.lv.1 (by show List.map _ _ = _; rw [List.map_append, List.map_reverse]; rfl) (by rw [catS_eq]; show 2 * 0 + catS st ≤ 8; have := Nat.le_of_ble_eq_true hs; omega) hd
    (by
      have h1 := hD.2.2.2.2.2.2.1
      have h2 := hD.2.2.2.2.2.2.2
      exact ⟨by omega, by omega⟩)
  rw [show as.reverse ++ vR r i :: st = (as.reverse ++ [vR r i]) ++ st by simp] at hrun hD ⊢
  exact WM.back (rv := some (vL q)) (as := vR r i :: as) ok hD hb1 hb2 hrun kk
theorem r_callv_v {r i ci N idx n : Nat} {as : List MV} {F : Option (Unit × SS)} {K : Unit → SS → Option α} (hw : CV mi.1.cls idx mc n) (hd : decode mi.2.1 pc = .ok (.invokevirtual idx, 3)) (hrg : rg r = some (.inl ci, N)) (hcl : (vwCl[ci]?).map (fun q => q.1) = some mc.1.cls) (hn : as.length = n) (hs : Nat.ble (catS st) 8 = true) (hb1 : b.1 = bc.1 + b'.1) (hb2 : b.2 = bc.2 + b'.2) (hp : pc + 3 = pc') (h : cal F K = some rr) (hM : ∀ q σ', F = some (q, σ') → MM d bc mc (vR r i :: as) σ (none, σ')) (k : ∀ q σ', K q σ' = some rr → WM (d + 1) X Y b' mi pc' lv (st) σ' res) : WM (d + 1) X Y b mi pc lv (as.reverse ++ vR r i :: st) σ res := by
  subst hp
  obtain ⟨q, σ', hF, hK⟩ := cal_t h
  have hM := hM q σ' hF
  have kk := k q σ' hK
  intro ok ad H locs ls cells slots hD
  obtain ⟨⟨w1, w2, w3, w4, w5⟩, ⟨d1, d2, d3⟩, hL⟩ := hw
  have hg : gal σ r i := gal_of (hh1 (fun v hv => hD.hst v (List.mem_append_right _ hv))) hrg
  have hh : ∀ v ∈ vR r i :: as, hal σ v := fun v hv => by
    rcases List.mem_cons.mp hv with e | e
    · rw [e]
      exact Or.inl hg
    · exact hD.hst v (List.mem_append_left _ (List.mem_reverse.mpr e))
  obtain ⟨pb, pc0⟩ := pre_of ok.env hD.1 hh
  have hcc := (hD.1.2.2.1 r i hg).2
  unfold cellOk at hcc
  rw [hrg] at hcc
  obtain ⟨cell, q1, q2, q3, q4⟩ := hcc
  obtain ⟨⟨C, T, N'⟩, hcq, hce⟩ := Option.map_eq_some_iff.mp hcl
  have hfc := (ok.env.2.1 ci _ hcq).2.1
  have hrun := va_runV (As := as.map (cv ad)) (rest := st.map (cv ad)) (g := F0 X.2.2.2.2.2.1 pc ls ((as.reverse ++ vR r i :: st).map (cv ad))) (locs := locs) (cells := cells) (slots := slots) (Ts := mtbl) (C := mc.1.cls) (bytes := mc.2.1) (maxL := mc.2.2.1) (ret := mc.2.2.2) (n := n) (H := H) (below := X.2.2.2.2.2.2.2.1) (meth := X.2.2.2.2.2.2.2.2.1) (e := X.2.2.1) (R := X.2.2.2.1) (b := ad r i)
    ⟨ok.1, ok.2.1, ok.2.2.2.1, ok.own, ok.hts⟩ (hM X.2.1 Y.1 ad)
    ⟨⟨rfl, rfl, ok.2.2.2.2.2.2.2.1, by have hlc := ok.2.2.2.2.2.2.2.2; show 8 + (mc.2.2.1 + 11) + 40 * d ≤ _; omega, cw_ws (ok.hts _ w5), List.mem_singleton.mpr rfl, ok.hts _ w5, ok.hts _ w4, ⟨d1, d2⟩, par_n d3, ok.hts _ w1⟩, ok.hts _ w2, ok.hts _ w3⟩
    ⟨pb, ⟨cell, q1, by rw [q3]; rfl, by rw [q2, ← hce]; exact hfc⟩, pc0⟩ rfl (by rw [List.length_map]; exact hn) hD.lv.1 (by show List.map _ _ = _; rw [List.map_append, List.map_reverse]; rfl) (by rw [catS_eq]; show 2 * 0 + catS st ≤ 8; have := Nat.le_of_ble_eq_true hs; omega) hd
    (by
      have h1 := hD.2.2.2.2.2.2.1
      have h2 := hD.2.2.2.2.2.2.2
      exact ⟨by omega, by omega⟩)
  rw [show as.reverse ++ vR r i :: st = (as.reverse ++ [vR r i]) ++ st by simp] at hrun hD ⊢
  exact WM.back (rv := none) (as := vR r i :: as) ok hD hb1 hb2 hrun kk
theorem r_callv_o {t : Nat} {r i ci N idx n : Nat} {as : List MV} {F : Option (Option Nat × SS)} {K : Option Nat → SS → Option α} (hw : CV mi.1.cls idx mc n) (hd : decode mi.2.1 pc = .ok (.invokevirtual idx, 3)) (hrg : rg r = some (.inl ci, N)) (hcl : (vwCl[ci]?).map (fun q => q.1) = some mc.1.cls) (hn : as.length = n) (hs : Nat.ble (catS st) 8 = true) (hb1 : b.1 = bc.1 + b'.1) (hb2 : b.2 = bc.2 + b'.2) (hp : pc + 3 = pc') (h : cal F K = some rr) (hM : ∀ q σ', F = some (q, σ') → MM d bc mc (vR r i :: as) σ (some (vO t q), σ')) (k : ∀ q σ', K q σ' = some rr → WM (d + 1) X Y b' mi pc' lv (vO t q :: st) σ' res) : WM (d + 1) X Y b mi pc lv (as.reverse ++ vR r i :: st) σ res := by
  subst hp
  obtain ⟨q, σ', hF, hK⟩ := cal_t h
  have hM := hM q σ' hF
  have kk := k q σ' hK
  intro ok ad H locs ls cells slots hD
  obtain ⟨⟨w1, w2, w3, w4, w5⟩, ⟨d1, d2, d3⟩, hL⟩ := hw
  have hg : gal σ r i := gal_of (hh1 (fun v hv => hD.hst v (List.mem_append_right _ hv))) hrg
  have hh : ∀ v ∈ vR r i :: as, hal σ v := fun v hv => by
    rcases List.mem_cons.mp hv with e | e
    · rw [e]
      exact Or.inl hg
    · exact hD.hst v (List.mem_append_left _ (List.mem_reverse.mpr e))
  obtain ⟨pb, pc0⟩ := pre_of ok.env hD.1 hh
  have hcc := (hD.1.2.2.1 r i hg).2
  unfold cellOk at hcc
  rw [hrg] at hcc
  obtain ⟨cell, q1, q2, q3, q4⟩ := hcc
  obtain ⟨⟨C, T, N'⟩, hcq, hce⟩ := Option.map_eq_some_iff.mp hcl
  have hfc := (ok.env.2.1 ci _ hcq).2.1
  have hrun := va_runV (As := as.map (cv ad)) (rest := st.map (cv ad)) (g := F0 X.2.2.2.2.2.1 pc ls ((as.reverse ++ vR r i :: st).map (cv ad))) (locs := locs) (cells := cells) (slots := slots) (Ts := mtbl) (C := mc.1.cls) (bytes := mc.2.1) (maxL := mc.2.2.1) (ret := mc.2.2.2) (n := n) (H := H) (below := X.2.2.2.2.2.2.2.1) (meth := X.2.2.2.2.2.2.2.2.1) (e := X.2.2.1) (R := X.2.2.2.1) (b := ad r i)
    ⟨ok.1, ok.2.1, ok.2.2.2.1, ok.own, ok.hts⟩ (hM X.2.1 Y.1 ad)
    ⟨⟨rfl, rfl, ok.2.2.2.2.2.2.2.1, by have hlc := ok.2.2.2.2.2.2.2.2; show 8 + (mc.2.2.1 + 11) + 40 * d ≤ _; omega, cw_ws (ok.hts _ w5), List.mem_singleton.mpr rfl, ok.hts _ w5, ok.hts _ w4, ⟨d1, d2⟩, par_n d3, ok.hts _ w1⟩, ok.hts _ w2, ok.hts _ w3⟩
    ⟨pb, ⟨cell, q1, by rw [q3]; rfl, by rw [q2, ← hce]; exact hfc⟩, pc0⟩ rfl (by rw [List.length_map]; exact hn) hD.lv.1 (by show List.map _ _ = _; rw [List.map_append, List.map_reverse]; rfl) (by rw [catS_eq]; show 2 * 0 + catS st ≤ 8; have := Nat.le_of_ble_eq_true hs; omega) hd
    (by
      have h1 := hD.2.2.2.2.2.2.1
      have h2 := hD.2.2.2.2.2.2.2
      exact ⟨by omega, by omega⟩)
  rw [show as.reverse ++ vR r i :: st = (as.reverse ++ [vR r i]) ++ st by simp] at hrun hD ⊢
  exact WM.back (rv := some (vO t q)) (as := vR r i :: as) ok hD hb1 hb2 hrun kk
theorem r_calls_i {idx n : Nat} {as : List MV} {F : Option (Int32 × SS)} {K : Int32 → SS → Option α} (hw : CT mi.1.cls idx mc n) (hd : decode mi.2.1 pc = .ok (.invokestatic idx, 3)) (hn : as.length = n) (hs : Nat.ble (catS st) 8 = true) (hb1 : b.1 = bc.1 + b'.1) (hb2 : b.2 = bc.2 + b'.2) (hp : pc + 3 = pc') (h : cal F K = some rr) (hM : ∀ q σ', F = some (q, σ') → MM d bc mc as σ (some (vI q), σ')) (k : ∀ q σ', K q σ' = some rr → WM (d + 1) X Y b' mi pc' lv (vI q :: st) σ' res) : WM (d + 1) X Y b mi pc lv (as.reverse ++ st) σ res := by
  subst hp
  obtain ⟨q, σ', hF, hK⟩ := cal_t h
  have hM := hM q σ' hF
  have kk := k q σ' hK
  intro ok ad H locs ls cells slots hD
  obtain ⟨⟨w1, w2, w4, w5⟩, ⟨d1, d2, d3⟩, hL⟩ := hw
  have hh : ∀ v ∈ as, hal σ v := fun v hv => hD.hst v (List.mem_append_left _ (List.mem_reverse.mpr hv))
  have hrun := va_runS (As := as.map (cv ad)) (rest := st.map (cv ad)) (g := F0 X.2.2.2.2.2.1 pc ls ((as.reverse ++ st).map (cv ad))) (locs := locs) (cells := cells) (slots := slots) (Ts := mtbl) (bytes := mc.2.1) (maxL := mc.2.2.1) (ret := mc.2.2.2) (n := n) (H := H) (below := X.2.2.2.2.2.2.2.1) (meth := X.2.2.2.2.2.2.2.2.1) (e := X.2.2.1) (R := X.2.2.2.1)
    ⟨ok.1, ok.2.1, ok.2.2.2.1, ok.own, ok.hts⟩ (hM X.2.1 Y.1 ad)
    ⟨⟨rfl, rfl, ok.2.2.2.2.2.2.2.1, by have hlc := ok.2.2.2.2.2.2.2.2; show 8 + (mc.2.2.1 + 11) + 40 * d ≤ _; omega, cw_ws (ok.hts _ w5), List.mem_singleton.mpr rfl, ok.hts _ w5, ok.hts _ w4, ⟨d1, d2⟩, par_n d3, ok.hts _ w1⟩, ok.hts _ w2⟩
    (pre_of ok.env hD.1 hh) rfl (by rw [List.length_map]; exact hn) hD.lv.1 (by show List.map _ _ = _; rw [List.map_append, List.map_reverse]) (by rw [catS_eq]; show 2 * 0 + catS st ≤ 8; have := Nat.le_of_ble_eq_true hs; omega) hd
    (by
      have h1 := hD.2.2.2.2.2.2.1
      have h2 := hD.2.2.2.2.2.2.2
      exact ⟨by omega, by omega⟩)
  exact WM.back (rv := some (vI q)) (as := as) ok hD hb1 hb2 hrun kk
theorem r_calls_l {idx n : Nat} {as : List MV} {F : Option (Int64 × SS)} {K : Int64 → SS → Option α} (hw : CT mi.1.cls idx mc n) (hd : decode mi.2.1 pc = .ok (.invokestatic idx, 3)) (hn : as.length = n) (hs : Nat.ble (catS st) 8 = true) (hb1 : b.1 = bc.1 + b'.1) (hb2 : b.2 = bc.2 + b'.2) (hp : pc + 3 = pc') (h : cal F K = some rr) (hM : ∀ q σ', F = some (q, σ') → MM d bc mc as σ (some (vL q), σ')) (k : ∀ q σ', K q σ' = some rr → WM (d + 1) X Y b' mi pc' lv (vL q :: st) σ' res) : WM (d + 1) X Y b mi pc lv (as.reverse ++ st) σ res := by
  subst hp
  obtain ⟨q, σ', hF, hK⟩ := cal_t h
  have hM := hM q σ' hF
  have kk := k q σ' hK
  intro ok ad H locs ls cells slots hD
  obtain ⟨⟨w1, w2, w4, w5⟩, ⟨d1, d2, d3⟩, hL⟩ := hw
  have hh : ∀ v ∈ as, hal σ v := fun v hv => hD.hst v (List.mem_append_left _ (List.mem_reverse.mpr hv))
  have hrun := va_runS (As := as.map (cv ad)) (rest := st.map (cv ad)) (g := F0 X.2.2.2.2.2.1 pc ls ((as.reverse ++ st).map (cv ad))) (locs := locs) (cells := cells) (slots := slots) (Ts := mtbl) (bytes := mc.2.1) (maxL := mc.2.2.1) (ret := mc.2.2.2) (n := n) (H := H) (below := X.2.2.2.2.2.2.2.1) (meth := X.2.2.2.2.2.2.2.2.1) (e := X.2.2.1) (R := X.2.2.2.1)
    ⟨ok.1, ok.2.1, ok.2.2.2.1, ok.own, ok.hts⟩ (hM X.2.1 Y.1 ad)
    ⟨⟨rfl, rfl, ok.2.2.2.2.2.2.2.1, by have hlc := ok.2.2.2.2.2.2.2.2; show 8 + (mc.2.2.1 + 11) + 40 * d ≤ _; omega, cw_ws (ok.hts _ w5), List.mem_singleton.mpr rfl, ok.hts _ w5, ok.hts _ w4, ⟨d1, d2⟩, par_n d3, ok.hts _ w1⟩, ok.hts _ w2⟩
    (pre_of ok.env hD.1 hh) rfl (by rw [List.length_map]; exact hn) hD.lv.1 (by show List.map _ _ = _; rw [List.map_append, List.map_reverse]) (by rw [catS_eq]; show 2 * 0 + catS st ≤ 8; have := Nat.le_of_ble_eq_true hs; omega) hd
    (by
      have h1 := hD.2.2.2.2.2.2.1
      have h2 := hD.2.2.2.2.2.2.2
      exact ⟨by omega, by omega⟩)
  exact WM.back (rv := some (vL q)) (as := as) ok hD hb1 hb2 hrun kk
theorem r_calls_v {idx n : Nat} {as : List MV} {F : Option (Unit × SS)} {K : Unit → SS → Option α} (hw : CT mi.1.cls idx mc n) (hd : decode mi.2.1 pc = .ok (.invokestatic idx, 3)) (hn : as.length = n) (hs : Nat.ble (catS st) 8 = true) (hb1 : b.1 = bc.1 + b'.1) (hb2 : b.2 = bc.2 + b'.2) (hp : pc + 3 = pc') (h : cal F K = some rr) (hM : ∀ q σ', F = some (q, σ') → MM d bc mc as σ (none, σ')) (k : ∀ q σ', K q σ' = some rr → WM (d + 1) X Y b' mi pc' lv (st) σ' res) : WM (d + 1) X Y b mi pc lv (as.reverse ++ st) σ res := by
  subst hp
  obtain ⟨q, σ', hF, hK⟩ := cal_t h
  have hM := hM q σ' hF
  have kk := k q σ' hK
  intro ok ad H locs ls cells slots hD
  obtain ⟨⟨w1, w2, w4, w5⟩, ⟨d1, d2, d3⟩, hL⟩ := hw
  have hh : ∀ v ∈ as, hal σ v := fun v hv => hD.hst v (List.mem_append_left _ (List.mem_reverse.mpr hv))
  have hrun := va_runS (As := as.map (cv ad)) (rest := st.map (cv ad)) (g := F0 X.2.2.2.2.2.1 pc ls ((as.reverse ++ st).map (cv ad))) (locs := locs) (cells := cells) (slots := slots) (Ts := mtbl) (bytes := mc.2.1) (maxL := mc.2.2.1) (ret := mc.2.2.2) (n := n) (H := H) (below := X.2.2.2.2.2.2.2.1) (meth := X.2.2.2.2.2.2.2.2.1) (e := X.2.2.1) (R := X.2.2.2.1)
    ⟨ok.1, ok.2.1, ok.2.2.2.1, ok.own, ok.hts⟩ (hM X.2.1 Y.1 ad)
    ⟨⟨rfl, rfl, ok.2.2.2.2.2.2.2.1, by have hlc := ok.2.2.2.2.2.2.2.2; show 8 + (mc.2.2.1 + 11) + 40 * d ≤ _; omega, cw_ws (ok.hts _ w5), List.mem_singleton.mpr rfl, ok.hts _ w5, ok.hts _ w4, ⟨d1, d2⟩, par_n d3, ok.hts _ w1⟩, ok.hts _ w2⟩
    (pre_of ok.env hD.1 hh) rfl (by rw [List.length_map]; exact hn) hD.lv.1 (by show List.map _ _ = _; rw [List.map_append, List.map_reverse]) (by rw [catS_eq]; show 2 * 0 + catS st ≤ 8; have := Nat.le_of_ble_eq_true hs; omega) hd
    (by
      have h1 := hD.2.2.2.2.2.2.1
      have h2 := hD.2.2.2.2.2.2.2
      exact ⟨by omega, by omega⟩)
  exact WM.back (rv := none) (as := as) ok hD hb1 hb2 hrun kk
theorem r_calls_o {t : Nat} {idx n : Nat} {as : List MV} {F : Option (Option Nat × SS)} {K : Option Nat → SS → Option α} (hw : CT mi.1.cls idx mc n) (hd : decode mi.2.1 pc = .ok (.invokestatic idx, 3)) (hn : as.length = n) (hs : Nat.ble (catS st) 8 = true) (hb1 : b.1 = bc.1 + b'.1) (hb2 : b.2 = bc.2 + b'.2) (hp : pc + 3 = pc') (h : cal F K = some rr) (hM : ∀ q σ', F = some (q, σ') → MM d bc mc as σ (some (vO t q), σ')) (k : ∀ q σ', K q σ' = some rr → WM (d + 1) X Y b' mi pc' lv (vO t q :: st) σ' res) : WM (d + 1) X Y b mi pc lv (as.reverse ++ st) σ res := by
  subst hp
  obtain ⟨q, σ', hF, hK⟩ := cal_t h
  have hM := hM q σ' hF
  have kk := k q σ' hK
  intro ok ad H locs ls cells slots hD
  obtain ⟨⟨w1, w2, w4, w5⟩, ⟨d1, d2, d3⟩, hL⟩ := hw
  have hh : ∀ v ∈ as, hal σ v := fun v hv => hD.hst v (List.mem_append_left _ (List.mem_reverse.mpr hv))
  have hrun := va_runS (As := as.map (cv ad)) (rest := st.map (cv ad)) (g := F0 X.2.2.2.2.2.1 pc ls ((as.reverse ++ st).map (cv ad))) (locs := locs) (cells := cells) (slots := slots) (Ts := mtbl) (bytes := mc.2.1) (maxL := mc.2.2.1) (ret := mc.2.2.2) (n := n) (H := H) (below := X.2.2.2.2.2.2.2.1) (meth := X.2.2.2.2.2.2.2.2.1) (e := X.2.2.1) (R := X.2.2.2.1)
    ⟨ok.1, ok.2.1, ok.2.2.2.1, ok.own, ok.hts⟩ (hM X.2.1 Y.1 ad)
    ⟨⟨rfl, rfl, ok.2.2.2.2.2.2.2.1, by have hlc := ok.2.2.2.2.2.2.2.2; show 8 + (mc.2.2.1 + 11) + 40 * d ≤ _; omega, cw_ws (ok.hts _ w5), List.mem_singleton.mpr rfl, ok.hts _ w5, ok.hts _ w4, ⟨d1, d2⟩, par_n d3, ok.hts _ w1⟩, ok.hts _ w2⟩
    (pre_of ok.env hD.1 hh) rfl (by rw [List.length_map]; exact hn) hD.lv.1 (by show List.map _ _ = _; rw [List.map_append, List.map_reverse]) (by rw [catS_eq]; show 2 * 0 + catS st ≤ 8; have := Nat.le_of_ble_eq_true hs; omega) hd
    (by
      have h1 := hD.2.2.2.2.2.2.1
      have h2 := hD.2.2.2.2.2.2.2
      exact ⟨by omega, by omega⟩)
  exact WM.back (rv := some (vO t q)) (as := as) ok hD hb1 hb2 hrun kk
theorem r_calln_i {host : String} {idx n : Nat} {as : List MV} {F : Option (Int32 × SS)} {K : Int32 → SS → Option α} (hw : CN mi.1.cls idx host mc n) (hd : decode mi.2.1 pc = .ok (.invokestatic idx, 3)) (hn : as.length = n) (hs : Nat.ble (catS st) 8 = true) (hb1 : b.1 = bc.1 + b'.1) (hb2 : b.2 = bc.2 + b'.2) (hp : pc + 3 = pc') (h : cal F K = some rr) (hM : ∀ q σ', F = some (q, σ') → MM d bc mc as σ (some (vI q), σ')) (k : ∀ q σ', K q σ' = some rr → WM (d + 1) X Y b' mi pc' lv (vI q :: st) σ' res) : WM (d + 1) X Y b mi pc lv (as.reverse ++ st) σ res := by
  subst hp
  obtain ⟨q, σ', hF, hK⟩ := cal_t h
  have hM := hM q σ' hF
  have kk := k q σ' hK
  intro ok ad H locs ls cells slots hD
  obtain ⟨⟨w1, w2, w4, w5⟩, ⟨d1, d2, d3⟩, hL⟩ := hw
  have hh : ∀ v ∈ as, hal σ v := fun v hv => hD.hst v (List.mem_append_left _ (List.mem_reverse.mpr hv))
  have hrun := va_runSN (As := as.map (cv ad)) (rest := st.map (cv ad)) (g := F0 X.2.2.2.2.2.1 pc ls ((as.reverse ++ st).map (cv ad))) (locs := locs) (cells := cells) (slots := slots) (Ts := mtbl) (bytes := mc.2.1) (maxL := mc.2.2.1) (ret := mc.2.2.2) (n := n) (H := H) (below := X.2.2.2.2.2.2.2.1) (meth := X.2.2.2.2.2.2.2.2.1) (e := X.2.2.1) (R := X.2.2.2.1)
    ⟨ok.1, ok.2.1, ok.2.2.2.1, ok.own, ok.hts⟩ (hM X.2.1 Y.1 ad)
    ⟨⟨⟨rfl, rfl, ok.2.2.2.2.2.2.2.1, by have hlc := ok.2.2.2.2.2.2.2.2; show 8 + (mc.2.2.1 + 11) + 40 * d ≤ _; omega, cw_ws (ok.hts _ w5), List.mem_singleton.mpr rfl⟩, ok.hts _ w5, ok.hts _ w4, ⟨d1, d2⟩, par_n d3, ok.hts _ w1⟩, ok.hts _ w2, trivial⟩
    (pre_of ok.env hD.1 hh) rfl (by rw [List.length_map]; exact hn) hD.lv.1 (by show List.map _ _ = _; rw [List.map_append, List.map_reverse]) (by rw [catS_eq]; show 2 * 0 + catS st ≤ 8; have := Nat.le_of_ble_eq_true hs; omega) hd
    (by
      have h1 := hD.2.2.2.2.2.2.1
      have h2 := hD.2.2.2.2.2.2.2
      exact ⟨by omega, by omega⟩)
  exact WM.back (rv := some (vI q)) (as := as) ok hD hb1 hb2 hrun kk
theorem r_calln_l {host : String} {idx n : Nat} {as : List MV} {F : Option (Int64 × SS)} {K : Int64 → SS → Option α} (hw : CN mi.1.cls idx host mc n) (hd : decode mi.2.1 pc = .ok (.invokestatic idx, 3)) (hn : as.length = n) (hs : Nat.ble (catS st) 8 = true) (hb1 : b.1 = bc.1 + b'.1) (hb2 : b.2 = bc.2 + b'.2) (hp : pc + 3 = pc') (h : cal F K = some rr) (hM : ∀ q σ', F = some (q, σ') → MM d bc mc as σ (some (vL q), σ')) (k : ∀ q σ', K q σ' = some rr → WM (d + 1) X Y b' mi pc' lv (vL q :: st) σ' res) : WM (d + 1) X Y b mi pc lv (as.reverse ++ st) σ res := by
  subst hp
  obtain ⟨q, σ', hF, hK⟩ := cal_t h
  have hM := hM q σ' hF
  have kk := k q σ' hK
  intro ok ad H locs ls cells slots hD
  obtain ⟨⟨w1, w2, w4, w5⟩, ⟨d1, d2, d3⟩, hL⟩ := hw
  have hh : ∀ v ∈ as, hal σ v := fun v hv => hD.hst v (List.mem_append_left _ (List.mem_reverse.mpr hv))
  have hrun := va_runSN (As := as.map (cv ad)) (rest := st.map (cv ad)) (g := F0 X.2.2.2.2.2.1 pc ls ((as.reverse ++ st).map (cv ad))) (locs := locs) (cells := cells) (slots := slots) (Ts := mtbl) (bytes := mc.2.1) (maxL := mc.2.2.1) (ret := mc.2.2.2) (n := n) (H := H) (below := X.2.2.2.2.2.2.2.1) (meth := X.2.2.2.2.2.2.2.2.1) (e := X.2.2.1) (R := X.2.2.2.1)
    ⟨ok.1, ok.2.1, ok.2.2.2.1, ok.own, ok.hts⟩ (hM X.2.1 Y.1 ad)
    ⟨⟨⟨rfl, rfl, ok.2.2.2.2.2.2.2.1, by have hlc := ok.2.2.2.2.2.2.2.2; show 8 + (mc.2.2.1 + 11) + 40 * d ≤ _; omega, cw_ws (ok.hts _ w5), List.mem_singleton.mpr rfl⟩, ok.hts _ w5, ok.hts _ w4, ⟨d1, d2⟩, par_n d3, ok.hts _ w1⟩, ok.hts _ w2, trivial⟩
    (pre_of ok.env hD.1 hh) rfl (by rw [List.length_map]; exact hn) hD.lv.1 (by show List.map _ _ = _; rw [List.map_append, List.map_reverse]) (by rw [catS_eq]; show 2 * 0 + catS st ≤ 8; have := Nat.le_of_ble_eq_true hs; omega) hd
    (by
      have h1 := hD.2.2.2.2.2.2.1
      have h2 := hD.2.2.2.2.2.2.2
      exact ⟨by omega, by omega⟩)
  exact WM.back (rv := some (vL q)) (as := as) ok hD hb1 hb2 hrun kk
theorem r_calln_v {host : String} {idx n : Nat} {as : List MV} {F : Option (Unit × SS)} {K : Unit → SS → Option α} (hw : CN mi.1.cls idx host mc n) (hd : decode mi.2.1 pc = .ok (.invokestatic idx, 3)) (hn : as.length = n) (hs : Nat.ble (catS st) 8 = true) (hb1 : b.1 = bc.1 + b'.1) (hb2 : b.2 = bc.2 + b'.2) (hp : pc + 3 = pc') (h : cal F K = some rr) (hM : ∀ q σ', F = some (q, σ') → MM d bc mc as σ (none, σ')) (k : ∀ q σ', K q σ' = some rr → WM (d + 1) X Y b' mi pc' lv (st) σ' res) : WM (d + 1) X Y b mi pc lv (as.reverse ++ st) σ res := by
  subst hp
  obtain ⟨q, σ', hF, hK⟩ := cal_t h
  have hM := hM q σ' hF
  have kk := k q σ' hK
  intro ok ad H locs ls cells slots hD
  obtain ⟨⟨w1, w2, w4, w5⟩, ⟨d1, d2, d3⟩, hL⟩ := hw
  have hh : ∀ v ∈ as, hal σ v := fun v hv => hD.hst v (List.mem_append_left _ (List.mem_reverse.mpr hv))
  have hrun := va_runSN (As := as.map (cv ad)) (rest := st.map (cv ad)) (g := F0 X.2.2.2.2.2.1 pc ls ((as.reverse ++ st).map (cv ad))) (locs := locs) (cells := cells) (slots := slots) (Ts := mtbl) (bytes := mc.2.1) (maxL := mc.2.2.1) (ret := mc.2.2.2) (n := n) (H := H) (below := X.2.2.2.2.2.2.2.1) (meth := X.2.2.2.2.2.2.2.2.1) (e := X.2.2.1) (R := X.2.2.2.1)
    ⟨ok.1, ok.2.1, ok.2.2.2.1, ok.own, ok.hts⟩ (hM X.2.1 Y.1 ad)
    ⟨⟨⟨rfl, rfl, ok.2.2.2.2.2.2.2.1, by have hlc := ok.2.2.2.2.2.2.2.2; show 8 + (mc.2.2.1 + 11) + 40 * d ≤ _; omega, cw_ws (ok.hts _ w5), List.mem_singleton.mpr rfl⟩, ok.hts _ w5, ok.hts _ w4, ⟨d1, d2⟩, par_n d3, ok.hts _ w1⟩, ok.hts _ w2, trivial⟩
    (pre_of ok.env hD.1 hh) rfl (by rw [List.length_map]; exact hn) hD.lv.1 (by show List.map _ _ = _; rw [List.map_append, List.map_reverse]) (by rw [catS_eq]; show 2 * 0 + catS st ≤ 8; have := Nat.le_of_ble_eq_true hs; omega) hd
    (by
      have h1 := hD.2.2.2.2.2.2.1
      have h2 := hD.2.2.2.2.2.2.2
      exact ⟨by omega, by omega⟩)
  exact WM.back (rv := none) (as := as) ok hD hb1 hb2 hrun kk
theorem r_calln_o {t : Nat} {host : String} {idx n : Nat} {as : List MV} {F : Option (Option Nat × SS)} {K : Option Nat → SS → Option α} (hw : CN mi.1.cls idx host mc n) (hd : decode mi.2.1 pc = .ok (.invokestatic idx, 3)) (hn : as.length = n) (hs : Nat.ble (catS st) 8 = true) (hb1 : b.1 = bc.1 + b'.1) (hb2 : b.2 = bc.2 + b'.2) (hp : pc + 3 = pc') (h : cal F K = some rr) (hM : ∀ q σ', F = some (q, σ') → MM d bc mc as σ (some (vO t q), σ')) (k : ∀ q σ', K q σ' = some rr → WM (d + 1) X Y b' mi pc' lv (vO t q :: st) σ' res) : WM (d + 1) X Y b mi pc lv (as.reverse ++ st) σ res := by
  subst hp
  obtain ⟨q, σ', hF, hK⟩ := cal_t h
  have hM := hM q σ' hF
  have kk := k q σ' hK
  intro ok ad H locs ls cells slots hD
  obtain ⟨⟨w1, w2, w4, w5⟩, ⟨d1, d2, d3⟩, hL⟩ := hw
  have hh : ∀ v ∈ as, hal σ v := fun v hv => hD.hst v (List.mem_append_left _ (List.mem_reverse.mpr hv))
  have hrun := va_runSN (As := as.map (cv ad)) (rest := st.map (cv ad)) (g := F0 X.2.2.2.2.2.1 pc ls ((as.reverse ++ st).map (cv ad))) (locs := locs) (cells := cells) (slots := slots) (Ts := mtbl) (bytes := mc.2.1) (maxL := mc.2.2.1) (ret := mc.2.2.2) (n := n) (H := H) (below := X.2.2.2.2.2.2.2.1) (meth := X.2.2.2.2.2.2.2.2.1) (e := X.2.2.1) (R := X.2.2.2.1)
    ⟨ok.1, ok.2.1, ok.2.2.2.1, ok.own, ok.hts⟩ (hM X.2.1 Y.1 ad)
    ⟨⟨⟨rfl, rfl, ok.2.2.2.2.2.2.2.1, by have hlc := ok.2.2.2.2.2.2.2.2; show 8 + (mc.2.2.1 + 11) + 40 * d ≤ _; omega, cw_ws (ok.hts _ w5), List.mem_singleton.mpr rfl⟩, ok.hts _ w5, ok.hts _ w4, ⟨d1, d2⟩, par_n d3, ok.hts _ w1⟩, ok.hts _ w2, trivial⟩
    (pre_of ok.env hD.1 hh) rfl (by rw [List.length_map]; exact hn) hD.lv.1 (by show List.map _ _ = _; rw [List.map_append, List.map_reverse]) (by rw [catS_eq]; show 2 * 0 + catS st ≤ 8; have := Nat.le_of_ble_eq_true hs; omega) hd
    (by
      have h1 := hD.2.2.2.2.2.2.1
      have h2 := hD.2.2.2.2.2.2.2
      exact ⟨by omega, by omega⟩)
  exact WM.back (rv := some (vO t q)) (as := as) ok hD hb1 hb2 hrun kk
end CALLS
end
section
/-! ===== switches, Math, arraycopy ===== -/
theorem ite_c {α : Type} {c G : Prop} [Decidable c] {A B : Option α} {rr : α} (h : (if c then A else B) = some rr) (kT : c → A = some rr → G) (kF : ¬ c → B = some rr → G) : G := by
  by_cases hc : c
  · rw [if_pos hc] at h
    exact kT hc h
  · rw [if_neg hc] at h
    exact kF hc h
/-- a stretch of an array onto another -/
def cpy (σ : SS) (r0 i0 sp r1 i1 dp n : Nat) : SS := (fun r' i' k' => if r' = r1 ∧ i' = i1 then va_cpy (σ.1 r0 i0) (σ.1 r1 i1) sp dp n k' else σ.1 r' i' k', σ.2)
section MORE
variable {d : Nat} {X : MX} {Y : MY} {b b' bc : Nat × Nat} {mi mc : MI} {pc pc' : Nat} {lv : List (Option MV)} {st : List MV} {σ σ' : SS} {res : RES} {α : Type} {rr : α}
theorem r_tswIn {dflt lo hi : Int} {offs : Array Int} {len : Nat} {x c : Int32} {off : Int} (hd : decode mi.2.1 pc = .ok (.tableswitch dflt lo hi offs, len)) (hx : x = c) (h1 : ¬ c.toInt < lo) (h2 : ¬ hi < c.toInt) (ho : offs[(c.toInt - lo).toNat]? = some off) (ht : (pc : Int) + off = (pc' : Int)) (k : WM d X Y b mi pc' lv st σ res) : WM d X Y b mi pc lv (vI x :: st) σ res := by
  subst hx
  exact WM.lift (by exact fun h _ => ht1 h) (fun ad ls hx hb _ k => lv_tableIn hx hb hd h1 h2 ho ht k) k
theorem r_tswOut {dflt lo hi : Int} {offs : Array Int} {len : Nat} {x : Int32} (hd : decode mi.2.1 pc = .ok (.tableswitch dflt lo hi offs, len)) (h : x.toInt < lo ∨ hi < x.toInt) (ht : (pc : Int) + dflt = (pc' : Int)) (k : WM d X Y b mi pc' lv st σ res) : WM d X Y b mi pc lv (vI x :: st) σ res :=
  WM.lift (by exact fun h _ => ht1 h) (fun ad ls hx hb _ k => lv_tableOut hx hb hd h ht k) k
/-- Math.max, Math.min -/
def CX (own : String) (idx : Nat) (y : MethodName) (cc : ByteArray) : Prop := Cond.methodLink own idx y ∈ mtbl ∧ Cond.static y ∈ mtbl ∧ Cond.initialized "java/lang/Math" ∈ mtbl ∧ Cond.code y cc 2 (some .int) ∈ mtbl
theorem r_mmax {idx : Nat} {x y : Int32} (hw : CX mi.1.cls idx Lib.Math.max.name Lib.Math.max.code) (hd : decode mi.2.1 pc = .ok (.invokestatic idx, 3)) (hs : Nat.ble (catS st) 8 = true) (hp : pc + 3 = pc') (k : WM (d + 1) X Y b mi pc' lv (vI (if x < y then y else x) :: st) σ res) : WM (d + 1) X Y b mi pc lv (vI y :: vI x :: st) σ res := by
  subst hp
  intro ok ad H locs ls cells slots hD
  have hs' := Nat.le_of_ble_eq_true hs
  refine va_mmax ok.1 ok.2.1 (by rw [ok.2.2.2.1]; exact hD.lv.1.symm) ok.own (ok.hts _ hw.1) (ok.hts _ hw.2.1) (ok.hts _ hw.2.2.1) (ok.hts _ hw.2.2.2) (by have hlc := ok.2.2.2.2.2.2.2.1; omega) ?_ (dyn_room hD).1 (dyn_room hD).2 hd (k ok ad H locs ls cells slots (hD.stk (hc_ trivial (ht1 (ht1 hD.hst)))))
  have e := catS_eq (ad := ad) st
  have hlc := ok.2.2.2.2.2.2.2.2
  show ((st.map (cv ad)).map fun v => v.category).sum + 13 ≤ _
  omega
theorem r_mmin {idx : Nat} {x y : Int32} (hw : CX mi.1.cls idx Lib.Math.min.name Lib.Math.min.code) (hd : decode mi.2.1 pc = .ok (.invokestatic idx, 3)) (hs : Nat.ble (catS st) 8 = true) (hp : pc + 3 = pc') (k : WM (d + 1) X Y b mi pc' lv (vI (if y < x then y else x) :: st) σ res) : WM (d + 1) X Y b mi pc lv (vI y :: vI x :: st) σ res := by
  subst hp
  intro ok ad H locs ls cells slots hD
  have hs' := Nat.le_of_ble_eq_true hs
  refine va_mmin ok.1 ok.2.1 (by rw [ok.2.2.2.1]; exact hD.lv.1.symm) ok.own (ok.hts _ hw.1) (ok.hts _ hw.2.1) (ok.hts _ hw.2.2.1) (ok.hts _ hw.2.2.2) (by have hlc := ok.2.2.2.2.2.2.2.1; omega) ?_ (dyn_room hD).1 (dyn_room hD).2 hd (k ok ad H locs ls cells slots (hD.stk (hc_ trivial (ht1 (ht1 hD.hst)))))
  have e := catS_eq (ad := ad) st
  have hlc := ok.2.2.2.2.2.2.2.2
  show ((st.map (cv ad)).map fun v => v.category).sum + 13 ≤ _
  omega
theorem Rel.cell {w : WX} {ad : Nat → Nat → Nat} {σ σ' : SS} {H H' : Heap} {r i : Nat} (h : Rel w ad σ H) (hg : gal σ r i) (h2 : σ'.2 = σ.2) (hs : ∀ r' i', ¬ (r' = r ∧ i' = i) → σ'.1 r' i' = σ.1 r' i') (hz : H'.size = H.size) (ho : ∀ q, q ≠ ad r i → H'[q]? = H[q]?) (hc : cellOk w ad σ' r i H') : Rel w ad σ' H' := by
  have hgal : ∀ r i, gal σ' r i = gal σ r i := fun r i => by unfold gal; rw [h2]
  have hb := (h.2.2.1 r i hg).1
  refine ⟨by rw [hz]; exact h.1, fun q hq => by rw [ho q (by omega)]; exact h.2.1 q hq, fun r' i' hg' => ?_, fun r i r' i' g1 g2 => h.2.2.2.1 r i r' i' (hgal r i ▸ g1) (hgal r' i' ▸ g2), h.2.2.2.2⟩
  rw [hgal] at hg'
  by_cases he : r' = r ∧ i' = i
  · obtain ⟨rfl, rfl⟩ := he
    exact ⟨hb, hc⟩
  · refine ⟨(h.2.2.1 r' i' hg').1, ?_⟩
    have hne : ad r' i' ≠ ad r i := fun e => he (h.2.2.2.1 r' i' r i hg' hg e)
    have hc' := (h.2.2.1 r' i' hg').2
    have hv : ∀ k', view σ' r' i' k' = view σ r' i' k' := fun k' => by unfold view; rw [hs r' i' he, h2]
    unfold cellOk at hc' ⊢
    simp only [hv]
    split
    · rename_i hr
      rw [hr] at hc'
      exact t_OB.kept hc' (ho _ hne)
    · rename_i hr
      rw [hr] at hc'
      rw [ho _ hne]
      exact hc'
    · trivial
def CY (own : String) (idx : Nat) : Prop := Cond.methodLink own idx arraycopyName ∈ mtbl ∧ Cond.native arraycopyName ∈ mtbl ∧ Cond.static arraycopyName ∈ mtbl ∧ Cond.initialized "java/lang/System" ∈ mtbl
theorem r_copy {idx r0 i0 r1 i1 n0 n1 : Nat} {sp dp n : Int32} {A : Option α} (hw : CY mi.1.cls idx) (hd : decode mi.2.1 pc = .ok (.invokestatic idx, 3)) (hrg0 : rg r0 = some (.inr 0, n0)) (hrg1 : rg r1 = some (.inr 0, n1)) (hv0 : ∀ (σ : SS) k, view σ r0 i0 k = vI (σ.1 r0 i0 k)) (hv1 : ∀ (σ : SS) k, view σ r1 i1 k = vI (σ.1 r1 i1 k)) (hs : Nat.ble (catS st) 8 = true) (hp : pc + 3 = pc') (h : chk (¬ sp < 0 ∧ ¬ dp < 0 ∧ ¬ n < 0 ∧ ix sp + ix n ≤ n0 ∧ ix dp + ix n ≤ n1) A = some rr) (k : A = some rr → WM (d + 1) X Y b mi pc' lv st (cpy σ r0 i0 (ix sp) r1 i1 (ix dp) (ix n)) res) : WM (d + 1) X Y b mi pc lv (vI n :: vI dp :: vR r1 i1 :: vI sp :: vR r0 i0 :: st) σ res := by
  subst hp
  obtain ⟨⟨h1, h2, h3, h4, h5⟩, h⟩ := chk_t h
  intro ok ad H locs ls cells slots hD
  have hs' := Nat.le_of_ble_eq_true hs
  have hg1 : gal σ r1 i1 := gal_of (hh1 (ht1 (ht1 hD.hst))) hrg1
  have hg0 : gal σ r0 i0 := gal_of (hh1 (ht1 (ht1 (ht1 (ht1 hD.hst))))) hrg0
  have hc1 := (hD.1.2.2.1 r1 i1 hg1).2
  unfold cellOk at hc1
  rw [hrg1] at hc1
  have hc0 := (hD.1.2.2.1 r0 i0 hg0).2
  unfold cellOk at hc0
  rw [hrg0] at hc0
  have e1 : (fun j => cv ad (view σ r1 i1 j)) = (fun j => Value.int (σ.1 r1 i1 j)) := funext fun j => by rw [hv1]; rfl
  have e0 : (fun j => cv ad (view σ r0 i0 j)) = (fun j => Value.int (σ.1 r0 i0 j)) := funext fun j => by rw [hv0]; rfl
  simp only [e1] at hc1
  simp only [e0] at hc0
  have nn : ∀ z : Int32, ¬ z < 0 → z.toInt = (z.toNatClampNeg : Int) := by
    intro z hz
    have hz0 : (0 : Int) ≤ z.toInt := by
      have := Int32.not_lt.mp hz
      simpa using Int32.le_iff_toInt_le.mp this
    show z.toInt = ((z.toInt.toNat : Nat) : Int)
    omega
  have h4' : sp.toNatClampNeg + n.toNatClampNeg ≤ n0 := h4
  have h5' : dp.toNatClampNeg + n.toNatClampNeg ≤ n1 := h5
  have hA := (ok.env.2.2.1 0 (by decide)).1
  intro T hT Xs
  obtain ⟨-, k0, hk0, cm0, hkk0⟩ := hA n0 (fun j => .int (σ.1 r0 i0 j))
  obtain ⟨-, k1, hk1, cm1, hkk1⟩ := hA n1 (fun j => .int (σ.1 r1 i1 j))
  obtain ⟨vm', X', step⟩ := Xs.arraycopy ok.1 ok.own (ok.hts _ hw.1) (ok.hts _ hw.2.1) (ok.hts _ hw.2.2.1) (ok.hts _ hw.2.2.2) (src := ad r0 i0) (dst := ad r1 i1) (cs := arrV (Y.1.2.1 0) n0 (fun j => .int (σ.1 r0 i0 j))) (cd := arrV (Y.1.2.1 0) n1 (fun j => .int (σ.1 r1 i1 j))) (srcPos := sp) (destPos := dp) (n := n) (by rw [hT]; exact hc0) (by rw [hT]; exact hc1)
    (fun _ h => by cases h) (fun _ h => by cases h) (fun h => by cases h) (fun h => by cases h) hk0 hk1 hkk0 hkk1 (by simp [refKind, aty]) h1 h2 h3
    (by rw [nn sp h1, nn n h3, arrV_size]; omega)
    (by rw [nn dp h2, nn n h3, arrV_size]; omega)
    (fun vm₁ _ i hi => by
      have e : (arrV (Y.1.2.1 0) n0 (fun j => .int (σ.1 r0 i0 j))).slots.getD (sp.toNatClampNeg + i) .null = .int (σ.1 r0 i0 (sp.toNatClampNeg + i)) := by
        rw [Array.getD_eq_getD_getElem?, arrV_read _ _ (by omega)]
        rfl
      refine ⟨?_, ?_⟩
      · rw [e]
        rfl
      · rw [e]
        exact trivial)
    (g := F0 X.2.2.2.2.2.1 pc ls ((vI n :: vI dp :: vR r1 i1 :: vI sp :: vR r0 i0 :: st).map (cv ad))) rfl (by rw [ok.2.2.2.1]; exact hD.lv.1) (rest := st.map (cv ad)) rfl (by rw [ok.2.1]; exact hd) (by have hlc := ok.2.2.2.2.2.2.2.1; omega) (by
      have e := catS_eq (ad := ad) st
      have hlc := ok.2.2.2.2.2.2.2.2
      show 2 * 0 + _ + (nativeFrameWords "java/lang/System" "arraycopy" 5 + 11) ≤ _
      have : nativeFrameWords "java/lang/System" "arraycopy" 5 ≤ 20 := by decide +kernel
      omega)
  have ec : copied (arrV (Y.1.2.1 0) n0 (fun j => .int (σ.1 r0 i0 j))) (arrV (Y.1.2.1 0) n1 (fun j => .int (σ.1 r1 i1 j))) sp dp n = arrV (Y.1.2.1 0) n1 (fun j => .int (va_cpy (σ.1 r0 i0) (σ.1 r1 i1) sp.toNatClampNeg dp.toNatClampNeg n.toNatClampNeg j)) := va_copied (fun z => .int z) _ _ _ _ h4'
  rw [ec] at X' step
  have hl : ad r1 i1 < H.size := (Array.getElem?_eq_some_iff.mp hc1).1
  have oq : ∀ q : Nat, q ≠ ad r1 i1 → (H.setIfInBounds (ad r1 i1) (arrV (Y.1.2.1 0) n1 (fun j => .int (va_cpy (σ.1 r0 i0) (σ.1 r1 i1) sp.toNatClampNeg dp.toNatClampNeg n.toNatClampNeg j))))[q]? = H[q]? := fun q hq => by simp [Array.getElem?_setIfInBounds, Ne.symm hq]
  have hRel : Rel Y.1 ad (cpy σ r0 i0 (ix sp) r1 i1 (ix dp) (ix n)) (H.setIfInBounds (ad r1 i1) (arrV (Y.1.2.1 0) n1 (fun j => .int (va_cpy (σ.1 r0 i0) (σ.1 r1 i1) sp.toNatClampNeg dp.toNatClampNeg n.toNatClampNeg j)))) := by
    refine Rel.cell hD.1 hg1 rfl (fun r' i' hne => ?_) (by simp) oq ?_
    · funext k'
      exact if_neg hne
    · unfold cellOk
      rw [hrg1]
      show (H.setIfInBounds (ad r1 i1) _)[ad r1 i1]? = some _
      have e2 : (fun j => cv ad (view (cpy σ r0 i0 (ix sp) r1 i1 (ix dp) (ix n)) r1 i1 j)) = (fun j => Value.int (va_cpy (σ.1 r0 i0) (σ.1 r1 i1) sp.toNatClampNeg dp.toNatClampNeg n.toNatClampNeg j)) := funext fun j => by
        rw [hv1]
        show Value.int _ = _
        congr 1
        exact if_pos ⟨rfl, rfl⟩
      rw [e2]
      simp [Array.getElem?_setIfInBounds, hl]
  obtain ⟨t, a1, b1⟩ := k h ok ad _ _ ls cells slots ⟨hRel, hD.2.1, fun q hq => by
      rcases List.mem_append.mp hq with h | h
      · exact hD.2.2.1 q h
      · obtain ⟨z, -, hz⟩ := List.mem_map.mp h
        rw [← hz]
        exact (hD.1.2.2.1 r1 i1 hg1).1, hD.lv, hD.hlv, ht1 (ht1 (ht1 (ht1 (ht1 hD.hst)))), hD.2.2.2.2.2.2⟩ _ (by rw [← hT]; rfl) X'
  exact ⟨t, step t a1, b1⟩
end MORE
end
section
/-! ===== rows that name what they make; calls by how many arguments ===== -/
section LTROWS
variable {d : Nat} {X : MX} {Y : MY} {b b' bc : Nat × Nat} {mi mc : MI} {pc pc' : Nat} {lv : List (Option MV)} {st : List MV} {σ σ' : SS} {res : RES} {α : Type} {rr : α}
theorem l_istore {i : Nat} {x : Int32} {K : Int32 → Option α} (hd : decode mi.2.1 pc = .ok (.istore i, 2)) (hn : Nat.blt i mi.2.2.1 = true) (hl : pL lv i = false) (hp : pc + 2 = pc') (h : lt_ x K = some rr) (k : ∀ v, K v = some rr → WM d X Y b mi pc' (lv.set i (some (vI v))) st σ res) : WM d X Y b mi pc lv (vI x :: st) σ res := r_istore hd hn hl hp (k x h)
theorem l_istore_n {i : Nat} {n : Fin 4} {x : Int32} {K : Int32 → Option α} (hd : decode mi.2.1 pc = .ok (.istore_n n, 1)) (hi : (n : Nat) = i) (hn : Nat.blt i mi.2.2.1 = true) (hl : pL lv i = false) (hp : pc + 1 = pc') (h : lt_ x K = some rr) (k : ∀ v, K v = some rr → WM d X Y b mi pc' (lv.set i (some (vI v))) st σ res) : WM d X Y b mi pc lv (vI x :: st) σ res := r_istore_n hd hi hn hl hp (k x h)
theorem l_lstore {i : Nat} {x : Int64} {K : Int64 → Option α} (hd : decode mi.2.1 pc = .ok (.lstore i, 2)) (hn : Nat.blt (i + 1) mi.2.2.1 = true) (hl : pL lv i = false) (hp : pc + 2 = pc') (h : lt_ x K = some rr) (k : ∀ v, K v = some rr → WM d X Y b mi pc' ((lv.set (i + 1) none).set i (some (vL v))) st σ res) : WM d X Y b mi pc lv (vL x :: st) σ res := r_lstore hd hn hl hp (k x h)
theorem l_lstore_n {i : Nat} {n : Fin 4} {x : Int64} {K : Int64 → Option α} (hd : decode mi.2.1 pc = .ok (.lstore_n n, 1)) (hi : (n : Nat) = i) (hn : Nat.blt (i + 1) mi.2.2.1 = true) (hl : pL lv i = false) (hp : pc + 1 = pc') (h : lt_ x K = some rr) (k : ∀ v, K v = some rr → WM d X Y b mi pc' ((lv.set (i + 1) none).set i (some (vL v))) st σ res) : WM d X Y b mi pc lv (vL x :: st) σ res := r_lstore_n hd hi hn hl hp (k x h)
theorem l_iinc {i : Nat} {n : Int} {x c : Int32} {K : Int32 → Option α} (hd : decode mi.2.1 pc = .ok (.iinc i n, 3)) (hx : lv[i]? = some (some (vI x))) (hv : Int32.ofInt n = c) (hn : Nat.blt i mi.2.2.1 = true) (hl : pL lv i = false) (hp : pc + 3 = pc') (h : lt_ (x + c) K = some rr) (k : ∀ v, K v = some rr → WM d X Y b mi pc' (lv.set i (some (vI v))) st σ res) : WM d X Y b mi pc lv st σ res := r_iinc hd hx (by rw [hv]) hn hl hp (k (x + c) h)
theorem l_put {r i k ci N idx : Nat} {v : Int32} {ty : FieldType} {K : SS → Option α} (hf : FL mi.1.cls idx ci N k) (hw : FW ci N k ty) (hn : narrow ty (.int v) = .int v) (hfit : fits ty (.int v) = true) (hd : decode mi.2.1 pc = .ok (.putfield idx, 3)) (hrg : rg r = some (.inl ci, N)) (h2 : r ≠ 2) (h13 : r ≠ 13) (hrt : rt r k = none) (hp : pc + 3 = pc') (h : lt_ (up σ r i k v) K = some rr) (kk : ∀ σ, K σ = some rr → WM d X Y b mi pc' lv st σ res) : WM d X Y b mi pc lv (vI v :: vR r i :: st) σ res := r_put hf hw hn hfit hd hrg h2 h13 hrt hp (kk _ h)
theorem l_iastore {r i n : Nat} {j v : Int32} {K : SS → Option α} (hd : decode mi.2.1 pc = .ok (.iastore, 1)) (hrg : rg r = some (.inr 0, n)) (hv : ∀ k, view σ r i k = vI (σ.1 r i k)) (h2 : r ≠ 2) (h13 : r ≠ 13) (hrt : ∀ k, rt r k = none) (hp : pc + 1 = pc') (h : chk (inr j n) (lt_ (up σ r i (ix j) v) K) = some rr) (k : ∀ σ, K σ = some rr → WM d X Y b mi pc' lv st σ res) : WM d X Y b mi pc lv (vI v :: vI j :: vR r i :: st) σ res := r_iastore hd hrg hv h2 h13 hrt hp h (fun h => k _ h)
theorem l_bastore {r i n : Nat} {j v : Int32} {K : SS → Option α} (hd : decode mi.2.1 pc = .ok (.bastore, 1)) (hrg : rg r = some (.inr 1, n)) (hv : ∀ k, view σ r i k = vI (σ.1 r i k)) (h2 : r ≠ 2) (h13 : r ≠ 13) (hrt : ∀ k, rt r k = none) (hz : v = 0 ∨ v = 1) (hp : pc + 1 = pc') (h : chk (inr j n) (lt_ (up σ r i (ix j) v) K) = some rr) (k : ∀ σ, K σ = some rr → WM d X Y b mi pc' lv st σ res) : WM d X Y b mi pc lv (vI v :: vI j :: vR r i :: st) σ res := r_bastore hd hrg hv h2 h13 hrt hz hp h (fun h => k _ h)
theorem l_pieces {j : Int32} {K : Option Nat → Option α} (hd : decode mi.2.1 pc = .ok (.aaload, 1)) (hp : pc + 1 = pc') (h : chk (inr j 60) (lt_ (if ix j < σ.2.1 then some (ix j) else none) K) = some rr) (k : ∀ q, K q = some rr → WM d X Y b mi pc' lv (vO 16 q :: st) σ res) : WM d X Y b mi pc lv (vI j :: vR 2 0 :: st) σ res := by
  refine r_aaload (t := 16) (c := fun σ => σ.2.1) hd (a := 2) (n := 60) rfl (by decide) rfl (fun k => ?_) (fun k hk => Or.inl ⟨rfl, hk⟩) hp h (fun h => k _ h)
  show (if k < σ.2.1 then vR 16 k else vN) = _
  by_cases hk : k < σ.2.1
  · simp [hk]
  · simp [hk]
theorem l_rows {j : Int32} {K : Option Nat → Option α} (hd : decode mi.2.1 pc = .ok (.aaload, 1)) (hp : pc + 1 = pc') (h : chk (inr j 12) (lt_ (if ix j < σ.2.2 then some (ix j) else none) K) = some rr) (k : ∀ q, K q = some rr → WM d X Y b mi pc' lv (vO 22 q :: st) σ res) : WM d X Y b mi pc lv (vI j :: vR 13 0 :: st) σ res := by
  refine r_aaload (t := 22) (c := fun σ => σ.2.2) hd (a := 3) (n := 12) rfl (by decide) rfl (fun k => ?_) (fun k hk => Or.inl ⟨rfl, hk⟩) hp h (fun h => k _ h)
  show (if k < σ.2.2 then vR 22 k else vN) = _
  by_cases hk : k < σ.2.2
  · simp [hk]
  · simp [hk]
theorem l_copy {idx r0 i0 r1 i1 n0 n1 : Nat} {sp dp n : Int32} {K : SS → Option α} (hw : CY mi.1.cls idx) (hd : decode mi.2.1 pc = .ok (.invokestatic idx, 3)) (hrg0 : rg r0 = some (.inr 0, n0)) (hrg1 : rg r1 = some (.inr 0, n1)) (hv0 : ∀ (σ : SS) k, view σ r0 i0 k = vI (σ.1 r0 i0 k)) (hv1 : ∀ (σ : SS) k, view σ r1 i1 k = vI (σ.1 r1 i1 k)) (hs : Nat.ble (catS st) 8 = true) (hp : pc + 3 = pc') (h : chk (¬ sp < 0 ∧ ¬ dp < 0 ∧ ¬ n < 0 ∧ ix sp + ix n ≤ n0 ∧ ix dp + ix n ≤ n1) (lt_ (cpy σ r0 i0 (ix sp) r1 i1 (ix dp) (ix n)) K) = some rr) (k : ∀ σ, K σ = some rr → WM (d + 1) X Y b mi pc' lv st σ res) : WM (d + 1) X Y b mi pc lv (vI n :: vI dp :: vR r1 i1 :: vI sp :: vR r0 i0 :: st) σ res := r_copy hw hd hrg0 hrg1 hv0 hv1 hs hp h (fun h => k _ h)
theorem elim_s {q : Option Nat} {B : Nat → Option α} (h : q.elim none B = some rr) : ∃ i, q = some i ∧ B i = some rr := by
  cases q with
  | none => cases h
  | some i => exact ⟨i, rfl, h⟩
theorem v0_i {r i ci N idx : Nat} {F : Option (Int32 × SS)} {K : Int32 → SS → Option α} (hw : CV mi.1.cls idx mc 0) (hd : decode mi.2.1 pc = .ok (.invokevirtual idx, 3)) (hrg : rg r = some (.inl ci, N)) (hcl : (vwCl[ci]?).map (fun q => q.1) = some mc.1.cls) (hs : Nat.ble (catS st) 8 = true) (hb1 : b.1 = bc.1 + b'.1) (hb2 : b.2 = bc.2 + b'.2) (hp : pc + 3 = pc') (h : cal F K = some rr) (hM : ∀ q σ', F = some (q, σ') → MM d bc mc (vR r i :: []) σ (some (vI q), σ')) (k : ∀ q σ', K q σ' = some rr → WM (d + 1) X Y b' mi pc' lv (vI q :: st) σ' res) : WM (d + 1) X Y b mi pc lv (vR r i :: st) σ res := r_callv_i (as := []) hw hd hrg hcl rfl hs hb1 hb2 hp h hM k
theorem v1_i {r i ci N idx : Nat} {a1 : MV} {F : Option (Int32 × SS)} {K : Int32 → SS → Option α} (hw : CV mi.1.cls idx mc 1) (hd : decode mi.2.1 pc = .ok (.invokevirtual idx, 3)) (hrg : rg r = some (.inl ci, N)) (hcl : (vwCl[ci]?).map (fun q => q.1) = some mc.1.cls) (hs : Nat.ble (catS st) 8 = true) (hb1 : b.1 = bc.1 + b'.1) (hb2 : b.2 = bc.2 + b'.2) (hp : pc + 3 = pc') (h : cal F K = some rr) (hM : ∀ q σ', F = some (q, σ') → MM d bc mc (vR r i :: [a1]) σ (some (vI q), σ')) (k : ∀ q σ', K q σ' = some rr → WM (d + 1) X Y b' mi pc' lv (vI q :: st) σ' res) : WM (d + 1) X Y b mi pc lv (a1 :: vR r i :: st) σ res := r_callv_i (as := [a1]) hw hd hrg hcl rfl hs hb1 hb2 hp h hM k
theorem v2_i {r i ci N idx : Nat} {a1 a2 : MV} {F : Option (Int32 × SS)} {K : Int32 → SS → Option α} (hw : CV mi.1.cls idx mc 2) (hd : decode mi.2.1 pc = .ok (.invokevirtual idx, 3)) (hrg : rg r = some (.inl ci, N)) (hcl : (vwCl[ci]?).map (fun q => q.1) = some mc.1.cls) (hs : Nat.ble (catS st) 8 = true) (hb1 : b.1 = bc.1 + b'.1) (hb2 : b.2 = bc.2 + b'.2) (hp : pc + 3 = pc') (h : cal F K = some rr) (hM : ∀ q σ', F = some (q, σ') → MM d bc mc (vR r i :: [a1, a2]) σ (some (vI q), σ')) (k : ∀ q σ', K q σ' = some rr → WM (d + 1) X Y b' mi pc' lv (vI q :: st) σ' res) : WM (d + 1) X Y b mi pc lv (a2 :: a1 :: vR r i :: st) σ res := r_callv_i (as := [a1, a2]) hw hd hrg hcl rfl hs hb1 hb2 hp h hM k
theorem v3_i {r i ci N idx : Nat} {a1 a2 a3 : MV} {F : Option (Int32 × SS)} {K : Int32 → SS → Option α} (hw : CV mi.1.cls idx mc 3) (hd : decode mi.2.1 pc = .ok (.invokevirtual idx, 3)) (hrg : rg r = some (.inl ci, N)) (hcl : (vwCl[ci]?).map (fun q => q.1) = some mc.1.cls) (hs : Nat.ble (catS st) 8 = true) (hb1 : b.1 = bc.1 + b'.1) (hb2 : b.2 = bc.2 + b'.2) (hp : pc + 3 = pc') (h : cal F K = some rr) (hM : ∀ q σ', F = some (q, σ') → MM d bc mc (vR r i :: [a1, a2, a3]) σ (some (vI q), σ')) (k : ∀ q σ', K q σ' = some rr → WM (d + 1) X Y b' mi pc' lv (vI q :: st) σ' res) : WM (d + 1) X Y b mi pc lv (a3 :: a2 :: a1 :: vR r i :: st) σ res := r_callv_i (as := [a1, a2, a3]) hw hd hrg hcl rfl hs hb1 hb2 hp h hM k
theorem v4_i {r i ci N idx : Nat} {a1 a2 a3 a4 : MV} {F : Option (Int32 × SS)} {K : Int32 → SS → Option α} (hw : CV mi.1.cls idx mc 4) (hd : decode mi.2.1 pc = .ok (.invokevirtual idx, 3)) (hrg : rg r = some (.inl ci, N)) (hcl : (vwCl[ci]?).map (fun q => q.1) = some mc.1.cls) (hs : Nat.ble (catS st) 8 = true) (hb1 : b.1 = bc.1 + b'.1) (hb2 : b.2 = bc.2 + b'.2) (hp : pc + 3 = pc') (h : cal F K = some rr) (hM : ∀ q σ', F = some (q, σ') → MM d bc mc (vR r i :: [a1, a2, a3, a4]) σ (some (vI q), σ')) (k : ∀ q σ', K q σ' = some rr → WM (d + 1) X Y b' mi pc' lv (vI q :: st) σ' res) : WM (d + 1) X Y b mi pc lv (a4 :: a3 :: a2 :: a1 :: vR r i :: st) σ res := r_callv_i (as := [a1, a2, a3, a4]) hw hd hrg hcl rfl hs hb1 hb2 hp h hM k
theorem v0_l {r i ci N idx : Nat} {F : Option (Int64 × SS)} {K : Int64 → SS → Option α} (hw : CV mi.1.cls idx mc 0) (hd : decode mi.2.1 pc = .ok (.invokevirtual idx, 3)) (hrg : rg r = some (.inl ci, N)) (hcl : (vwCl[ci]?).map (fun q => q.1) = some mc.1.cls) (hs : Nat.ble (catS st) 8 = true) (hb1 : b.1 = bc.1 + b'.1) (hb2 : b.2 = bc.2 + b'.2) (hp : pc + 3 = pc') (h : cal F K = some rr) (hM : ∀ q σ', F = some (q, σ') → MM d bc mc (vR r i :: []) σ (some (vL q), σ')) (k : ∀ q σ', K q σ' = some rr → WM (d + 1) X Y b' mi pc' lv (vL q :: st) σ' res) : WM (d + 1) X Y b mi pc lv (vR r i :: st) σ res := r_callv_l (as := []) hw hd hrg hcl rfl hs hb1 hb2 hp h hM k
theorem v1_l {r i ci N idx : Nat} {a1 : MV} {F : Option (Int64 × SS)} {K : Int64 → SS → Option α} (hw : CV mi.1.cls idx mc 1) (hd : decode mi.2.1 pc = .ok (.invokevirtual idx, 3)) (hrg : rg r = some (.inl ci, N)) (hcl : (vwCl[ci]?).map (fun q => q.1) = some mc.1.cls) (hs : Nat.ble (catS st) 8 = true) (hb1 : b.1 = bc.1 + b'.1) (hb2 : b.2 = bc.2 + b'.2) (hp : pc + 3 = pc') (h : cal F K = some rr) (hM : ∀ q σ', F = some (q, σ') → MM d bc mc (vR r i :: [a1]) σ (some (vL q), σ')) (k : ∀ q σ', K q σ' = some rr → WM (d + 1) X Y b' mi pc' lv (vL q :: st) σ' res) : WM (d + 1) X Y b mi pc lv (a1 :: vR r i :: st) σ res := r_callv_l (as := [a1]) hw hd hrg hcl rfl hs hb1 hb2 hp h hM k
theorem v2_l {r i ci N idx : Nat} {a1 a2 : MV} {F : Option (Int64 × SS)} {K : Int64 → SS → Option α} (hw : CV mi.1.cls idx mc 2) (hd : decode mi.2.1 pc = .ok (.invokevirtual idx, 3)) (hrg : rg r = some (.inl ci, N)) (hcl : (vwCl[ci]?).map (fun q => q.1) = some mc.1.cls) (hs : Nat.ble (catS st) 8 = true) (hb1 : b.1 = bc.1 + b'.1) (hb2 : b.2 = bc.2 + b'.2) (hp : pc + 3 = pc') (h : cal F K = some rr) (hM : ∀ q σ', F = some (q, σ') → MM d bc mc (vR r i :: [a1, a2]) σ (some (vL q), σ')) (k : ∀ q σ', K q σ' = some rr → WM (d + 1) X Y b' mi pc' lv (vL q :: st) σ' res) : WM (d + 1) X Y b mi pc lv (a2 :: a1 :: vR r i :: st) σ res := r_callv_l (as := [a1, a2]) hw hd hrg hcl rfl hs hb1 hb2 hp h hM k
theorem v3_l {r i ci N idx : Nat} {a1 a2 a3 : MV} {F : Option (Int64 × SS)} {K : Int64 → SS → Option α} (hw : CV mi.1.cls idx mc 3) (hd : decode mi.2.1 pc = .ok (.invokevirtual idx, 3)) (hrg : rg r = some (.inl ci, N)) (hcl : (vwCl[ci]?).map (fun q => q.1) = some mc.1.cls) (hs : Nat.ble (catS st) 8 = true) (hb1 : b.1 = bc.1 + b'.1) (hb2 : b.2 = bc.2 + b'.2) (hp : pc + 3 = pc') (h : cal F K = some rr) (hM : ∀ q σ', F = some (q, σ') → MM d bc mc (vR r i :: [a1, a2, a3]) σ (some (vL q), σ')) (k : ∀ q σ', K q σ' = some rr → WM (d + 1) X Y b' mi pc' lv (vL q :: st) σ' res) : WM (d + 1) X Y b mi pc lv (a3 :: a2 :: a1 :: vR r i :: st) σ res := r_callv_l (as := [a1, a2, a3]) hw hd hrg hcl rfl hs hb1 hb2 hp h hM k
theorem v4_l {r i ci N idx : Nat} {a1 a2 a3 a4 : MV} {F : Option (Int64 × SS)} {K : Int64 → SS → Option α} (hw : CV mi.1.cls idx mc 4) (hd : decode mi.2.1 pc = .ok (.invokevirtual idx, 3)) (hrg : rg r = some (.inl ci, N)) (hcl : (vwCl[ci]?).map (fun q => q.1) = some mc.1.cls) (hs : Nat.ble (catS st) 8 = true) (hb1 : b.1 = bc.1 + b'.1) (hb2 : b.2 = bc.2 + b'.2) (hp : pc + 3 = pc') (h : cal F K = some rr) (hM : ∀ q σ', F = some (q, σ') → MM d bc mc (vR r i :: [a1, a2, a3, a4]) σ (some (vL q), σ')) (k : ∀ q σ', K q σ' = some rr → WM (d + 1) X Y b' mi pc' lv (vL q :: st) σ' res) : WM (d + 1) X Y b mi pc lv (a4 :: a3 :: a2 :: a1 :: vR r i :: st) σ res := r_callv_l (as := [a1, a2, a3, a4]) hw hd hrg hcl rfl hs hb1 hb2 hp h hM k
theorem v0_v {r i ci N idx : Nat} {F : Option (Unit × SS)} {K : Unit → SS → Option α} (hw : CV mi.1.cls idx mc 0) (hd : decode mi.2.1 pc = .ok (.invokevirtual idx, 3)) (hrg : rg r = some (.inl ci, N)) (hcl : (vwCl[ci]?).map (fun q => q.1) = some mc.1.cls) (hs : Nat.ble (catS st) 8 = true) (hb1 : b.1 = bc.1 + b'.1) (hb2 : b.2 = bc.2 + b'.2) (hp : pc + 3 = pc') (h : cal F K = some rr) (hM : ∀ q σ', F = some (q, σ') → MM d bc mc (vR r i :: []) σ (none, σ')) (k : ∀ q σ', K q σ' = some rr → WM (d + 1) X Y b' mi pc' lv (st) σ' res) : WM (d + 1) X Y b mi pc lv (vR r i :: st) σ res := r_callv_v (as := []) hw hd hrg hcl rfl hs hb1 hb2 hp h hM k
theorem v1_v {r i ci N idx : Nat} {a1 : MV} {F : Option (Unit × SS)} {K : Unit → SS → Option α} (hw : CV mi.1.cls idx mc 1) (hd : decode mi.2.1 pc = .ok (.invokevirtual idx, 3)) (hrg : rg r = some (.inl ci, N)) (hcl : (vwCl[ci]?).map (fun q => q.1) = some mc.1.cls) (hs : Nat.ble (catS st) 8 = true) (hb1 : b.1 = bc.1 + b'.1) (hb2 : b.2 = bc.2 + b'.2) (hp : pc + 3 = pc') (h : cal F K = some rr) (hM : ∀ q σ', F = some (q, σ') → MM d bc mc (vR r i :: [a1]) σ (none, σ')) (k : ∀ q σ', K q σ' = some rr → WM (d + 1) X Y b' mi pc' lv (st) σ' res) : WM (d + 1) X Y b mi pc lv (a1 :: vR r i :: st) σ res := r_callv_v (as := [a1]) hw hd hrg hcl rfl hs hb1 hb2 hp h hM k
theorem v2_v {r i ci N idx : Nat} {a1 a2 : MV} {F : Option (Unit × SS)} {K : Unit → SS → Option α} (hw : CV mi.1.cls idx mc 2) (hd : decode mi.2.1 pc = .ok (.invokevirtual idx, 3)) (hrg : rg r = some (.inl ci, N)) (hcl : (vwCl[ci]?).map (fun q => q.1) = some mc.1.cls) (hs : Nat.ble (catS st) 8 = true) (hb1 : b.1 = bc.1 + b'.1) (hb2 : b.2 = bc.2 + b'.2) (hp : pc + 3 = pc') (h : cal F K = some rr) (hM : ∀ q σ', F = some (q, σ') → MM d bc mc (vR r i :: [a1, a2]) σ (none, σ')) (k : ∀ q σ', K q σ' = some rr → WM (d + 1) X Y b' mi pc' lv (st) σ' res) : WM (d + 1) X Y b mi pc lv (a2 :: a1 :: vR r i :: st) σ res := r_callv_v (as := [a1, a2]) hw hd hrg hcl rfl hs hb1 hb2 hp h hM k
theorem v3_v {r i ci N idx : Nat} {a1 a2 a3 : MV} {F : Option (Unit × SS)} {K : Unit → SS → Option α} (hw : CV mi.1.cls idx mc 3) (hd : decode mi.2.1 pc = .ok (.invokevirtual idx, 3)) (hrg : rg r = some (.inl ci, N)) (hcl : (vwCl[ci]?).map (fun q => q.1) = some mc.1.cls) (hs : Nat.ble (catS st) 8 = true) (hb1 : b.1 = bc.1 + b'.1) (hb2 : b.2 = bc.2 + b'.2) (hp : pc + 3 = pc') (h : cal F K = some rr) (hM : ∀ q σ', F = some (q, σ') → MM d bc mc (vR r i :: [a1, a2, a3]) σ (none, σ')) (k : ∀ q σ', K q σ' = some rr → WM (d + 1) X Y b' mi pc' lv (st) σ' res) : WM (d + 1) X Y b mi pc lv (a3 :: a2 :: a1 :: vR r i :: st) σ res := r_callv_v (as := [a1, a2, a3]) hw hd hrg hcl rfl hs hb1 hb2 hp h hM k
theorem v4_v {r i ci N idx : Nat} {a1 a2 a3 a4 : MV} {F : Option (Unit × SS)} {K : Unit → SS → Option α} (hw : CV mi.1.cls idx mc 4) (hd : decode mi.2.1 pc = .ok (.invokevirtual idx, 3)) (hrg : rg r = some (.inl ci, N)) (hcl : (vwCl[ci]?).map (fun q => q.1) = some mc.1.cls) (hs : Nat.ble (catS st) 8 = true) (hb1 : b.1 = bc.1 + b'.1) (hb2 : b.2 = bc.2 + b'.2) (hp : pc + 3 = pc') (h : cal F K = some rr) (hM : ∀ q σ', F = some (q, σ') → MM d bc mc (vR r i :: [a1, a2, a3, a4]) σ (none, σ')) (k : ∀ q σ', K q σ' = some rr → WM (d + 1) X Y b' mi pc' lv (st) σ' res) : WM (d + 1) X Y b mi pc lv (a4 :: a3 :: a2 :: a1 :: vR r i :: st) σ res := r_callv_v (as := [a1, a2, a3, a4]) hw hd hrg hcl rfl hs hb1 hb2 hp h hM k
theorem v0_o {t : Nat} {r i ci N idx : Nat} {F : Option (Option Nat × SS)} {K : Option Nat → SS → Option α} (hw : CV mi.1.cls idx mc 0) (hd : decode mi.2.1 pc = .ok (.invokevirtual idx, 3)) (hrg : rg r = some (.inl ci, N)) (hcl : (vwCl[ci]?).map (fun q => q.1) = some mc.1.cls) (hs : Nat.ble (catS st) 8 = true) (hb1 : b.1 = bc.1 + b'.1) (hb2 : b.2 = bc.2 + b'.2) (hp : pc + 3 = pc') (h : cal F K = some rr) (hM : ∀ q σ', F = some (q, σ') → MM d bc mc (vR r i :: []) σ (some (vO t q), σ')) (k : ∀ q σ', K q σ' = some rr → WM (d + 1) X Y b' mi pc' lv (vO t q :: st) σ' res) : WM (d + 1) X Y b mi pc lv (vR r i :: st) σ res := r_callv_o (as := []) hw hd hrg hcl rfl hs hb1 hb2 hp h hM k
theorem v1_o {t : Nat} {r i ci N idx : Nat} {a1 : MV} {F : Option (Option Nat × SS)} {K : Option Nat → SS → Option α} (hw : CV mi.1.cls idx mc 1) (hd : decode mi.2.1 pc = .ok (.invokevirtual idx, 3)) (hrg : rg r = some (.inl ci, N)) (hcl : (vwCl[ci]?).map (fun q => q.1) = some mc.1.cls) (hs : Nat.ble (catS st) 8 = true) (hb1 : b.1 = bc.1 + b'.1) (hb2 : b.2 = bc.2 + b'.2) (hp : pc + 3 = pc') (h : cal F K = some rr) (hM : ∀ q σ', F = some (q, σ') → MM d bc mc (vR r i :: [a1]) σ (some (vO t q), σ')) (k : ∀ q σ', K q σ' = some rr → WM (d + 1) X Y b' mi pc' lv (vO t q :: st) σ' res) : WM (d + 1) X Y b mi pc lv (a1 :: vR r i :: st) σ res := r_callv_o (as := [a1]) hw hd hrg hcl rfl hs hb1 hb2 hp h hM k
theorem v2_o {t : Nat} {r i ci N idx : Nat} {a1 a2 : MV} {F : Option (Option Nat × SS)} {K : Option Nat → SS → Option α} (hw : CV mi.1.cls idx mc 2) (hd : decode mi.2.1 pc = .ok (.invokevirtual idx, 3)) (hrg : rg r = some (.inl ci, N)) (hcl : (vwCl[ci]?).map (fun q => q.1) = some mc.1.cls) (hs : Nat.ble (catS st) 8 = true) (hb1 : b.1 = bc.1 + b'.1) (hb2 : b.2 = bc.2 + b'.2) (hp : pc + 3 = pc') (h : cal F K = some rr) (hM : ∀ q σ', F = some (q, σ') → MM d bc mc (vR r i :: [a1, a2]) σ (some (vO t q), σ')) (k : ∀ q σ', K q σ' = some rr → WM (d + 1) X Y b' mi pc' lv (vO t q :: st) σ' res) : WM (d + 1) X Y b mi pc lv (a2 :: a1 :: vR r i :: st) σ res := r_callv_o (as := [a1, a2]) hw hd hrg hcl rfl hs hb1 hb2 hp h hM k
theorem v3_o {t : Nat} {r i ci N idx : Nat} {a1 a2 a3 : MV} {F : Option (Option Nat × SS)} {K : Option Nat → SS → Option α} (hw : CV mi.1.cls idx mc 3) (hd : decode mi.2.1 pc = .ok (.invokevirtual idx, 3)) (hrg : rg r = some (.inl ci, N)) (hcl : (vwCl[ci]?).map (fun q => q.1) = some mc.1.cls) (hs : Nat.ble (catS st) 8 = true) (hb1 : b.1 = bc.1 + b'.1) (hb2 : b.2 = bc.2 + b'.2) (hp : pc + 3 = pc') (h : cal F K = some rr) (hM : ∀ q σ', F = some (q, σ') → MM d bc mc (vR r i :: [a1, a2, a3]) σ (some (vO t q), σ')) (k : ∀ q σ', K q σ' = some rr → WM (d + 1) X Y b' mi pc' lv (vO t q :: st) σ' res) : WM (d + 1) X Y b mi pc lv (a3 :: a2 :: a1 :: vR r i :: st) σ res := r_callv_o (as := [a1, a2, a3]) hw hd hrg hcl rfl hs hb1 hb2 hp h hM k
theorem v4_o {t : Nat} {r i ci N idx : Nat} {a1 a2 a3 a4 : MV} {F : Option (Option Nat × SS)} {K : Option Nat → SS → Option α} (hw : CV mi.1.cls idx mc 4) (hd : decode mi.2.1 pc = .ok (.invokevirtual idx, 3)) (hrg : rg r = some (.inl ci, N)) (hcl : (vwCl[ci]?).map (fun q => q.1) = some mc.1.cls) (hs : Nat.ble (catS st) 8 = true) (hb1 : b.1 = bc.1 + b'.1) (hb2 : b.2 = bc.2 + b'.2) (hp : pc + 3 = pc') (h : cal F K = some rr) (hM : ∀ q σ', F = some (q, σ') → MM d bc mc (vR r i :: [a1, a2, a3, a4]) σ (some (vO t q), σ')) (k : ∀ q σ', K q σ' = some rr → WM (d + 1) X Y b' mi pc' lv (vO t q :: st) σ' res) : WM (d + 1) X Y b mi pc lv (a4 :: a3 :: a2 :: a1 :: vR r i :: st) σ res := r_callv_o (as := [a1, a2, a3, a4]) hw hd hrg hcl rfl hs hb1 hb2 hp h hM k
theorem s0_i {idx : Nat} {F : Option (Int32 × SS)} {K : Int32 → SS → Option α} (hw : CT mi.1.cls idx mc 0) (hd : decode mi.2.1 pc = .ok (.invokestatic idx, 3)) (hs : Nat.ble (catS st) 8 = true) (hb1 : b.1 = bc.1 + b'.1) (hb2 : b.2 = bc.2 + b'.2) (hp : pc + 3 = pc') (h : cal F K = some rr) (hM : ∀ q σ', F = some (q, σ') → MM d bc mc [] σ (some (vI q), σ')) (k : ∀ q σ', K q σ' = some rr → WM (d + 1) X Y b' mi pc' lv (vI q :: st) σ' res) : WM (d + 1) X Y b mi pc lv (st) σ res := r_calls_i (as := []) hw hd rfl hs hb1 hb2 hp h hM k
theorem s1_i {idx : Nat} {a1 : MV} {F : Option (Int32 × SS)} {K : Int32 → SS → Option α} (hw : CT mi.1.cls idx mc 1) (hd : decode mi.2.1 pc = .ok (.invokestatic idx, 3)) (hs : Nat.ble (catS st) 8 = true) (hb1 : b.1 = bc.1 + b'.1) (hb2 : b.2 = bc.2 + b'.2) (hp : pc + 3 = pc') (h : cal F K = some rr) (hM : ∀ q σ', F = some (q, σ') → MM d bc mc [a1] σ (some (vI q), σ')) (k : ∀ q σ', K q σ' = some rr → WM (d + 1) X Y b' mi pc' lv (vI q :: st) σ' res) : WM (d + 1) X Y b mi pc lv (a1 :: st) σ res := r_calls_i (as := [a1]) hw hd rfl hs hb1 hb2 hp h hM k
theorem s2_i {idx : Nat} {a1 a2 : MV} {F : Option (Int32 × SS)} {K : Int32 → SS → Option α} (hw : CT mi.1.cls idx mc 2) (hd : decode mi.2.1 pc = .ok (.invokestatic idx, 3)) (hs : Nat.ble (catS st) 8 = true) (hb1 : b.1 = bc.1 + b'.1) (hb2 : b.2 = bc.2 + b'.2) (hp : pc + 3 = pc') (h : cal F K = some rr) (hM : ∀ q σ', F = some (q, σ') → MM d bc mc [a1, a2] σ (some (vI q), σ')) (k : ∀ q σ', K q σ' = some rr → WM (d + 1) X Y b' mi pc' lv (vI q :: st) σ' res) : WM (d + 1) X Y b mi pc lv (a2 :: a1 :: st) σ res := r_calls_i (as := [a1, a2]) hw hd rfl hs hb1 hb2 hp h hM k
theorem s3_i {idx : Nat} {a1 a2 a3 : MV} {F : Option (Int32 × SS)} {K : Int32 → SS → Option α} (hw : CT mi.1.cls idx mc 3) (hd : decode mi.2.1 pc = .ok (.invokestatic idx, 3)) (hs : Nat.ble (catS st) 8 = true) (hb1 : b.1 = bc.1 + b'.1) (hb2 : b.2 = bc.2 + b'.2) (hp : pc + 3 = pc') (h : cal F K = some rr) (hM : ∀ q σ', F = some (q, σ') → MM d bc mc [a1, a2, a3] σ (some (vI q), σ')) (k : ∀ q σ', K q σ' = some rr → WM (d + 1) X Y b' mi pc' lv (vI q :: st) σ' res) : WM (d + 1) X Y b mi pc lv (a3 :: a2 :: a1 :: st) σ res := r_calls_i (as := [a1, a2, a3]) hw hd rfl hs hb1 hb2 hp h hM k
theorem s4_i {idx : Nat} {a1 a2 a3 a4 : MV} {F : Option (Int32 × SS)} {K : Int32 → SS → Option α} (hw : CT mi.1.cls idx mc 4) (hd : decode mi.2.1 pc = .ok (.invokestatic idx, 3)) (hs : Nat.ble (catS st) 8 = true) (hb1 : b.1 = bc.1 + b'.1) (hb2 : b.2 = bc.2 + b'.2) (hp : pc + 3 = pc') (h : cal F K = some rr) (hM : ∀ q σ', F = some (q, σ') → MM d bc mc [a1, a2, a3, a4] σ (some (vI q), σ')) (k : ∀ q σ', K q σ' = some rr → WM (d + 1) X Y b' mi pc' lv (vI q :: st) σ' res) : WM (d + 1) X Y b mi pc lv (a4 :: a3 :: a2 :: a1 :: st) σ res := r_calls_i (as := [a1, a2, a3, a4]) hw hd rfl hs hb1 hb2 hp h hM k
theorem s0_v {idx : Nat} {F : Option (Unit × SS)} {K : Unit → SS → Option α} (hw : CT mi.1.cls idx mc 0) (hd : decode mi.2.1 pc = .ok (.invokestatic idx, 3)) (hs : Nat.ble (catS st) 8 = true) (hb1 : b.1 = bc.1 + b'.1) (hb2 : b.2 = bc.2 + b'.2) (hp : pc + 3 = pc') (h : cal F K = some rr) (hM : ∀ q σ', F = some (q, σ') → MM d bc mc [] σ (none, σ')) (k : ∀ q σ', K q σ' = some rr → WM (d + 1) X Y b' mi pc' lv (st) σ' res) : WM (d + 1) X Y b mi pc lv (st) σ res := r_calls_v (as := []) hw hd rfl hs hb1 hb2 hp h hM k
theorem s1_v {idx : Nat} {a1 : MV} {F : Option (Unit × SS)} {K : Unit → SS → Option α} (hw : CT mi.1.cls idx mc 1) (hd : decode mi.2.1 pc = .ok (.invokestatic idx, 3)) (hs : Nat.ble (catS st) 8 = true) (hb1 : b.1 = bc.1 + b'.1) (hb2 : b.2 = bc.2 + b'.2) (hp : pc + 3 = pc') (h : cal F K = some rr) (hM : ∀ q σ', F = some (q, σ') → MM d bc mc [a1] σ (none, σ')) (k : ∀ q σ', K q σ' = some rr → WM (d + 1) X Y b' mi pc' lv (st) σ' res) : WM (d + 1) X Y b mi pc lv (a1 :: st) σ res := r_calls_v (as := [a1]) hw hd rfl hs hb1 hb2 hp h hM k
theorem s2_v {idx : Nat} {a1 a2 : MV} {F : Option (Unit × SS)} {K : Unit → SS → Option α} (hw : CT mi.1.cls idx mc 2) (hd : decode mi.2.1 pc = .ok (.invokestatic idx, 3)) (hs : Nat.ble (catS st) 8 = true) (hb1 : b.1 = bc.1 + b'.1) (hb2 : b.2 = bc.2 + b'.2) (hp : pc + 3 = pc') (h : cal F K = some rr) (hM : ∀ q σ', F = some (q, σ') → MM d bc mc [a1, a2] σ (none, σ')) (k : ∀ q σ', K q σ' = some rr → WM (d + 1) X Y b' mi pc' lv (st) σ' res) : WM (d + 1) X Y b mi pc lv (a2 :: a1 :: st) σ res := r_calls_v (as := [a1, a2]) hw hd rfl hs hb1 hb2 hp h hM k
theorem s3_v {idx : Nat} {a1 a2 a3 : MV} {F : Option (Unit × SS)} {K : Unit → SS → Option α} (hw : CT mi.1.cls idx mc 3) (hd : decode mi.2.1 pc = .ok (.invokestatic idx, 3)) (hs : Nat.ble (catS st) 8 = true) (hb1 : b.1 = bc.1 + b'.1) (hb2 : b.2 = bc.2 + b'.2) (hp : pc + 3 = pc') (h : cal F K = some rr) (hM : ∀ q σ', F = some (q, σ') → MM d bc mc [a1, a2, a3] σ (none, σ')) (k : ∀ q σ', K q σ' = some rr → WM (d + 1) X Y b' mi pc' lv (st) σ' res) : WM (d + 1) X Y b mi pc lv (a3 :: a2 :: a1 :: st) σ res := r_calls_v (as := [a1, a2, a3]) hw hd rfl hs hb1 hb2 hp h hM k
theorem s4_v {idx : Nat} {a1 a2 a3 a4 : MV} {F : Option (Unit × SS)} {K : Unit → SS → Option α} (hw : CT mi.1.cls idx mc 4) (hd : decode mi.2.1 pc = .ok (.invokestatic idx, 3)) (hs : Nat.ble (catS st) 8 = true) (hb1 : b.1 = bc.1 + b'.1) (hb2 : b.2 = bc.2 + b'.2) (hp : pc + 3 = pc') (h : cal F K = some rr) (hM : ∀ q σ', F = some (q, σ') → MM d bc mc [a1, a2, a3, a4] σ (none, σ')) (k : ∀ q σ', K q σ' = some rr → WM (d + 1) X Y b' mi pc' lv (st) σ' res) : WM (d + 1) X Y b mi pc lv (a4 :: a3 :: a2 :: a1 :: st) σ res := r_calls_v (as := [a1, a2, a3, a4]) hw hd rfl hs hb1 hb2 hp h hM k
theorem n0_i {host : String} {idx : Nat} {F : Option (Int32 × SS)} {K : Int32 → SS → Option α} (hw : CN mi.1.cls idx host mc 0) (hd : decode mi.2.1 pc = .ok (.invokestatic idx, 3)) (hs : Nat.ble (catS st) 8 = true) (hb1 : b.1 = bc.1 + b'.1) (hb2 : b.2 = bc.2 + b'.2) (hp : pc + 3 = pc') (h : cal F K = some rr) (hM : ∀ q σ', F = some (q, σ') → MM d bc mc [] σ (some (vI q), σ')) (k : ∀ q σ', K q σ' = some rr → WM (d + 1) X Y b' mi pc' lv (vI q :: st) σ' res) : WM (d + 1) X Y b mi pc lv (st) σ res := r_calln_i (as := []) hw hd rfl hs hb1 hb2 hp h hM k
theorem n1_i {host : String} {idx : Nat} {a1 : MV} {F : Option (Int32 × SS)} {K : Int32 → SS → Option α} (hw : CN mi.1.cls idx host mc 1) (hd : decode mi.2.1 pc = .ok (.invokestatic idx, 3)) (hs : Nat.ble (catS st) 8 = true) (hb1 : b.1 = bc.1 + b'.1) (hb2 : b.2 = bc.2 + b'.2) (hp : pc + 3 = pc') (h : cal F K = some rr) (hM : ∀ q σ', F = some (q, σ') → MM d bc mc [a1] σ (some (vI q), σ')) (k : ∀ q σ', K q σ' = some rr → WM (d + 1) X Y b' mi pc' lv (vI q :: st) σ' res) : WM (d + 1) X Y b mi pc lv (a1 :: st) σ res := r_calln_i (as := [a1]) hw hd rfl hs hb1 hb2 hp h hM k
theorem n2_i {host : String} {idx : Nat} {a1 a2 : MV} {F : Option (Int32 × SS)} {K : Int32 → SS → Option α} (hw : CN mi.1.cls idx host mc 2) (hd : decode mi.2.1 pc = .ok (.invokestatic idx, 3)) (hs : Nat.ble (catS st) 8 = true) (hb1 : b.1 = bc.1 + b'.1) (hb2 : b.2 = bc.2 + b'.2) (hp : pc + 3 = pc') (h : cal F K = some rr) (hM : ∀ q σ', F = some (q, σ') → MM d bc mc [a1, a2] σ (some (vI q), σ')) (k : ∀ q σ', K q σ' = some rr → WM (d + 1) X Y b' mi pc' lv (vI q :: st) σ' res) : WM (d + 1) X Y b mi pc lv (a2 :: a1 :: st) σ res := r_calln_i (as := [a1, a2]) hw hd rfl hs hb1 hb2 hp h hM k
theorem n3_i {host : String} {idx : Nat} {a1 a2 a3 : MV} {F : Option (Int32 × SS)} {K : Int32 → SS → Option α} (hw : CN mi.1.cls idx host mc 3) (hd : decode mi.2.1 pc = .ok (.invokestatic idx, 3)) (hs : Nat.ble (catS st) 8 = true) (hb1 : b.1 = bc.1 + b'.1) (hb2 : b.2 = bc.2 + b'.2) (hp : pc + 3 = pc') (h : cal F K = some rr) (hM : ∀ q σ', F = some (q, σ') → MM d bc mc [a1, a2, a3] σ (some (vI q), σ')) (k : ∀ q σ', K q σ' = some rr → WM (d + 1) X Y b' mi pc' lv (vI q :: st) σ' res) : WM (d + 1) X Y b mi pc lv (a3 :: a2 :: a1 :: st) σ res := r_calln_i (as := [a1, a2, a3]) hw hd rfl hs hb1 hb2 hp h hM k
theorem n4_i {host : String} {idx : Nat} {a1 a2 a3 a4 : MV} {F : Option (Int32 × SS)} {K : Int32 → SS → Option α} (hw : CN mi.1.cls idx host mc 4) (hd : decode mi.2.1 pc = .ok (.invokestatic idx, 3)) (hs : Nat.ble (catS st) 8 = true) (hb1 : b.1 = bc.1 + b'.1) (hb2 : b.2 = bc.2 + b'.2) (hp : pc + 3 = pc') (h : cal F K = some rr) (hM : ∀ q σ', F = some (q, σ') → MM d bc mc [a1, a2, a3, a4] σ (some (vI q), σ')) (k : ∀ q σ', K q σ' = some rr → WM (d + 1) X Y b' mi pc' lv (vI q :: st) σ' res) : WM (d + 1) X Y b mi pc lv (a4 :: a3 :: a2 :: a1 :: st) σ res := r_calln_i (as := [a1, a2, a3, a4]) hw hd rfl hs hb1 hb2 hp h hM k
end LTROWS
end
section
/-! ===== CONSTRUCTORS: cells that are made one behind another ===== -/
/-- an object: its class's number, its fields; an array: its kind, its length, what it holds -/
abbrev NC : Type := (Nat × List Value) ⊕ (Nat × Nat × (Nat → Value))
def ncOk (w : WX) (a : Nat) (c : NC) (H : Heap) : Prop := match c with
  | .inl o => t_OB a (w.1.1 o.1) o.2.length (w.1.2 o.1) H (vp_V o.2)
  | .inr q => H[a]? = some (arrV (w.2.1 q.1) q.2.1 q.2.2)
theorem ncOk.kept {w : WX} {a : Nat} {c : NC} {H H' : Heap} (h : ncOk w a c H) (e : H'[a]? = H[a]?) : ncOk w a c H' := by
  match c, h with
  | .inl o, h => exact t_OB.kept h e
  | .inr q, h => exact (show H'[a]? = _ by rw [e]; exact h)
def CR (w : WX) (B : Heap) (ns : List NC) (H : Heap) : Prop := H.size = B.size + ns.length ∧ (∀ q : Nat, q < B.size → H[q]? = B[q]?) ∧ ∀ (k : Nat) (c : NC), ns[k]? = some c → ncOk w (B.size + k) c H
theorem CR.push {w : WX} {B : Heap} {ns : List NC} {H H' : Heap} {c : NC} (h : CR w B ns H) (hz : H'.size = H.size + 1) (ho : ∀ q, q < H.size → H'[q]? = H[q]?) (hc : ncOk w H.size c H') : CR w B (ns ++ [c]) H' := by
  refine ⟨by rw [hz, h.1, List.length_append]; rfl, fun q hq => by rw [ho q (by have := h.1; omega)]; exact h.2.1 q hq, fun k d hk => ?_⟩
  by_cases hl : k < ns.length
  · rw [List.getElem?_append_left hl] at hk
    exact (h.2.2 k d hk).kept (ho _ (by have := h.1; omega))
  · rw [List.getElem?_append_right (by omega)] at hk
    have hz2 : k - ns.length < 1 := (List.getElem?_eq_some_iff.mp hk).1
    rw [show k - ns.length = 0 by omega] at hk
    cases hk
    rw [show B.size + k = H.size by have := h.1; omega]
    exact hc
theorem CR.set {w : WX} {B : Heap} {ns : List NC} {H H' : Heap} {i : Nat} {c : NC} (h : CR w B ns H) (hz : H'.size = H.size) (ho : ∀ q, q ≠ B.size + i → H'[q]? = H[q]?) (hc : ncOk w (B.size + i) c H') : CR w B (ns.set i c) H' := by
  refine ⟨by rw [hz, h.1, List.length_set], fun q hq => by rw [ho q (by omega)]; exact h.2.1 q hq, fun k d hk => ?_⟩
  rw [List.getElem?_set] at hk
  split at hk
  · rename_i e
    subst e
    split at hk
    · cases hk
      exact hc
    · cases hk
  · rename_i e
    exact (h.2.2 k d hk).kept (ho _ (by omega))
def AO2 (ao : Bool) (U : State) : Prop := ao = true → va_AO "OctagonYard$Piece" U ∧ va_AO "OctagonYard$Assembly" U
theorem AO2.warm {ao : Bool} {s U : State} (hW : s.WarmedH U.vm) (h : AO2 ao s) : AO2 ao U := fun e => ⟨(h e).1.moved hW.alike, (h e).2.moved hW.alike⟩
def QC (w : WX) (B : Heap) (post : List NC) : Array Value → State → Outcome → State → Prop := fun _ _ o t => o = .returned none ∧ CR w B post t.heap
/-- a constructor's contract: on the cell i of those made since B -/
def MC (ao : Bool) (d : Nat) (b : Nat × Nat) (mi : MI) (B : Heap) (i : Nat) (ns post : List NC) : Prop := ∀ (l : Launch) (w : WX), Met l mi.1 [.code mi.1 mi.2.1 mi.2.2.1 mi.2.2.2] { frames := d, cells := b.1, slots := b.2, locals := 40 * d } (va_Pc [.ref (B.size + i)] (fun U => EnvW w U ∧ AO2 ao U ∧ CR w B ns U.heap)) (QC w B post) b.1 b.2 (fun q => B.size ≤ q)
def lok0 (ls : Array Slot) (nL a : Nat) : Prop := ls.size = nL ∧ lv_wf ls ∧ ls[0]? = some (.val (.ref a))
def WC (ao : Bool) (d : Nat) (X : MX) (Y : MY) (b : Nat × Nat) (mi : MI) (pc : Nat) (B : Heap) (i : Nat) (st : List Value) (ns post : List NC) : Prop :=
  okX d X Y mi → AO2 ao X.2.2.2.2.1 → X.2.2.2.2.2.2.2.2.1.name = "<init>" → ∀ (H : Heap) (locs : List Loc) (ls : Array Slot) (cells slots : Nat), CR Y.1 B ns H → (∀ q ∈ locs, B.size ≤ q.base) → lok0 ls mi.2.2.1 (B.size + i) → cells + b.1 = X.2.2.2.1.cells → slots + b.2 = X.2.2.2.1.slots →
    W X.1 X.2.1 X.2.2.1 X.2.2.2.1 X.2.2.2.2.1 X.2.2.2.2.2.1 X.2.2.2.2.2.2.1 X.2.2.2.2.2.2.2.1 X.2.2.2.2.2.2.2.2.1 X.2.2.2.2.2.2.2.2.2 H locs cells slots
      (MQ X.2.2.2.2.2.2.2.1 (QC Y.1 B post) X.2.2.2.2.2.2.1 X.2.2.2.2.1 X.2.2.2.1.cells X.2.2.2.1.slots (fun q => B.size ≤ q)) (F0 X.2.2.2.2.2.1 pc ls st)
theorem MC.of {ao : Bool} {d : Nat} {b : Nat × Nat} {mi : MI} {B : Heap} {i : Nat} {ns post : List NC} (hy : plainFor mi.1 = true) (hn : mi.1.name = "<init>") (hl : Nat.ble 1 mi.2.2.1 = true) (k : ∀ (X : MX) (Y : MY), WC ao d X Y b mi 0 B i [] ns post) : MC ao d b mi B i ns post := by
  intro l w
  refine va_MetF (cc := mi.2.1) (maxL := mi.2.2.1) (ret := mi.2.2.2) hy rfl ?_
  intro p e s m args below meth c s₁ Bd hml hv
  obtain ⟨rfl, hE, hA, hR⟩ := hv
  have h1 := lv_entry [.ref (B.size + i)] (n := mi.2.2.1) (show 1 ≤ mi.2.2.1 from Nat.le_of_ble_eq_true hl)
  rw [lg_entry_eq]
  exact k (p, l, e, _, s, m, _, below, meth, c) (w, (fun _ _ => 0), ((fun _ _ _ => 0), 0, 0)) ⟨Bd.exec, Bd.bytes, Bd.returns, hml, findClass_of_methodNamed Bd.named, Bd.notSynchronized, hE, Nat.le_refl _, Nat.le_refl _⟩ hA ((name_of_methodNamed Bd.named Bd.method).1.trans hn) s.heap [] _ 0 0 hR (fun q h => by cases h) ⟨h1.1, h1.2.1, h1.2.2 _ List.mem_cons_self⟩ (Nat.zero_add _) (Nat.zero_add _)
section CROWS
variable {ao : Bool} {d : Nat} {X : MX} {Y : MY} {b b' bc : Nat × Nat} {mi mc : MI} {pc pc' : Nat} {B : Heap} {i : Nat} {st : List Value} {ns ns' post : List NC}
theorem c_load0 (hd : decode mi.2.1 pc = .ok (.aload_n 0, 1)) (hp : pc + 1 = pc') (k : WC ao d X Y b mi pc' B i (.ref (B.size + i) :: st) ns post) : WC ao d X Y b mi pc B i st ns post := by
  subst hp
  intro ok hA hn H locs ls cells slots hC hL hl hc hs
  exact lv_aload_n ok.1 ok.2.1 hd rfl hl.2.2 (k ok hA hn H locs ls cells slots hC hL hl hc hs)
theorem c_iconst {n : Int} {x : Int32} (hd : decode mi.2.1 pc = .ok (.iconst n, 1)) (hv : Int32.ofInt n = x) (hp : pc + 1 = pc') (k : WC ao d X Y b mi pc' B i (.int x :: st) ns post) : WC ao d X Y b mi pc B i st ns post := by
  subst hp
  intro ok hA hn H locs ls cells slots hC hL hl hc hs
  exact lv_iconst ok.1 ok.2.1 hd hv (k ok hA hn H locs ls cells slots hC hL hl hc hs)
theorem c_bipush {n : Int} {x : Int32} (hd : decode mi.2.1 pc = .ok (.bipush n, 2)) (hv : (Int8.ofInt n).toInt32 = x) (hp : pc + 2 = pc') (k : WC ao d X Y b mi pc' B i (.int x :: st) ns post) : WC ao d X Y b mi pc B i st ns post := by
  subst hp
  intro ok hA hn H locs ls cells slots hC hL hl hc hs
  exact lv_bipush ok.1 ok.2.1 hd hv (k ok hA hn H locs ls cells slots hC hL hl hc hs)
theorem c_sipush {n : Int} {x : Int32} (hd : decode mi.2.1 pc = .ok (.sipush n, 3)) (hv : (Int16.ofInt n).toInt32 = x) (hp : pc + 3 = pc') (k : WC ao d X Y b mi pc' B i (.int x :: st) ns post) : WC ao d X Y b mi pc B i st ns post := by
  subst hp
  intro ok hA hn H locs ls cells slots hC hL hl hc hs
  exact lv_sipush ok.1 ok.2.1 hd hv (k ok hA hn H locs ls cells slots hC hL hl hc hs)
theorem c_dup {v : Value} (hd : decode mi.2.1 pc = .ok (.dup, 1)) (hv : v.category = 1) (hp : pc + 1 = pc') (k : WC ao d X Y b mi pc' B i (v :: v :: st) ns post) : WC ao d X Y b mi pc B i (v :: st) ns post := by
  subst hp
  intro ok hA hn H locs ls cells slots hC hL hl hc hs
  exact lv_dup ok.1 ok.2.1 hd hv (k ok hA hn H locs ls cells slots hC hL hl hc hs)
/-- Object's own constructor -/
def CO (own : String) (idx : Nat) : Prop := Cond.methodLink own idx Lib.objectInit ∈ mtbl ∧ Cond.instanceMethod Lib.objectInit ∈ mtbl ∧ Cond.code Lib.objectInit ⟨#[0xb1]⟩ 1 none ∈ mtbl
theorem c_obj {idx : Nat} {a : Nat} (hw : CO mi.1.cls idx) (hd : decode mi.2.1 pc = .ok (.invokespecial idx, 3)) (hr : Nat.ble ((st.map fun v => v.category).sum) 8 = true) (hp : pc + 3 = pc') (k : WC ao (d + 1) X Y b mi pc' B i st ns post) : WC ao (d + 1) X Y b mi pc B i (.ref a :: st) ns post := by
  subst hp
  intro ok hA hn H locs ls cells slots hC hL hl hc hs
  have hr' := Nat.le_of_ble_eq_true hr
  exact W.objInit ok.1 ok.2.1 ok.own (ok.hts _ hw.1) (ok.hts _ hw.2.1) (ok.hts _ hw.2.2) rfl (by rw [ok.2.2.2.1]; exact hl.1) rfl hd (by have hlc := ok.2.2.2.2.2.2.2.1; omega) (by have hlc := ok.2.2.2.2.2.2.2.2; show 2 * 0 + _ + 12 ≤ _; omega) (k ok hA hn H locs ls cells slots hC hL hl hc hs)
theorem c_newarr {aty0 : ArrayType} {t N : Nat} {n : Int32} (hT : newarray.typeOf aty0 = aty t) (ht : t < 2) (hw : Cond.arrayClass (aty t) ∈ mtbl) (hd : decode mi.2.1 pc = .ok (.newarray aty0, 2)) (hn0 : ¬ n < 0) (hN : n.toNatClampNeg = N) (hby : N ≤ 1000) (hb1 : b.1 = 1 + b'.1) (hb2 : b.2 = N + b'.2) (hp : pc + 2 = pc') (k : WC ao d X Y b' mi pc' B i (.ref (B.size + ns.length) :: st) (ns ++ [.inr (t, N, fun _ => .int 0)]) post) : WC ao d X Y b mi pc B i (.int n :: st) ns post := by
  subst hp
  intro ok hA hn H locs ls cells slots hC hL hl hc hs
  have hw' := ok.hts _ hw
  rw [← hT] at hw'
  have hcb : componentBytes (newarray.typeOf aty0) ≤ 8 := by cases aty0 <;> decide
  have hdv : defaultValue (newarray.typeOf aty0) = .int 0 := by
    rw [hT]
    rcases (show t = 0 ∨ t = 1 by omega) with rfl | rfl <;> rfl
  have hmul : N * componentBytes (newarray.typeOf aty0) ≤ 8000 := by
    calc N * componentBytes (newarray.typeOf aty0) ≤ 1000 * 8 := Nat.mul_le_mul hby hcb
      _ = 8000 := rfl
  subst hN
  refine W.newa ok.1 ok.2.1 hw' rfl hd rfl hn0 (by omega) (by omega) (by omega) fun cA kA comp h1 h2 h3 => ?_
  have hcA : cA = Y.1.2.1 t := by
    have := (ok.env.2.2.1 t (by omega)).2
    have e : X.2.2.2.2.1.vm.findClass ("[" ++ (aty t).toString) = some (Y.1.2.1 t) := by
      rcases (show t = 0 ∨ t = 1 by omega) with rfl | rfl <;> exact this
    rw [hT] at h1
    exact Option.some.inj (h1.symm.trans e)
  subst hcA
  have hz : H.size = B.size + ns.length := hC.1
  rw [hz]
  refine k ok hA hn _ locs ls (cells + 1) (slots + n.toNatClampNeg) (hC.push (by simp) (fun q hq => by rw [Array.getElem?_push, if_neg (Nat.ne_of_lt hq)]) ?_) hL hl (by omega) (by omega)
  show (H.push _)[H.size]? = some _
  rw [Array.getElem?_push_size, arrV_new, hdv]
theorem c_anew {C : String} {idx t N : Nat} {n : Int32} (hao : ao = true) (hT : aty t = .object C) (ht : t = 2 ∨ t = 3) (hw : Cond.classLink mi.1.cls idx C ∈ mtbl) (hd : decode mi.2.1 pc = .ok (.anewarray idx, 3)) (hn0 : ¬ n < 0) (hN : n.toNatClampNeg = N) (hby : N ≤ 1000) (hb1 : b.1 = 1 + b'.1) (hb2 : b.2 = N + b'.2) (hp : pc + 3 = pc') (k : WC ao d X Y b' mi pc' B i (.ref (B.size + ns.length) :: st) (ns ++ [.inr (t, N, fun _ => .null)]) post) : WC ao d X Y b mi pc B i (.int n :: st) ns post := by
  subst hp
  intro ok hA hn H locs ls cells slots hC hL hl hc hs
  subst hN
  have hA1 : va_AO C X.2.2.2.2.1 := by
    rcases ht with rfl | rfl
    · cases hT
      exact (hA hao).1
    · cases hT
      exact (hA hao).2
  refine W.anew ok.1 ok.2.1 ok.own (ok.hts _ hw) (va_AO.use hA1) rfl hd rfl hn0 (by omega) (by omega) (by omega) fun cA kA comp h1 h2 h3 h4 => ?_
  have hcA : cA = Y.1.2.1 t := by
    have h5 := (ok.env.2.2.1 t (by omega)).2
    rw [hT] at h5
    obtain ⟨kA', comp', -, -, -, h6⟩ := h5
    exact Option.some.inj (h1.symm.trans h6)
  subst hcA
  have hz : H.size = B.size + ns.length := hC.1
  rw [hz]
  refine k ok hA hn _ locs ls (cells + 1) (slots + n.toNatClampNeg) (hC.push (by simp) (fun q hq => by rw [Array.getElem?_push, if_neg (Nat.ne_of_lt hq)]) ?_) hL hl (by omega) (by omega)
  show (H.push _)[H.size]? = some _
  rw [Array.getElem?_push_size, arrV_new]
/-- a new object: its class's words -/
def CB (own : String) (idx ci N : Nat) (fs : List Value) : Prop := ∃ (C : String) (T : u_T) (tf : Nat → FieldType), vwCl[ci]? = some (C, T, N) ∧ Cond.classLink own idx C ∈ mtbl ∧ Cond.instantiable C N ∈ mtbl ∧ Cond.initialized C ∈ mtbl ∧ (∀ w ∈ u_ws C T N, w ∈ mtbl) ∧ (∀ k, k < N → parseFieldDescriptor (T k).2.2.1 = some (tf k)) ∧ fs.length = N ∧ ∀ j, j < N → defaultValue (tf j) = vp_V fs j
theorem w_new {ci N idx : Nat} {fs : List Value} (hw : CB mi.1.cls idx ci N fs) (hd : decode mi.2.1 pc = .ok (.new idx, 3)) {H : Heap} {locs : List Loc} {ls : Array Slot} {cells slots : Nat} {Q : State → Prop} (ok : okX d X Y mi) (hc : cells + 1 ≤ X.2.2.2.1.cells) (hs : slots + N ≤ X.2.2.2.1.slots)
    (k : ∀ H' : Heap, H'.size = H.size + 1 → (∀ q, q < H.size → H'[q]? = H[q]?) → ncOk Y.1 H.size (.inl (ci, fs)) H' → W X.1 X.2.1 X.2.2.1 X.2.2.2.1 X.2.2.2.2.1 X.2.2.2.2.2.1 X.2.2.2.2.2.2.1 X.2.2.2.2.2.2.2.1 X.2.2.2.2.2.2.2.2.1 X.2.2.2.2.2.2.2.2.2 H' locs (cells + 1) (slots + N) Q (F0 X.2.2.2.2.2.1 (pc + 3) ls (.ref H.size :: st))) :
    W X.1 X.2.1 X.2.2.1 X.2.2.2.1 X.2.2.2.2.1 X.2.2.2.2.2.1 X.2.2.2.2.2.2.1 X.2.2.2.2.2.2.2.1 X.2.2.2.2.2.2.2.2.1 X.2.2.2.2.2.2.2.2.2 H locs cells slots Q (F0 X.2.2.2.2.2.1 pc ls st) := by
  obtain ⟨C, T, tf, hcl, hlk, hins, hini, hin, htf, hlen, hfs⟩ := hw
  have hKn := ok.env.2.1 ci _ hcl
  refine W.newcK ok.1 ok.2.1 ok.own (ok.hts _ hlk) (ok.hts _ hins) (ok.hts _ hini) rfl hd hc hs hKn.2.1 rfl fun H1 kC hkC e1 z1 o1 => ?_
  refine k H1 z1 o1 ?_
  show t_OB H.size (Y.1.1.1 ci) fs.length (Y.1.1.2 ci) H1 (vp_V fs)
  rw [hlen]
  exact (u_born tf ok.hts hin hKn hkC e1 htf).to hfs
theorem c_new {ci N idx : Nat} {fs : List Value} (hw : CB mi.1.cls idx ci N fs) (hd : decode mi.2.1 pc = .ok (.new idx, 3)) (hb1 : b.1 = 1 + b'.1) (hb2 : b.2 = N + b'.2) (hp : pc + 3 = pc') (k : WC ao d X Y b' mi pc' B i (.ref (B.size + ns.length) :: st) (ns ++ [.inl (ci, fs)]) post) : WC ao d X Y b mi pc B i st ns post := by
  subst hp
  intro ok hA hn H locs ls cells slots hC hL hl hc hs
  refine w_new hw hd ok (by omega) (by omega) fun H' z1 o1 c1 => ?_
  rw [show H.size = B.size + ns.length from hC.1]
  exact k ok hA hn H' locs ls (cells + 1) (slots + N) (hC.push z1 o1 c1) hL hl (by omega) (by omega)
/-- what a store into a field of a constructor's own class needs -/
def FI (ci N k : Nat) (ty : FieldType) : Prop := ∃ (C : String) (T : u_T) (tf : Nat → FieldType), vwCl[ci]? = some (C, T, N) ∧ parseFieldDescriptor (T k).2.2.1 = some ty ∧ (∀ k, k < N → parseFieldDescriptor (T k).2.2.1 = some (tf k)) ∧ ∀ a, a < N → ∀ b, b < N → a ≠ b → (T a).2.1 ≠ (T b).2.1
theorem c_put {j k ci N idx : Nat} {fs : List Value} {v : Value} {ty : FieldType} (hf : FL mi.1.cls idx ci N k) (hw : FI ci N k ty) (hown : (vwCl[ci]?).map (fun q => q.1) = some mi.1.cls) (hd : decode mi.2.1 pc = .ok (.putfield idx, 3)) (hj : ns[j]? = some (.inl (ci, fs))) (hlen : fs.length = N) (hn : narrow ty v = v) (hfit : fits ty v = true) (hp : pc + 3 = pc') (kk : WC ao d X Y b mi pc' B i st (ns.set j (.inl (ci, fs.set k v))) post) : WC ao d X Y b mi pc B i (v :: .ref (B.size + j) :: st) ns post := by
  subst hp
  intro ok hA hnm H locs ls cells slots hC hL hl hc hs
  obtain ⟨C, T, hcl, hk, hTC, hlink, hin⟩ := hf
  obtain ⟨C', T', tf, hcl', hty, htf, hnm2⟩ := hw
  cases hcl.symm.trans hcl'
  have hCo : C = mi.1.cls := by
    rw [hcl] at hown
    exact Option.some.inj hown
  have hcell := hC.2.2 j _ hj
  obtain ⟨cell, q1, q2, q3, q4⟩ := hcell
  have q4 : ∀ k, k < N → cell.slots[Y.1.1.2 ci k]? = some (vp_V fs k) := fun k hk => q4 k (by rw [hlen]; exact hk)
  have hK : va_K Y.1.1 vwCl [] X.2.2.2.2.1 := ⟨ok.env.2.1, fun k q h => by simp at h⟩
  have hap := va_apart (own := C) ok.hts hin tf htf hnm2 hK hcl
  obtain ⟨hS, hfc, kC, hkC, hkind⟩ := ok.env.2.1 ci _ hcl
  obtain ⟨cf, kf, fi, f, hi, hsl⟩ := hS _ hk
  have hst := (u_facts hfc hkC (u_lays ok.hts hin hk) hi).1
  have hcf : hasFlag f.accessFlags Acc.final = false ∨ (X.2.2.2.2.2.1.cls = cf ∧ X.2.2.2.2.2.2.2.2.1.name = "<init>") := by
    rcases u_lays ok.hts hin hk with hlay | hlay
    · obtain ⟨c, k, cf', kf', fi', fd', r1, r2, hi', hst', hfin, -⟩ := Cond.lays_spec hlay
      have := hi.symm.trans hi'
      simp at this
      obtain ⟨-, -, -, rfl⟩ := this
      exact Or.inl hfin
    · obtain ⟨_, _, c', _, _, _, -, -, hf', -, -, -, hown2, -⟩ := Cond.laysFinal_spec hlay
      have e1 : c' = cf := by have := hi.symm.trans hf'; simp at this; exact this.1.symm
      rw [hTC, hCo] at hown2
      exact Or.inr ⟨by rw [← e1]; exact Option.some.inj (ok.own.symm.trans hown2), hnm⟩
  have h6 := u_fits hfc hkC hkind (u_lays ok.hts hin hk) hi hty hn hfit
  have hlt : f.slot < cell.slots.size := by rw [hsl]; exact k2_hasslot (q4 k hk)
  have ha : B.size + j < H.size := (Array.getElem?_eq_some_iff.mp q1).1
  refine W.putf ok.1 ok.2.1 ok.own (ok.hts _ hlink) (by rw [← hTC]; exact hi) hst hcf q1 (by rw [q3]; exact fun h => by cases h) hlt h6.1 (by rw [q3, q2]; exact h6.2) rfl rfl hd ?_
  refine kk ok hA hnm _ _ ls cells slots (hC.set (by simp) (fun q hq => by simp [Array.getElem?_setIfInBounds, Ne.symm hq]) ?_) (fun q hq => ?_) hl hc hs
  · have e1 : (H.setIfInBounds (B.size + j) (cell.setSlot f.slot v))[B.size + j]? = some (cell.setSlot f.slot v) := by simp [Array.getElem?_setIfInBounds, ha]
    rw [hsl] at e1 ⊢
    show t_OB _ _ (fs.set k v).length _ _ _
    rw [List.length_set, hlen]
    exact t_OB.to (V := updV (vp_V fs) k v) ⟨_, e1, q2, q3, t_set q4 hap hk v⟩ (fun j _ => vp_updV_set (by rw [hlen]; exact hk) v j)
  · rcases List.mem_append.mp hq with h1 | h1
    · exact hL q h1
    · rw [List.mem_singleton.mp h1]
      exact Nat.le_add_right _ _
theorem c_get {j k ci N idx : Nat} {fs : List Value} {v : Value} (hf : FL mi.1.cls idx ci N k) (hd : decode mi.2.1 pc = .ok (.getfield idx, 3)) (hj : ns[j]? = some (.inl (ci, fs))) (hlen : fs.length = N) (hv : fs[k]? = some v) (hp : pc + 3 = pc') (kk : WC ao d X Y b mi pc' B i (v :: st) ns post) : WC ao d X Y b mi pc B i (.ref (B.size + j) :: st) ns post := by
  subst hp
  intro ok hA hnm H locs ls cells slots hC hL hl hc hs
  obtain ⟨C, T, hcl, hk, hTC, hlink, hin⟩ := hf
  obtain ⟨cell, q1, q2, q3, q4⟩ := hC.2.2 j _ hj
  obtain ⟨hS, hfc, kC, hkC, hkind⟩ := ok.env.2.1 ci _ hcl
  obtain ⟨cf, kf, fi, f, hi, hsl⟩ := hS _ hk
  have hst := (u_facts hfc hkC (u_lays ok.hts hin hk) hi).1
  refine W.getf ok.1 ok.2.1 ok.own (ok.hts _ hlink) (by rw [← hTC]; exact hi) hst q1 (by rw [q3]; exact fun h => by cases h) (v := v) ?_ rfl rfl hd (kk ok hA hnm H locs ls cells slots hC hL hl hc hs)
  rw [hsl, q4 k (by show k < fs.length; omega)]
  simp [vp_V, hv]
theorem c_iast {j n : Nat} {x y : Int32} {f : Nat → Value} (hd : decode mi.2.1 pc = .ok (.iastore, 1)) (hj : ns[j]? = some (.inr (0, n, f))) (hin : inr x n) (hp : pc + 1 = pc') (kk : WC ao d X Y b mi pc' B i st (ns.set j (.inr (0, n, updV f (ix x) (.int y)))) post) : WC ao d X Y b mi pc B i (.int y :: .int x :: .ref (B.size + j) :: st) ns post := by
  subst hp
  intro ok hA hnm H locs ls cells slots hC hL hl hc hs
  have hcell := hC.2.2 j _ hj
  refine W.iast ok.1 ok.2.1 hcell ((ok.env.2.2.1 0 (by decide)).1 n _) (fun q => by cases q) (by rw [arrV_size]; exact hin) rfl rfl hd fun H' e1 e2 e3 => ?_
  refine kk ok hA hnm H' _ ls cells slots (hC.set e2 e3 ?_) (fun q hq => ?_) hl hc hs
  · show H'[B.size + j]? = some _
    rw [e1, arrV_store]
  · rcases List.mem_append.mp hq with h1 | h1
    · exact hL q h1
    · rw [List.mem_singleton.mp h1]
      exact Nat.le_add_right _ _
theorem c_ret (hd : decode mi.2.1 pc = .ok (.return_, 1)) (hr : mi.2.2.2 = none) (he : ns = post) : WC ao d X Y b mi pc B i [] ns post := by
  subst he
  intro ok hA hnm H locs ls cells slots hC hL hl hc hs
  refine W.widen (show cells ≤ X.2.2.2.1.cells by omega) (show slots ≤ X.2.2.2.1.slots by omega) ?_
  exact W.vret ok.1 ok.2.1 (ok.2.2.1.trans hr) (fun t ht _ => ⟨rfl, by rw [ht]; exact hC⟩) hL hd ok.2.2.2.2.2.1
/-- a constructor's words: of a nest mate (private), or not private -/
def KN (own : String) (idx : Nat) (host : String) (mc : MI) : Prop := (Cond.methodLinkNest own idx mc.1 host ∈ mtbl ∧ Cond.instanceMethod mc.1 ∈ mtbl ∧ Cond.initialized mc.1.cls ∈ mtbl ∧ Cond.code mc.1 mc.2.1 mc.2.2.1 mc.2.2.2 ∈ mtbl) ∧ (mc.1.cls ≠ "java/lang/invoke/MethodHandle" ∧ mc.1.cls ≠ "java/lang/invoke/VarHandle" ∧ (parseMethodDescriptor mc.1.desc).map (fun d => d.parameters.length) = some 0) ∧ mc.2.2.1 ≤ 21 ∧ mc.1.name = "<init>" ∧ mc.2.2.2 = none
def KO (own : String) (idx : Nat) (mc : MI) : Prop := (Cond.methodLink own idx mc.1 ∈ mtbl ∧ Cond.instanceMethod mc.1 ∈ mtbl ∧ Cond.initialized mc.1.cls ∈ mtbl ∧ Cond.code mc.1 mc.2.1 mc.2.2.1 mc.2.2.2 ∈ mtbl) ∧ (mc.1.cls ≠ "java/lang/invoke/MethodHandle" ∧ mc.1.cls ≠ "java/lang/invoke/VarHandle" ∧ (parseMethodDescriptor mc.1.desc).map (fun d => d.parameters.length) = some 0) ∧ mc.2.2.1 ≤ 21 ∧ mc.1.name = "<init>" ∧ mc.2.2.2 = none
theorem preC_of {w : WX} {s : State} {B0 H : Heap} {j : Nat} (hE : EnvW w s) (hA : AO2 ao s) (hR : CR w B0 ns H) : PreS s H (va_Pc [.ref (B0.size + j)] (fun U => EnvW w U ∧ AO2 ao U ∧ CR w B0 ns U.heap)) (.ref (B0.size + j) :: []) :=
  ⟨fun a U g mk h => ⟨h.1, EnvW.calling h.2.1, AO2.warm (U := U.calling g mk a) (State.WarmedH.refl U) h.2.2.1, h.2.2.2⟩, fun U hU hW => ⟨rfl, hE.warm hW, hA.warm hW, by rw [hU]; exact hR⟩⟩
/-- the run of a constructor's call -/
theorem w_ctorN {idx j : Nat} {host : String} {B0 : Heap} {ns1 : List NC} (hw : KN mi.1.cls idx host mc) (hM : MC ao d bc mc B0 j ns ns1) (hd : decode mi.2.1 pc = .ok (.invokespecial idx, 3)) (ok : okX (d + 1) X Y mi) (hA : AO2 ao X.2.2.2.2.1) {H : Heap} {locs : List Loc} {ls : Array Slot} {cells slots : Nat} (hC : CR Y.1 B0 ns H) (hls : ls.size = mi.2.2.1) (hr : (st.map fun v => v.category).sum ≤ 8) (hc : cells + bc.1 ≤ X.2.2.2.1.cells) (hs : slots + bc.2 ≤ X.2.2.2.1.slots) :
    va_Run X.1 X.2.1 X.2.2.1 X.2.2.2.1 X.2.2.2.2.1 X.2.2.2.2.2.1 X.2.2.2.2.2.2.1 X.2.2.2.2.2.2.2.1 X.2.2.2.2.2.2.2.2.1 X.2.2.2.2.2.2.2.2.2 H locs cells slots bc.1 bc.2 (F0 X.2.2.2.2.2.1 pc ls (.ref (B0.size + j) :: st)) st (QC Y.1 B0 ns1 (Value.ref (B0.size + j) :: []).toArray) (fun q => B0.size ≤ q) := by
  obtain ⟨⟨w1, w2, w4, w5⟩, ⟨d1, d2, d3⟩, hL, hnm, hrt⟩ := hw
  rw [hrt] at w5
  have hM' := hM X.2.1 Y.1
  rw [hrt] at hM'
  exact va_runIN (Ts := mtbl) (bytes := mc.2.1) (maxL := mc.2.2.1) (n := 0) ⟨ok.1, ok.2.1, ok.2.2.2.1, ok.own, ok.hts⟩ hM'
    ⟨⟨⟨rfl, rfl, ok.2.2.2.2.2.2.2.1, by have hlc := ok.2.2.2.2.2.2.2.2; show 8 + (mc.2.2.1 + 11) + 40 * d ≤ _; omega, cw_ws (ok.hts _ w5), List.mem_singleton.mpr rfl⟩, ok.hts _ w5, ok.hts _ w4, ⟨d1, d2⟩, par_n d3, ok.hts _ w1⟩, hnm, ok.hts _ w2⟩
    (preC_of ok.env hA hC) rfl rfl hls rfl (lv_room hr) hd ⟨hc, hs⟩
theorem w_ctorO {idx j : Nat} {B0 : Heap} {ns1 : List NC} (hw : KO mi.1.cls idx mc) (hM : MC ao d bc mc B0 j ns ns1) (hd : decode mi.2.1 pc = .ok (.invokespecial idx, 3)) (ok : okX (d + 1) X Y mi) (hA : AO2 ao X.2.2.2.2.1) {H : Heap} {locs : List Loc} {ls : Array Slot} {cells slots : Nat} (hC : CR Y.1 B0 ns H) (hls : ls.size = mi.2.2.1) (hr : (st.map fun v => v.category).sum ≤ 8) (hc : cells + bc.1 ≤ X.2.2.2.1.cells) (hs : slots + bc.2 ≤ X.2.2.2.1.slots) :
    va_Run X.1 X.2.1 X.2.2.1 X.2.2.2.1 X.2.2.2.2.1 X.2.2.2.2.2.1 X.2.2.2.2.2.2.1 X.2.2.2.2.2.2.2.1 X.2.2.2.2.2.2.2.2.1 X.2.2.2.2.2.2.2.2.2 H locs cells slots bc.1 bc.2 (F0 X.2.2.2.2.2.1 pc ls (.ref (B0.size + j) :: st)) st (QC Y.1 B0 ns1 (Value.ref (B0.size + j) :: []).toArray) (fun q => B0.size ≤ q) := by
  obtain ⟨⟨w1, w2, w4, w5⟩, ⟨d1, d2, d3⟩, hL, hnm, hrt⟩ := hw
  rw [hrt] at w5
  have hM' := hM X.2.1 Y.1
  rw [hrt] at hM'
  exact va_runI (Ts := mtbl) (bytes := mc.2.1) (maxL := mc.2.2.1) (n := 0) ⟨ok.1, ok.2.1, ok.2.2.2.1, ok.own, ok.hts⟩ hM'
    ⟨⟨rfl, rfl, ok.2.2.2.2.2.2.2.1, by have hlc := ok.2.2.2.2.2.2.2.2; show 8 + (mc.2.2.1 + 11) + 40 * d ≤ _; omega, cw_ws (ok.hts _ w5), List.mem_singleton.mpr rfl, ok.hts _ w5, ok.hts _ w4, ⟨d1, d2⟩, par_n d3, ok.hts _ w1⟩, hnm, ok.hts _ w2⟩
    (preC_of ok.env hA hC) rfl rfl hls rfl (lv_room hr) hd ⟨hc, hs⟩
theorem c_call {j : Nat} {ns1 : List NC} (hb1 : b.1 = bc.1 + b'.1) (hb2 : b.2 = bc.2 + b'.2) (hr : Nat.ble ((st.map fun v => v.category).sum) 8 = true) (hp : pc + 3 = pc')
    (run : ∀ (_ : okX (d + 1) X Y mi) (_ : AO2 ao X.2.2.2.2.1) {H : Heap} {locs : List Loc} {ls : Array Slot} {cells slots : Nat} (_ : CR Y.1 B ns H) (_ : ls.size = mi.2.2.1) (_ : (st.map fun v => v.category).sum ≤ 8) (_ : cells + bc.1 ≤ X.2.2.2.1.cells) (_ : slots + bc.2 ≤ X.2.2.2.1.slots), va_Run X.1 X.2.1 X.2.2.1 X.2.2.2.1 X.2.2.2.2.1 X.2.2.2.2.2.1 X.2.2.2.2.2.2.1 X.2.2.2.2.2.2.2.1 X.2.2.2.2.2.2.2.2.1 X.2.2.2.2.2.2.2.2.2 H locs cells slots bc.1 bc.2 (F0 X.2.2.2.2.2.1 pc ls (.ref (B.size + j) :: st)) st (QC Y.1 B ns1 (Value.ref (B.size + j) :: []).toArray) (fun q => B.size ≤ q))
    (k : WC ao (d + 1) X Y b' mi pc' B i st ns1 post) : WC ao (d + 1) X Y b mi pc B i (.ref (B.size + j) :: st) ns post := by
  subst hp
  intro ok hA hnm H locs ls cells slots hC hL hl hc hs
  intro T hT Xs
  obtain ⟨v, st0, t, T', L, h0, X', hL', e1, e2, ⟨ho, hCR⟩, go⟩ := run ok hA hC hl.1 (Nat.le_of_ble_eq_true hr) (by omega) (by omega) T hT Xs
  cases ho
  obtain ⟨t2, s2, q2⟩ := k ok hA hnm T'.heap (locs ++ L) ls (cells + bc.1) (slots + bc.2) (by rw [e1]; exact hCR) (fun q hq => by
    rcases List.mem_append.mp hq with h1 | h1
    · exact hL q h1
    · exact hL' q h1) hl (by omega) (by omega) T' rfl X'
  exact ⟨t2, go t2 s2, q2⟩
end CROWS
end
section
theorem inn_0 : ∀ w ∈ u_ws RX0 TX0 5, w ∈ mtbl := by decide +kernel
theorem inn_1 : ∀ w ∈ u_ws RX1 TX1 5, w ∈ mtbl := by decide +kernel
theorem inn_2 : ∀ w ∈ u_ws RX2 TX2 5, w ∈ mtbl := by decide +kernel
theorem inn_3 : ∀ w ∈ u_ws RX3 TX3 5, w ∈ mtbl := by decide +kernel
theorem inn_4 : ∀ w ∈ u_ws RX4 TX4 5, w ∈ mtbl := by decide +kernel
theorem inn_5 : ∀ w ∈ u_ws RX5 TX5 6, w ∈ mtbl := by decide +kernel
theorem inn_6 : ∀ w ∈ u_ws RX6 TX6 3, w ∈ mtbl := by decide +kernel
theorem inn_7 : ∀ w ∈ u_ws RX7 TX7 4, w ∈ mtbl := by decide +kernel
theorem inn_8 : ∀ w ∈ u_ws RX8 TX8 49, w ∈ mtbl := by decide +kernel
theorem c_norm {ao : Bool} {d : Nat} {X : MX} {Y : MY} {b : Nat × Nat} {mi : MI} {pc : Nat} {B : Heap} {i : Nat} {st : List Value} {ns ns' post : List NC} (he : ns = ns') (k : WC ao d X Y b mi pc B i st ns' post) : WC ao d X Y b mi pc B i st ns post := he ▸ k
def mi_X3_init : MI := (yX3_init, cX3_init, 1, none)
theorem d_X3_init_0 : decode mi_X3_init.2.1 0 = .ok (.aload_n 0, 1) := by decide +kernel
theorem d_X3_init_1 : decode mi_X3_init.2.1 1 = .ok (.invokespecial 3, 3) := by decide +kernel
theorem d_X3_init_4 : decode mi_X3_init.2.1 4 = .ok (.aload_n 0, 1) := by decide +kernel
theorem d_X3_init_5 : decode mi_X3_init.2.1 5 = .ok (.bipush 8, 2) := by decide +kernel
theorem d_X3_init_7 : decode mi_X3_init.2.1 7 = .ok (.newarray .int, 2) := by decide +kernel
theorem d_X3_init_9 : decode mi_X3_init.2.1 9 = .ok (.putfield 9, 3) := by decide +kernel
theorem d_X3_init_12 : decode mi_X3_init.2.1 12 = .ok (.aload_n 0, 1) := by decide +kernel
theorem d_X3_init_13 : decode mi_X3_init.2.1 13 = .ok (.bipush 8, 2) := by decide +kernel
theorem d_X3_init_15 : decode mi_X3_init.2.1 15 = .ok (.newarray .int, 2) := by decide +kernel
theorem d_X3_init_17 : decode mi_X3_init.2.1 17 = .ok (.putfield 15, 3) := by decide +kernel
theorem d_X3_init_20 : decode mi_X3_init.2.1 20 = .ok (.aload_n 0, 1) := by decide +kernel
theorem d_X3_init_21 : decode mi_X3_init.2.1 21 = .ok (.bipush 8, 2) := by decide +kernel
theorem d_X3_init_23 : decode mi_X3_init.2.1 23 = .ok (.newarray .int, 2) := by decide +kernel
theorem d_X3_init_25 : decode mi_X3_init.2.1 25 = .ok (.putfield 18, 3) := by decide +kernel
theorem d_X3_init_28 : decode mi_X3_init.2.1 28 = .ok (.aload_n 0, 1) := by decide +kernel
theorem d_X3_init_29 : decode mi_X3_init.2.1 29 = .ok (.bipush 8, 2) := by decide +kernel
theorem d_X3_init_31 : decode mi_X3_init.2.1 31 = .ok (.newarray .int, 2) := by decide +kernel
theorem d_X3_init_33 : decode mi_X3_init.2.1 33 = .ok (.putfield 21, 3) := by decide +kernel
theorem d_X3_init_36 : decode mi_X3_init.2.1 36 = .ok (.return_, 1) := by decide +kernel
theorem co_X3_3 : CO RX3 3 := by unfold CO; decide +kernel
theorem ac_0 : Cond.arrayClass (aty 0) ∈ mtbl := by decide +kernel
theorem fln_X3_9 : FL RX3 9 3 5 0 := ⟨RX3, TX3, rfl, by decide, rfl, by decide +kernel, inn_3⟩
theorem fi_3_0 : FI 3 5 0 (tyX3 0) := ⟨RX3, TX3, tyX3, rfl, by decide +kernel, tyX3_ok, nmX3⟩
theorem fln_X3_15 : FL RX3 15 3 5 1 := ⟨RX3, TX3, rfl, by decide, rfl, by decide +kernel, inn_3⟩
theorem fi_3_1 : FI 3 5 1 (tyX3 1) := ⟨RX3, TX3, tyX3, rfl, by decide +kernel, tyX3_ok, nmX3⟩
theorem fln_X3_18 : FL RX3 18 3 5 2 := ⟨RX3, TX3, rfl, by decide, rfl, by decide +kernel, inn_3⟩
theorem fi_3_2 : FI 3 5 2 (tyX3 2) := ⟨RX3, TX3, tyX3, rfl, by decide +kernel, tyX3_ok, nmX3⟩
theorem fln_X3_21 : FL RX3 21 3 5 3 := ⟨RX3, TX3, rfl, by decide, rfl, by decide +kernel, inn_3⟩
theorem fi_3_3 : FI 3 5 3 (tyX3 3) := ⟨RX3, TX3, tyX3, rfl, by decide +kernel, tyX3_ok, nmX3⟩
set_option maxRecDepth 20000 in
theorem mc_X3_init {d : Nat} {B : Heap} : MC false (d + 1) (4, 32) mi_X3_init B 1 [.inl (4, [.null, .int 0, .int 0, .int 0, .int 0]), .inl (3, [.null, .null, .null, .null, .int 0])] [.inl (4, [.null, .int 0, .int 0, .int 0, .int 0]), .inl (3, [.ref (B.size + 2), .ref (B.size + 3), .ref (B.size + 4), .ref (B.size + 5), .int 0]), .inr (0, 8, fun _ => .int 0), .inr (0, 8, fun _ => .int 0), .inr (0, 8, fun _ => .int 0), .inr (0, 8, fun _ => .int 0)] := by
  refine MC.of (by decide +kernel) rfl rfl (fun X Y => ?_)
  refine c_load0 (pc' := 1) d_X3_init_0 rfl ?_
  refine c_obj (pc' := 4) co_X3_3 d_X3_init_1 rfl rfl ?_
  refine c_load0 (pc' := 5) d_X3_init_4 rfl ?_
  refine c_bipush (pc' := 7) (x := 8) d_X3_init_5 (by decide) rfl ?_
  refine c_newarr (b' := (3, 24)) (t := 0) (N := 8) (pc' := 9) rfl (by decide) ac_0 d_X3_init_7 (by decide) (by decide) (by decide) rfl rfl rfl ?_
  refine c_put (j := 1) (pc' := 12) fln_X3_9 fi_3_0 rfl d_X3_init_9 rfl rfl rfl rfl rfl ?_
  refine c_load0 (pc' := 13) d_X3_init_12 rfl ?_
  refine c_bipush (pc' := 15) (x := 8) d_X3_init_13 (by decide) rfl ?_
  refine c_newarr (b' := (2, 16)) (t := 0) (N := 8) (pc' := 17) rfl (by decide) ac_0 d_X3_init_15 (by decide) (by decide) (by decide) rfl rfl rfl ?_
  refine c_put (j := 1) (pc' := 20) fln_X3_15 fi_3_1 rfl d_X3_init_17 rfl rfl rfl rfl rfl ?_
  refine c_load0 (pc' := 21) d_X3_init_20 rfl ?_
  refine c_bipush (pc' := 23) (x := 8) d_X3_init_21 (by decide) rfl ?_
  refine c_newarr (b' := (1, 8)) (t := 0) (N := 8) (pc' := 25) rfl (by decide) ac_0 d_X3_init_23 (by decide) (by decide) (by decide) rfl rfl rfl ?_
  refine c_put (j := 1) (pc' := 28) fln_X3_18 fi_3_2 rfl d_X3_init_25 rfl rfl rfl rfl rfl ?_
  refine c_load0 (pc' := 29) d_X3_init_28 rfl ?_
  refine c_bipush (pc' := 31) (x := 8) d_X3_init_29 (by decide) rfl ?_
  refine c_newarr (b' := (0, 0)) (t := 0) (N := 8) (pc' := 33) rfl (by decide) ac_0 d_X3_init_31 (by decide) (by decide) (by decide) rfl rfl rfl ?_
  refine c_put (j := 1) (pc' := 36) fln_X3_21 fi_3_3 rfl d_X3_init_33 rfl rfl rfl rfl rfl ?_
  exact c_ret d_X3_init_36 rfl rfl
def mi_X4_init : MI := (yX4_init, cX4_init, 1, none)
theorem d_X4_init_0 : decode mi_X4_init.2.1 0 = .ok (.aload_n 0, 1) := by decide +kernel
theorem d_X4_init_1 : decode mi_X4_init.2.1 1 = .ok (.invokespecial 3, 3) := by decide +kernel
theorem d_X4_init_4 : decode mi_X4_init.2.1 4 = .ok (.aload_n 0, 1) := by decide +kernel
theorem d_X4_init_5 : decode mi_X4_init.2.1 5 = .ok (.new 9, 3) := by decide +kernel
theorem d_X4_init_8 : decode mi_X4_init.2.1 8 = .ok (.dup, 1) := by decide +kernel
theorem d_X4_init_9 : decode mi_X4_init.2.1 9 = .ok (.invokespecial 11, 3) := by decide +kernel
theorem d_X4_init_12 : decode mi_X4_init.2.1 12 = .ok (.putfield 12, 3) := by decide +kernel
theorem d_X4_init_15 : decode mi_X4_init.2.1 15 = .ok (.return_, 1) := by decide +kernel
theorem co_X4_3 : CO RX4 3 := by unfold CO; decide +kernel
theorem cbn_X4_9 : CB RX4 9 3 5 [.null, .null, .null, .null, .int 0] := ⟨RX3, TX3, tyX3, rfl, by decide +kernel, by decide +kernel, by decide +kernel, inn_3, tyX3_ok, rfl, by decide +kernel⟩
theorem kn_X4_11 : KN RX4 11 "OctagonYard" mi_X3_init := by unfold KN; decide +kernel
theorem fln_X4_12 : FL RX4 12 4 5 0 := ⟨RX4, TX4, rfl, by decide, rfl, by decide +kernel, inn_4⟩
theorem fi_4_0 : FI 4 5 0 (tyX4 0) := ⟨RX4, TX4, tyX4, rfl, by decide +kernel, tyX4_ok, nmX4⟩
set_option maxRecDepth 20000 in
theorem mc_X4_init {d : Nat} {B : Heap} : MC false (d + 2) (5, 37) mi_X4_init B 0 [.inl (4, [.null, .int 0, .int 0, .int 0, .int 0])] [.inl (4, [.ref (B.size + 1), .int 0, .int 0, .int 0, .int 0]), .inl (3, [.ref (B.size + 2), .ref (B.size + 3), .ref (B.size + 4), .ref (B.size + 5), .int 0]), .inr (0, 8, fun _ => .int 0), .inr (0, 8, fun _ => .int 0), .inr (0, 8, fun _ => .int 0), .inr (0, 8, fun _ => .int 0)] := by
  refine MC.of (by decide +kernel) rfl rfl (fun X Y => ?_)
  refine c_load0 (pc' := 1) d_X4_init_0 rfl ?_
  refine c_obj (pc' := 4) co_X4_3 d_X4_init_1 rfl rfl ?_
  refine c_load0 (pc' := 5) d_X4_init_4 rfl ?_
  refine c_new (b' := (4, 32)) (pc' := 8) cbn_X4_9 d_X4_init_5 rfl rfl rfl ?_
  refine c_dup (pc' := 9) d_X4_init_8 rfl rfl ?_
  refine c_call (b' := (0, 0)) (bc := (4, 32)) (j := 1) (pc' := 12) rfl rfl rfl rfl (fun ok hA {H} {locs} {ls} {cells slots} hC hl hr hc hs => w_ctorN kn_X4_11 (mc_X3_init (B := B)) d_X4_init_9 ok hA hC hl hr hc hs) ?_
  refine c_put (j := 0) (pc' := 15) fln_X4_12 fi_4_0 rfl d_X4_init_12 rfl rfl rfl rfl rfl ?_
  exact c_ret d_X4_init_15 rfl rfl
def mi_X1_init : MI := (yX1_init, cX1_init, 1, none)
theorem d_X1_init_0 : decode mi_X1_init.2.1 0 = .ok (.aload_n 0, 1) := by decide +kernel
theorem d_X1_init_1 : decode mi_X1_init.2.1 1 = .ok (.invokespecial 1, 3) := by decide +kernel
theorem d_X1_init_4 : decode mi_X1_init.2.1 4 = .ok (.aload_n 0, 1) := by decide +kernel
theorem d_X1_init_5 : decode mi_X1_init.2.1 5 = .ok (.bipush 20, 2) := by decide +kernel
theorem d_X1_init_7 : decode mi_X1_init.2.1 7 = .ok (.newarray .int, 2) := by decide +kernel
theorem d_X1_init_9 : decode mi_X1_init.2.1 9 = .ok (.putfield 9, 3) := by decide +kernel
theorem d_X1_init_12 : decode mi_X1_init.2.1 12 = .ok (.aload_n 0, 1) := by decide +kernel
theorem d_X1_init_13 : decode mi_X1_init.2.1 13 = .ok (.bipush 20, 2) := by decide +kernel
theorem d_X1_init_15 : decode mi_X1_init.2.1 15 = .ok (.newarray .boolean, 2) := by decide +kernel
theorem d_X1_init_17 : decode mi_X1_init.2.1 17 = .ok (.putfield 13, 3) := by decide +kernel
theorem d_X1_init_20 : decode mi_X1_init.2.1 20 = .ok (.return_, 1) := by decide +kernel
theorem co_X1_1 : CO RX1 1 := by unfold CO; decide +kernel
theorem fln_X1_9 : FL RX1 9 1 5 0 := ⟨RX1, TX1, rfl, by decide, rfl, by decide +kernel, inn_1⟩
theorem fi_1_0 : FI 1 5 0 (tyX1 0) := ⟨RX1, TX1, tyX1, rfl, by decide +kernel, tyX1_ok, nmX1⟩
theorem ac_1 : Cond.arrayClass (aty 1) ∈ mtbl := by decide +kernel
theorem fln_X1_13 : FL RX1 13 1 5 1 := ⟨RX1, TX1, rfl, by decide, rfl, by decide +kernel, inn_1⟩
theorem fi_1_1 : FI 1 5 1 (tyX1 1) := ⟨RX1, TX1, tyX1, rfl, by decide +kernel, tyX1_ok, nmX1⟩
set_option maxRecDepth 20000 in
theorem mc_X1_init {d : Nat} {B : Heap} : MC false (d + 1) (2, 40) mi_X1_init B 0 [.inl (1, [.null, .null, .int 0, .int 0, .int 0])] [.inl (1, [.ref (B.size + 1), .ref (B.size + 2), .int 0, .int 0, .int 0]), .inr (0, 20, fun _ => .int 0), .inr (1, 20, fun _ => .int 0)] := by
  refine MC.of (by decide +kernel) rfl rfl (fun X Y => ?_)
  refine c_load0 (pc' := 1) d_X1_init_0 rfl ?_
  refine c_obj (pc' := 4) co_X1_1 d_X1_init_1 rfl rfl ?_
  refine c_load0 (pc' := 5) d_X1_init_4 rfl ?_
  refine c_bipush (pc' := 7) (x := 20) d_X1_init_5 (by decide) rfl ?_
  refine c_newarr (b' := (1, 20)) (t := 0) (N := 20) (pc' := 9) rfl (by decide) ac_0 d_X1_init_7 (by decide) (by decide) (by decide) rfl rfl rfl ?_
  refine c_put (j := 0) (pc' := 12) fln_X1_9 fi_1_0 rfl d_X1_init_9 rfl rfl rfl rfl rfl ?_
  refine c_load0 (pc' := 13) d_X1_init_12 rfl ?_
  refine c_bipush (pc' := 15) (x := 20) d_X1_init_13 (by decide) rfl ?_
  refine c_newarr (b' := (0, 0)) (t := 1) (N := 20) (pc' := 17) rfl (by decide) ac_1 d_X1_init_15 (by decide) (by decide) (by decide) rfl rfl rfl ?_
  refine c_put (j := 0) (pc' := 20) fln_X1_13 fi_1_1 rfl d_X1_init_17 rfl rfl rfl rfl rfl ?_
  exact c_ret d_X1_init_20 rfl rfl
def mi_X6_init : MI := (yX6_init, cX6_init, 1, none)
theorem d_X6_init_0 : decode mi_X6_init.2.1 0 = .ok (.aload_n 0, 1) := by decide +kernel
theorem d_X6_init_1 : decode mi_X6_init.2.1 1 = .ok (.invokespecial 3, 3) := by decide +kernel
theorem d_X6_init_4 : decode mi_X6_init.2.1 4 = .ok (.aload_n 0, 1) := by decide +kernel
theorem d_X6_init_5 : decode mi_X6_init.2.1 5 = .ok (.bipush 60, 2) := by decide +kernel
theorem d_X6_init_7 : decode mi_X6_init.2.1 7 = .ok (.anewarray 11, 3) := by decide +kernel
theorem d_X6_init_10 : decode mi_X6_init.2.1 10 = .ok (.putfield 13, 3) := by decide +kernel
theorem d_X6_init_13 : decode mi_X6_init.2.1 13 = .ok (.return_, 1) := by decide +kernel
theorem co_X6_3 : CO RX6 3 := by unfold CO; decide +kernel
theorem kl_X6_11 : Cond.classLink RX6 11 "OctagonYard$Piece" ∈ mtbl := by decide +kernel
theorem fln_X6_13 : FL RX6 13 6 3 0 := ⟨RX6, TX6, rfl, by decide, rfl, by decide +kernel, inn_6⟩
theorem fi_6_0 : FI 6 3 0 (tyX6 0) := ⟨RX6, TX6, tyX6, rfl, by decide +kernel, tyX6_ok, nmX6⟩
set_option maxRecDepth 20000 in
theorem mc_X6_init {d : Nat} {B : Heap} : MC true (d + 1) (1, 60) mi_X6_init B 1 [.inl (7, [.null, .null, .null, .null]), .inl (6, [.null, .int 0, .int 0])] [.inl (7, [.null, .null, .null, .null]), .inl (6, [.ref (B.size + 2), .int 0, .int 0]), .inr (2, 60, fun _ => .null)] := by
  refine MC.of (by decide +kernel) rfl rfl (fun X Y => ?_)
  refine c_load0 (pc' := 1) d_X6_init_0 rfl ?_
  refine c_obj (pc' := 4) co_X6_3 d_X6_init_1 rfl rfl ?_
  refine c_load0 (pc' := 5) d_X6_init_4 rfl ?_
  refine c_bipush (pc' := 7) (x := 60) d_X6_init_5 (by decide) rfl ?_
  refine c_anew (b' := (0, 0)) (C := "OctagonYard$Piece") (t := 2) (N := 60) (pc' := 10) rfl rfl (by decide) kl_X6_11 d_X6_init_7 (by decide) (by decide) (by decide) rfl rfl rfl ?_
  refine c_put (j := 1) (pc' := 13) fln_X6_13 fi_6_0 rfl d_X6_init_10 rfl rfl rfl rfl rfl ?_
  exact c_ret d_X6_init_13 rfl rfl
def mi_X2_init : MI := (yX2_init, cX2_init, 1, none)
theorem d_X2_init_0 : decode mi_X2_init.2.1 0 = .ok (.aload_n 0, 1) := by decide +kernel
theorem d_X2_init_1 : decode mi_X2_init.2.1 1 = .ok (.invokespecial 3, 3) := by decide +kernel
theorem d_X2_init_4 : decode mi_X2_init.2.1 4 = .ok (.aload_n 0, 1) := by decide +kernel
theorem d_X2_init_5 : decode mi_X2_init.2.1 5 = .ok (.bipush 8, 2) := by decide +kernel
theorem d_X2_init_7 : decode mi_X2_init.2.1 7 = .ok (.newarray .int, 2) := by decide +kernel
theorem d_X2_init_9 : decode mi_X2_init.2.1 9 = .ok (.putfield 11, 3) := by decide +kernel
theorem d_X2_init_12 : decode mi_X2_init.2.1 12 = .ok (.aload_n 0, 1) := by decide +kernel
theorem d_X2_init_13 : decode mi_X2_init.2.1 13 = .ok (.bipush 8, 2) := by decide +kernel
theorem d_X2_init_15 : decode mi_X2_init.2.1 15 = .ok (.newarray .int, 2) := by decide +kernel
theorem d_X2_init_17 : decode mi_X2_init.2.1 17 = .ok (.putfield 15, 3) := by decide +kernel
theorem d_X2_init_20 : decode mi_X2_init.2.1 20 = .ok (.aload_n 0, 1) := by decide +kernel
theorem d_X2_init_21 : decode mi_X2_init.2.1 21 = .ok (.bipush 64, 2) := by decide +kernel
theorem d_X2_init_23 : decode mi_X2_init.2.1 23 = .ok (.newarray .int, 2) := by decide +kernel
theorem d_X2_init_25 : decode mi_X2_init.2.1 25 = .ok (.putfield 18, 3) := by decide +kernel
theorem d_X2_init_28 : decode mi_X2_init.2.1 28 = .ok (.aload_n 0, 1) := by decide +kernel
theorem d_X2_init_29 : decode mi_X2_init.2.1 29 = .ok (.bipush 7, 2) := by decide +kernel
theorem d_X2_init_31 : decode mi_X2_init.2.1 31 = .ok (.putfield 21, 3) := by decide +kernel
theorem d_X2_init_34 : decode mi_X2_init.2.1 34 = .ok (.return_, 1) := by decide +kernel
theorem co_X2_3 : CO RX2 3 := by unfold CO; decide +kernel
theorem fln_X2_11 : FL RX2 11 2 5 0 := ⟨RX2, TX2, rfl, by decide, rfl, by decide +kernel, inn_2⟩
theorem fi_2_0 : FI 2 5 0 (tyX2 0) := ⟨RX2, TX2, tyX2, rfl, by decide +kernel, tyX2_ok, nmX2⟩
theorem fln_X2_15 : FL RX2 15 2 5 1 := ⟨RX2, TX2, rfl, by decide, rfl, by decide +kernel, inn_2⟩
theorem fi_2_1 : FI 2 5 1 (tyX2 1) := ⟨RX2, TX2, tyX2, rfl, by decide +kernel, tyX2_ok, nmX2⟩
theorem fln_X2_18 : FL RX2 18 2 5 2 := ⟨RX2, TX2, rfl, by decide, rfl, by decide +kernel, inn_2⟩
theorem fi_2_2 : FI 2 5 2 (tyX2 2) := ⟨RX2, TX2, tyX2, rfl, by decide +kernel, tyX2_ok, nmX2⟩
theorem fln_X2_21 : FL RX2 21 2 5 3 := ⟨RX2, TX2, rfl, by decide, rfl, by decide +kernel, inn_2⟩
theorem fi_2_3 : FI 2 5 3 (tyX2 3) := ⟨RX2, TX2, tyX2, rfl, by decide +kernel, tyX2_ok, nmX2⟩
set_option maxRecDepth 20000 in
theorem mc_X2_init {d : Nat} {B : Heap} : MC true (d + 1) (3, 80) mi_X2_init B 3 [.inl (7, [.ref (B.size + 1), .null, .null, .null]), .inl (6, [.ref (B.size + 2), .int 0, .int 0]), .inr (2, 60, fun _ => .null), .inl (2, [.null, .null, .null, .int 0, .int 0])] [.inl (7, [.ref (B.size + 1), .null, .null, .null]), .inl (6, [.ref (B.size + 2), .int 0, .int 0]), .inr (2, 60, fun _ => .null), .inl (2, [.ref (B.size + 4), .ref (B.size + 5), .ref (B.size + 6), .int 7, .int 0]), .inr (0, 8, fun _ => .int 0), .inr (0, 8, fun _ => .int 0), .inr (0, 64, fun _ => .int 0)] := by
  refine MC.of (by decide +kernel) rfl rfl (fun X Y => ?_)
  refine c_load0 (pc' := 1) d_X2_init_0 rfl ?_
  refine c_obj (pc' := 4) co_X2_3 d_X2_init_1 rfl rfl ?_
  refine c_load0 (pc' := 5) d_X2_init_4 rfl ?_
  refine c_bipush (pc' := 7) (x := 8) d_X2_init_5 (by decide) rfl ?_
  refine c_newarr (b' := (2, 72)) (t := 0) (N := 8) (pc' := 9) rfl (by decide) ac_0 d_X2_init_7 (by decide) (by decide) (by decide) rfl rfl rfl ?_
  refine c_put (j := 3) (pc' := 12) fln_X2_11 fi_2_0 rfl d_X2_init_9 rfl rfl rfl rfl rfl ?_
  refine c_load0 (pc' := 13) d_X2_init_12 rfl ?_
  refine c_bipush (pc' := 15) (x := 8) d_X2_init_13 (by decide) rfl ?_
  refine c_newarr (b' := (1, 64)) (t := 0) (N := 8) (pc' := 17) rfl (by decide) ac_0 d_X2_init_15 (by decide) (by decide) (by decide) rfl rfl rfl ?_
  refine c_put (j := 3) (pc' := 20) fln_X2_15 fi_2_1 rfl d_X2_init_17 rfl rfl rfl rfl rfl ?_
  refine c_load0 (pc' := 21) d_X2_init_20 rfl ?_
  refine c_bipush (pc' := 23) (x := 64) d_X2_init_21 (by decide) rfl ?_
  refine c_newarr (b' := (0, 0)) (t := 0) (N := 64) (pc' := 25) rfl (by decide) ac_0 d_X2_init_23 (by decide) (by decide) (by decide) rfl rfl rfl ?_
  refine c_put (j := 3) (pc' := 28) fln_X2_18 fi_2_2 rfl d_X2_init_25 rfl rfl rfl rfl rfl ?_
  refine c_load0 (pc' := 29) d_X2_init_28 rfl ?_
  refine c_bipush (pc' := 31) (x := 7) d_X2_init_29 (by decide) rfl ?_
  refine c_put (j := 3) (pc' := 34) fln_X2_21 fi_2_3 rfl d_X2_init_31 rfl rfl rfl rfl rfl ?_
  exact c_ret d_X2_init_34 rfl rfl
def mi_X5_init : MI := (yX5_init, cX5_init, 1, none)
theorem d_X5_init_0 : decode mi_X5_init.2.1 0 = .ok (.aload_n 0, 1) := by decide +kernel
theorem d_X5_init_1 : decode mi_X5_init.2.1 1 = .ok (.invokespecial 3, 3) := by decide +kernel
theorem d_X5_init_4 : decode mi_X5_init.2.1 4 = .ok (.aload_n 0, 1) := by decide +kernel
theorem d_X5_init_5 : decode mi_X5_init.2.1 5 = .ok (.bipush 40, 2) := by decide +kernel
theorem d_X5_init_7 : decode mi_X5_init.2.1 7 = .ok (.newarray .int, 2) := by decide +kernel
theorem d_X5_init_9 : decode mi_X5_init.2.1 9 = .ok (.putfield 11, 3) := by decide +kernel
theorem d_X5_init_12 : decode mi_X5_init.2.1 12 = .ok (.aload_n 0, 1) := by decide +kernel
theorem d_X5_init_13 : decode mi_X5_init.2.1 13 = .ok (.bipush 40, 2) := by decide +kernel
theorem d_X5_init_15 : decode mi_X5_init.2.1 15 = .ok (.newarray .int, 2) := by decide +kernel
theorem d_X5_init_17 : decode mi_X5_init.2.1 17 = .ok (.putfield 15, 3) := by decide +kernel
theorem d_X5_init_20 : decode mi_X5_init.2.1 20 = .ok (.aload_n 0, 1) := by decide +kernel
theorem d_X5_init_21 : decode mi_X5_init.2.1 21 = .ok (.bipush 40, 2) := by decide +kernel
theorem d_X5_init_23 : decode mi_X5_init.2.1 23 = .ok (.newarray .int, 2) := by decide +kernel
theorem d_X5_init_25 : decode mi_X5_init.2.1 25 = .ok (.putfield 18, 3) := by decide +kernel
theorem d_X5_init_28 : decode mi_X5_init.2.1 28 = .ok (.aload_n 0, 1) := by decide +kernel
theorem d_X5_init_29 : decode mi_X5_init.2.1 29 = .ok (.bipush 40, 2) := by decide +kernel
theorem d_X5_init_31 : decode mi_X5_init.2.1 31 = .ok (.newarray .int, 2) := by decide +kernel
theorem d_X5_init_33 : decode mi_X5_init.2.1 33 = .ok (.putfield 21, 3) := by decide +kernel
theorem d_X5_init_36 : decode mi_X5_init.2.1 36 = .ok (.aload_n 0, 1) := by decide +kernel
theorem d_X5_init_37 : decode mi_X5_init.2.1 37 = .ok (.sipush 255, 3) := by decide +kernel
theorem d_X5_init_40 : decode mi_X5_init.2.1 40 = .ok (.putfield 24, 3) := by decide +kernel
theorem d_X5_init_43 : decode mi_X5_init.2.1 43 = .ok (.aload_n 0, 1) := by decide +kernel
theorem d_X5_init_44 : decode mi_X5_init.2.1 44 = .ok (.getfield 11, 3) := by decide +kernel
theorem d_X5_init_47 : decode mi_X5_init.2.1 47 = .ok (.iconst 0, 1) := by decide +kernel
theorem d_X5_init_48 : decode mi_X5_init.2.1 48 = .ok (.bipush 9, 2) := by decide +kernel
theorem d_X5_init_50 : decode mi_X5_init.2.1 50 = .ok (.iastore, 1) := by decide +kernel
theorem d_X5_init_51 : decode mi_X5_init.2.1 51 = .ok (.aload_n 0, 1) := by decide +kernel
theorem d_X5_init_52 : decode mi_X5_init.2.1 52 = .ok (.getfield 15, 3) := by decide +kernel
theorem d_X5_init_55 : decode mi_X5_init.2.1 55 = .ok (.iconst 0, 1) := by decide +kernel
theorem d_X5_init_56 : decode mi_X5_init.2.1 56 = .ok (.bipush 9, 2) := by decide +kernel
theorem d_X5_init_58 : decode mi_X5_init.2.1 58 = .ok (.iastore, 1) := by decide +kernel
theorem d_X5_init_59 : decode mi_X5_init.2.1 59 = .ok (.aload_n 0, 1) := by decide +kernel
theorem d_X5_init_60 : decode mi_X5_init.2.1 60 = .ok (.getfield 18, 3) := by decide +kernel
theorem d_X5_init_63 : decode mi_X5_init.2.1 63 = .ok (.iconst 0, 1) := by decide +kernel
theorem d_X5_init_64 : decode mi_X5_init.2.1 64 = .ok (.iconst 1, 1) := by decide +kernel
theorem d_X5_init_65 : decode mi_X5_init.2.1 65 = .ok (.iastore, 1) := by decide +kernel
theorem d_X5_init_66 : decode mi_X5_init.2.1 66 = .ok (.aload_n 0, 1) := by decide +kernel
theorem d_X5_init_67 : decode mi_X5_init.2.1 67 = .ok (.iconst 1, 1) := by decide +kernel
theorem d_X5_init_68 : decode mi_X5_init.2.1 68 = .ok (.putfield 28, 3) := by decide +kernel
theorem d_X5_init_71 : decode mi_X5_init.2.1 71 = .ok (.return_, 1) := by decide +kernel
theorem co_X5_3 : CO RX5 3 := by unfold CO; decide +kernel
theorem fln_X5_11 : FL RX5 11 5 6 0 := ⟨RX5, TX5, rfl, by decide, rfl, by decide +kernel, inn_5⟩
theorem fi_5_0 : FI 5 6 0 (tyX5 0) := ⟨RX5, TX5, tyX5, rfl, by decide +kernel, tyX5_ok, nmX5⟩
theorem fln_X5_15 : FL RX5 15 5 6 1 := ⟨RX5, TX5, rfl, by decide, rfl, by decide +kernel, inn_5⟩
theorem fi_5_1 : FI 5 6 1 (tyX5 1) := ⟨RX5, TX5, tyX5, rfl, by decide +kernel, tyX5_ok, nmX5⟩
theorem fln_X5_18 : FL RX5 18 5 6 2 := ⟨RX5, TX5, rfl, by decide, rfl, by decide +kernel, inn_5⟩
theorem fi_5_2 : FI 5 6 2 (tyX5 2) := ⟨RX5, TX5, tyX5, rfl, by decide +kernel, tyX5_ok, nmX5⟩
theorem fln_X5_21 : FL RX5 21 5 6 3 := ⟨RX5, TX5, rfl, by decide, rfl, by decide +kernel, inn_5⟩
theorem fi_5_3 : FI 5 6 3 (tyX5 3) := ⟨RX5, TX5, tyX5, rfl, by decide +kernel, tyX5_ok, nmX5⟩
theorem fln_X5_24 : FL RX5 24 5 6 5 := ⟨RX5, TX5, rfl, by decide, rfl, by decide +kernel, inn_5⟩
theorem fi_5_5 : FI 5 6 5 (tyX5 5) := ⟨RX5, TX5, tyX5, rfl, by decide +kernel, tyX5_ok, nmX5⟩
theorem fln_X5_28 : FL RX5 28 5 6 4 := ⟨RX5, TX5, rfl, by decide, rfl, by decide +kernel, inn_5⟩
theorem fi_5_4 : FI 5 6 4 (tyX5 4) := ⟨RX5, TX5, tyX5, rfl, by decide +kernel, tyX5_ok, nmX5⟩
set_option maxRecDepth 20000 in
theorem mc_X5_init {d : Nat} {B : Heap} : MC true (d + 1) (4, 160) mi_X5_init B 7 [.inl (7, [.ref (B.size + 1), .ref (B.size + 3), .null, .null]), .inl (6, [.ref (B.size + 2), .int 0, .int 0]), .inr (2, 60, fun _ => .null), .inl (2, [.ref (B.size + 4), .ref (B.size + 5), .ref (B.size + 6), .int 7, .int 0]), .inr (0, 8, fun _ => .int 0), .inr (0, 8, fun _ => .int 0), .inr (0, 64, fun _ => .int 0), .inl (5, [.null, .null, .null, .null, .int 0, .int 0])] [.inl (7, [.ref (B.size + 1), .ref (B.size + 3), .null, .null]), .inl (6, [.ref (B.size + 2), .int 0, .int 0]), .inr (2, 60, fun _ => .null), .inl (2, [.ref (B.size + 4), .ref (B.size + 5), .ref (B.size + 6), .int 7, .int 0]), .inr (0, 8, fun _ => .int 0), .inr (0, 8, fun _ => .int 0), .inr (0, 64, fun _ => .int 0), .inl (5, [.ref (B.size + 8), .ref (B.size + 9), .ref (B.size + 10), .ref (B.size + 11), .int 1, .int 255]), .inr (0, 40, updV (fun _ => .int 0) (ix 0) (.int 9)), .inr (0, 40, updV (fun _ => .int 0) (ix 0) (.int 9)), .inr (0, 40, updV (fun _ => .int 0) (ix 0) (.int 1)), .inr (0, 40, fun _ => .int 0)] := by
  refine MC.of (by decide +kernel) rfl rfl (fun X Y => ?_)
  refine c_load0 (pc' := 1) d_X5_init_0 rfl ?_
  refine c_obj (pc' := 4) co_X5_3 d_X5_init_1 rfl rfl ?_
  refine c_load0 (pc' := 5) d_X5_init_4 rfl ?_
  refine c_bipush (pc' := 7) (x := 40) d_X5_init_5 (by decide) rfl ?_
  refine c_newarr (b' := (3, 120)) (t := 0) (N := 40) (pc' := 9) rfl (by decide) ac_0 d_X5_init_7 (by decide) (by decide) (by decide) rfl rfl rfl ?_
  refine c_put (j := 7) (pc' := 12) fln_X5_11 fi_5_0 rfl d_X5_init_9 rfl rfl rfl rfl rfl ?_
  refine c_load0 (pc' := 13) d_X5_init_12 rfl ?_
  refine c_bipush (pc' := 15) (x := 40) d_X5_init_13 (by decide) rfl ?_
  refine c_newarr (b' := (2, 80)) (t := 0) (N := 40) (pc' := 17) rfl (by decide) ac_0 d_X5_init_15 (by decide) (by decide) (by decide) rfl rfl rfl ?_
  refine c_put (j := 7) (pc' := 20) fln_X5_15 fi_5_1 rfl d_X5_init_17 rfl rfl rfl rfl rfl ?_
  refine c_load0 (pc' := 21) d_X5_init_20 rfl ?_
  refine c_bipush (pc' := 23) (x := 40) d_X5_init_21 (by decide) rfl ?_
  refine c_newarr (b' := (1, 40)) (t := 0) (N := 40) (pc' := 25) rfl (by decide) ac_0 d_X5_init_23 (by decide) (by decide) (by decide) rfl rfl rfl ?_
  refine c_put (j := 7) (pc' := 28) fln_X5_18 fi_5_2 rfl d_X5_init_25 rfl rfl rfl rfl rfl ?_
  refine c_load0 (pc' := 29) d_X5_init_28 rfl ?_
  refine c_bipush (pc' := 31) (x := 40) d_X5_init_29 (by decide) rfl ?_
  refine c_newarr (b' := (0, 0)) (t := 0) (N := 40) (pc' := 33) rfl (by decide) ac_0 d_X5_init_31 (by decide) (by decide) (by decide) rfl rfl rfl ?_
  refine c_put (j := 7) (pc' := 36) fln_X5_21 fi_5_3 rfl d_X5_init_33 rfl rfl rfl rfl rfl ?_
  refine c_load0 (pc' := 37) d_X5_init_36 rfl ?_
  refine c_sipush (pc' := 40) (x := 255) d_X5_init_37 (by decide) rfl ?_
  refine c_put (j := 7) (pc' := 43) fln_X5_24 fi_5_5 rfl d_X5_init_40 rfl rfl rfl rfl rfl ?_
  refine c_load0 (pc' := 44) d_X5_init_43 rfl ?_
  refine c_get (j := 7) (v := .ref (B.size + 8)) (pc' := 47) fln_X5_11 d_X5_init_44 rfl rfl rfl rfl ?_
  refine c_iconst (pc' := 48) (x := 0) d_X5_init_47 (by decide) rfl ?_
  refine c_bipush (pc' := 50) (x := 9) d_X5_init_48 (by decide) rfl ?_
  refine c_iast (j := 8) (pc' := 51) d_X5_init_50 rfl (by decide) rfl ?_
  refine c_load0 (pc' := 52) d_X5_init_51 rfl ?_
  refine c_get (j := 7) (v := .ref (B.size + 9)) (pc' := 55) fln_X5_15 d_X5_init_52 rfl rfl rfl rfl ?_
  refine c_iconst (pc' := 56) (x := 0) d_X5_init_55 (by decide) rfl ?_
  refine c_bipush (pc' := 58) (x := 9) d_X5_init_56 (by decide) rfl ?_
  refine c_iast (j := 9) (pc' := 59) d_X5_init_58 rfl (by decide) rfl ?_
  refine c_load0 (pc' := 60) d_X5_init_59 rfl ?_
  refine c_get (j := 7) (v := .ref (B.size + 10)) (pc' := 63) fln_X5_18 d_X5_init_60 rfl rfl rfl rfl ?_
  refine c_iconst (pc' := 64) (x := 0) d_X5_init_63 (by decide) rfl ?_
  refine c_iconst (pc' := 65) (x := 1) d_X5_init_64 (by decide) rfl ?_
  refine c_iast (j := 10) (pc' := 66) d_X5_init_65 rfl (by decide) rfl ?_
  refine c_load0 (pc' := 67) d_X5_init_66 rfl ?_
  refine c_iconst (pc' := 68) (x := 1) d_X5_init_67 (by decide) rfl ?_
  refine c_put (j := 7) (pc' := 71) fln_X5_28 fi_5_4 rfl d_X5_init_68 rfl rfl rfl rfl rfl ?_
  exact c_ret d_X5_init_71 rfl rfl
def mi_X0_init : MI := (yX0_init, cX0_init, 1, none)
theorem d_X0_init_0 : decode mi_X0_init.2.1 0 = .ok (.aload_n 0, 1) := by decide +kernel
theorem d_X0_init_1 : decode mi_X0_init.2.1 1 = .ok (.invokespecial 3, 3) := by decide +kernel
theorem d_X0_init_4 : decode mi_X0_init.2.1 4 = .ok (.aload_n 0, 1) := by decide +kernel
theorem d_X0_init_5 : decode mi_X0_init.2.1 5 = .ok (.bipush 12, 2) := by decide +kernel
theorem d_X0_init_7 : decode mi_X0_init.2.1 7 = .ok (.anewarray 11, 3) := by decide +kernel
theorem d_X0_init_10 : decode mi_X0_init.2.1 10 = .ok (.putfield 13, 3) := by decide +kernel
theorem d_X0_init_13 : decode mi_X0_init.2.1 13 = .ok (.aload_n 0, 1) := by decide +kernel
theorem d_X0_init_14 : decode mi_X0_init.2.1 14 = .ok (.sipush 500, 3) := by decide +kernel
theorem d_X0_init_17 : decode mi_X0_init.2.1 17 = .ok (.newarray .int, 2) := by decide +kernel
theorem d_X0_init_19 : decode mi_X0_init.2.1 19 = .ok (.putfield 17, 3) := by decide +kernel
theorem d_X0_init_22 : decode mi_X0_init.2.1 22 = .ok (.aload_n 0, 1) := by decide +kernel
theorem d_X0_init_23 : decode mi_X0_init.2.1 23 = .ok (.bipush 12, 2) := by decide +kernel
theorem d_X0_init_25 : decode mi_X0_init.2.1 25 = .ok (.newarray .int, 2) := by decide +kernel
theorem d_X0_init_27 : decode mi_X0_init.2.1 27 = .ok (.putfield 21, 3) := by decide +kernel
theorem d_X0_init_30 : decode mi_X0_init.2.1 30 = .ok (.return_, 1) := by decide +kernel
theorem co_X0_3 : CO RX0 3 := by unfold CO; decide +kernel
theorem kl_X0_11 : Cond.classLink RX0 11 "OctagonYard$Assembly" ∈ mtbl := by decide +kernel
theorem fln_X0_13 : FL RX0 13 0 5 0 := ⟨RX0, TX0, rfl, by decide, rfl, by decide +kernel, inn_0⟩
theorem fi_0_0 : FI 0 5 0 (tyX0 0) := ⟨RX0, TX0, tyX0, rfl, by decide +kernel, tyX0_ok, nmX0⟩
theorem fln_X0_17 : FL RX0 17 0 5 2 := ⟨RX0, TX0, rfl, by decide, rfl, by decide +kernel, inn_0⟩
theorem fi_0_2 : FI 0 5 2 (tyX0 2) := ⟨RX0, TX0, tyX0, rfl, by decide +kernel, tyX0_ok, nmX0⟩
theorem fln_X0_21 : FL RX0 21 0 5 4 := ⟨RX0, TX0, rfl, by decide, rfl, by decide +kernel, inn_0⟩
theorem fi_0_4 : FI 0 5 4 (tyX0 4) := ⟨RX0, TX0, tyX0, rfl, by decide +kernel, tyX0_ok, nmX0⟩
set_option maxRecDepth 20000 in
theorem mc_X0_init {d : Nat} {B : Heap} : MC true (d + 1) (3, 524) mi_X0_init B 12 [.inl (7, [.ref (B.size + 1), .ref (B.size + 3), .ref (B.size + 7), .null]), .inl (6, [.ref (B.size + 2), .int 0, .int 0]), .inr (2, 60, fun _ => .null), .inl (2, [.ref (B.size + 4), .ref (B.size + 5), .ref (B.size + 6), .int 7, .int 0]), .inr (0, 8, fun _ => .int 0), .inr (0, 8, fun _ => .int 0), .inr (0, 64, fun _ => .int 0), .inl (5, [.ref (B.size + 8), .ref (B.size + 9), .ref (B.size + 10), .ref (B.size + 11), .int 1, .int 255]), .inr (0, 40, updV (fun _ => .int 0) (ix 0) (.int 9)), .inr (0, 40, updV (fun _ => .int 0) (ix 0) (.int 9)), .inr (0, 40, updV (fun _ => .int 0) (ix 0) (.int 1)), .inr (0, 40, fun _ => .int 0), .inl (0, [.null, .int 0, .null, .int 0, .null])] [.inl (7, [.ref (B.size + 1), .ref (B.size + 3), .ref (B.size + 7), .null]), .inl (6, [.ref (B.size + 2), .int 0, .int 0]), .inr (2, 60, fun _ => .null), .inl (2, [.ref (B.size + 4), .ref (B.size + 5), .ref (B.size + 6), .int 7, .int 0]), .inr (0, 8, fun _ => .int 0), .inr (0, 8, fun _ => .int 0), .inr (0, 64, fun _ => .int 0), .inl (5, [.ref (B.size + 8), .ref (B.size + 9), .ref (B.size + 10), .ref (B.size + 11), .int 1, .int 255]), .inr (0, 40, updV (fun _ => .int 0) (ix 0) (.int 9)), .inr (0, 40, updV (fun _ => .int 0) (ix 0) (.int 9)), .inr (0, 40, updV (fun _ => .int 0) (ix 0) (.int 1)), .inr (0, 40, fun _ => .int 0), .inl (0, [.ref (B.size + 13), .int 0, .ref (B.size + 14), .int 0, .ref (B.size + 15)]), .inr (3, 12, fun _ => .null), .inr (0, 500, fun _ => .int 0), .inr (0, 12, fun _ => .int 0)] := by
  refine MC.of (by decide +kernel) rfl rfl (fun X Y => ?_)
  refine c_load0 (pc' := 1) d_X0_init_0 rfl ?_
  refine c_obj (pc' := 4) co_X0_3 d_X0_init_1 rfl rfl ?_
  refine c_load0 (pc' := 5) d_X0_init_4 rfl ?_
  refine c_bipush (pc' := 7) (x := 12) d_X0_init_5 (by decide) rfl ?_
  refine c_anew (b' := (2, 512)) (C := "OctagonYard$Assembly") (t := 3) (N := 12) (pc' := 10) rfl rfl (by decide) kl_X0_11 d_X0_init_7 (by decide) (by decide) (by decide) rfl rfl rfl ?_
  refine c_put (j := 12) (pc' := 13) fln_X0_13 fi_0_0 rfl d_X0_init_10 rfl rfl rfl rfl rfl ?_
  refine c_load0 (pc' := 14) d_X0_init_13 rfl ?_
  refine c_sipush (pc' := 17) (x := 500) d_X0_init_14 (by decide) rfl ?_
  refine c_newarr (b' := (1, 12)) (t := 0) (N := 500) (pc' := 19) rfl (by decide) ac_0 d_X0_init_17 (by decide) (by decide) (by decide) rfl rfl rfl ?_
  refine c_put (j := 12) (pc' := 22) fln_X0_17 fi_0_2 rfl d_X0_init_19 rfl rfl rfl rfl rfl ?_
  refine c_load0 (pc' := 23) d_X0_init_22 rfl ?_
  refine c_bipush (pc' := 25) (x := 12) d_X0_init_23 (by decide) rfl ?_
  refine c_newarr (b' := (0, 0)) (t := 0) (N := 12) (pc' := 27) rfl (by decide) ac_0 d_X0_init_25 (by decide) (by decide) (by decide) rfl rfl rfl ?_
  refine c_put (j := 12) (pc' := 30) fln_X0_21 fi_0_4 rfl d_X0_init_27 rfl rfl rfl rfl rfl ?_
  exact c_ret d_X0_init_30 rfl rfl
def mi_X7_init : MI := (yX7_init, cX7_init, 1, none)
theorem d_X7_init_0 : decode mi_X7_init.2.1 0 = .ok (.aload_n 0, 1) := by decide +kernel
theorem d_X7_init_1 : decode mi_X7_init.2.1 1 = .ok (.invokespecial 1, 3) := by decide +kernel
theorem d_X7_init_4 : decode mi_X7_init.2.1 4 = .ok (.aload_n 0, 1) := by decide +kernel
theorem d_X7_init_5 : decode mi_X7_init.2.1 5 = .ok (.new 7, 3) := by decide +kernel
theorem d_X7_init_8 : decode mi_X7_init.2.1 8 = .ok (.dup, 1) := by decide +kernel
theorem d_X7_init_9 : decode mi_X7_init.2.1 9 = .ok (.invokespecial 9, 3) := by decide +kernel
theorem d_X7_init_12 : decode mi_X7_init.2.1 12 = .ok (.putfield 10, 3) := by decide +kernel
theorem d_X7_init_15 : decode mi_X7_init.2.1 15 = .ok (.aload_n 0, 1) := by decide +kernel
theorem d_X7_init_16 : decode mi_X7_init.2.1 16 = .ok (.new 16, 3) := by decide +kernel
theorem d_X7_init_19 : decode mi_X7_init.2.1 19 = .ok (.dup, 1) := by decide +kernel
theorem d_X7_init_20 : decode mi_X7_init.2.1 20 = .ok (.invokespecial 18, 3) := by decide +kernel
theorem d_X7_init_23 : decode mi_X7_init.2.1 23 = .ok (.putfield 19, 3) := by decide +kernel
theorem d_X7_init_26 : decode mi_X7_init.2.1 26 = .ok (.aload_n 0, 1) := by decide +kernel
theorem d_X7_init_27 : decode mi_X7_init.2.1 27 = .ok (.new 23, 3) := by decide +kernel
theorem d_X7_init_30 : decode mi_X7_init.2.1 30 = .ok (.dup, 1) := by decide +kernel
theorem d_X7_init_31 : decode mi_X7_init.2.1 31 = .ok (.invokespecial 25, 3) := by decide +kernel
theorem d_X7_init_34 : decode mi_X7_init.2.1 34 = .ok (.putfield 26, 3) := by decide +kernel
theorem d_X7_init_37 : decode mi_X7_init.2.1 37 = .ok (.aload_n 0, 1) := by decide +kernel
theorem d_X7_init_38 : decode mi_X7_init.2.1 38 = .ok (.new 30, 3) := by decide +kernel
theorem d_X7_init_41 : decode mi_X7_init.2.1 41 = .ok (.dup, 1) := by decide +kernel
theorem d_X7_init_42 : decode mi_X7_init.2.1 42 = .ok (.invokespecial 32, 3) := by decide +kernel
theorem d_X7_init_45 : decode mi_X7_init.2.1 45 = .ok (.putfield 33, 3) := by decide +kernel
theorem d_X7_init_48 : decode mi_X7_init.2.1 48 = .ok (.return_, 1) := by decide +kernel
theorem co_X7_1 : CO RX7 1 := by unfold CO; decide +kernel
theorem cbn_X7_7 : CB RX7 7 6 3 [.null, .int 0, .int 0] := ⟨RX6, TX6, tyX6, rfl, by decide +kernel, by decide +kernel, by decide +kernel, inn_6, tyX6_ok, rfl, by decide +kernel⟩
theorem kn_X7_9 : KN RX7 9 "OctagonYard" mi_X6_init := by unfold KN; decide +kernel
theorem fln_X7_10 : FL RX7 10 7 4 0 := ⟨RX7, TX7, rfl, by decide, rfl, by decide +kernel, inn_7⟩
theorem fi_7_0 : FI 7 4 0 (tyX7 0) := ⟨RX7, TX7, tyX7, rfl, by decide +kernel, tyX7_ok, nmX7⟩
theorem cbn_X7_16 : CB RX7 16 2 5 [.null, .null, .null, .int 0, .int 0] := ⟨RX2, TX2, tyX2, rfl, by decide +kernel, by decide +kernel, by decide +kernel, inn_2, tyX2_ok, rfl, by decide +kernel⟩
theorem kn_X7_18 : KN RX7 18 "OctagonYard" mi_X2_init := by unfold KN; decide +kernel
theorem fln_X7_19 : FL RX7 19 7 4 1 := ⟨RX7, TX7, rfl, by decide, rfl, by decide +kernel, inn_7⟩
theorem fi_7_1 : FI 7 4 1 (tyX7 1) := ⟨RX7, TX7, tyX7, rfl, by decide +kernel, tyX7_ok, nmX7⟩
theorem cbn_X7_23 : CB RX7 23 5 6 [.null, .null, .null, .null, .int 0, .int 0] := ⟨RX5, TX5, tyX5, rfl, by decide +kernel, by decide +kernel, by decide +kernel, inn_5, tyX5_ok, rfl, by decide +kernel⟩
theorem kn_X7_25 : KO RX7 25 mi_X5_init := by unfold KO; decide +kernel
theorem fln_X7_26 : FL RX7 26 7 4 2 := ⟨RX7, TX7, rfl, by decide, rfl, by decide +kernel, inn_7⟩
theorem fi_7_2 : FI 7 4 2 (tyX7 2) := ⟨RX7, TX7, tyX7, rfl, by decide +kernel, tyX7_ok, nmX7⟩
theorem cbn_X7_30 : CB RX7 30 0 5 [.null, .int 0, .null, .int 0, .null] := ⟨RX0, TX0, tyX0, rfl, by decide +kernel, by decide +kernel, by decide +kernel, inn_0, tyX0_ok, rfl, by decide +kernel⟩
theorem kn_X7_32 : KN RX7 32 "OctagonYard" mi_X0_init := by unfold KN; decide +kernel
theorem fln_X7_33 : FL RX7 33 7 4 3 := ⟨RX7, TX7, rfl, by decide, rfl, by decide +kernel, inn_7⟩
theorem fi_7_3 : FI 7 4 3 (tyX7 3) := ⟨RX7, TX7, tyX7, rfl, by decide +kernel, tyX7_ok, nmX7⟩
set_option maxRecDepth 20000 in
theorem mc_X7_init {d : Nat} {B : Heap} : MC true (d + 2) (15, 843) mi_X7_init B 0 [.inl (7, [.null, .null, .null, .null])] [.inl (7, [.ref (B.size + 1), .ref (B.size + 3), .ref (B.size + 7), .ref (B.size + 12)]), .inl (6, [.ref (B.size + 2), .int 0, .int 0]), .inr (2, 60, fun _ => .null), .inl (2, [.ref (B.size + 4), .ref (B.size + 5), .ref (B.size + 6), .int 7, .int 0]), .inr (0, 8, fun _ => .int 0), .inr (0, 8, fun _ => .int 0), .inr (0, 64, fun _ => .int 0), .inl (5, [.ref (B.size + 8), .ref (B.size + 9), .ref (B.size + 10), .ref (B.size + 11), .int 1, .int 255]), .inr (0, 40, updV (fun _ => .int 0) (ix 0) (.int 9)), .inr (0, 40, updV (fun _ => .int 0) (ix 0) (.int 9)), .inr (0, 40, updV (fun _ => .int 0) (ix 0) (.int 1)), .inr (0, 40, fun _ => .int 0), .inl (0, [.ref (B.size + 13), .int 0, .ref (B.size + 14), .int 0, .ref (B.size + 15)]), .inr (3, 12, fun _ => .null), .inr (0, 500, fun _ => .int 0), .inr (0, 12, fun _ => .int 0)] := by
  refine MC.of (by decide +kernel) rfl rfl (fun X Y => ?_)
  refine c_load0 (pc' := 1) d_X7_init_0 rfl ?_
  refine c_obj (pc' := 4) co_X7_1 d_X7_init_1 rfl rfl ?_
  refine c_load0 (pc' := 5) d_X7_init_4 rfl ?_
  refine c_new (b' := (14, 840)) (pc' := 8) cbn_X7_7 d_X7_init_5 rfl rfl rfl ?_
  refine c_dup (pc' := 9) d_X7_init_8 rfl rfl ?_
  refine c_call (b' := (13, 780)) (bc := (1, 60)) (j := 1) (pc' := 12) rfl rfl rfl rfl (fun ok hA {H} {locs} {ls} {cells slots} hC hl hr hc hs => w_ctorN kn_X7_9 (mc_X6_init (B := B)) d_X7_init_9 ok hA hC hl hr hc hs) ?_
  refine c_put (j := 0) (pc' := 15) fln_X7_10 fi_7_0 rfl d_X7_init_12 rfl rfl rfl rfl rfl ?_
  refine c_load0 (pc' := 16) d_X7_init_15 rfl ?_
  refine c_new (b' := (12, 775)) (pc' := 19) cbn_X7_16 d_X7_init_16 rfl rfl rfl ?_
  refine c_dup (pc' := 20) d_X7_init_19 rfl rfl ?_
  refine c_call (b' := (9, 695)) (bc := (3, 80)) (j := 3) (pc' := 23) rfl rfl rfl rfl (fun ok hA {H} {locs} {ls} {cells slots} hC hl hr hc hs => w_ctorN kn_X7_18 (mc_X2_init (B := B)) d_X7_init_20 ok hA hC hl hr hc hs) ?_
  refine c_put (j := 0) (pc' := 26) fln_X7_19 fi_7_1 rfl d_X7_init_23 rfl rfl rfl rfl rfl ?_
  refine c_load0 (pc' := 27) d_X7_init_26 rfl ?_
  refine c_new (b' := (8, 689)) (pc' := 30) cbn_X7_23 d_X7_init_27 rfl rfl rfl ?_
  refine c_dup (pc' := 31) d_X7_init_30 rfl rfl ?_
  refine c_call (b' := (4, 529)) (bc := (4, 160)) (j := 7) (pc' := 34) rfl rfl rfl rfl (fun ok hA {H} {locs} {ls} {cells slots} hC hl hr hc hs => w_ctorO kn_X7_25 (mc_X5_init (B := B)) d_X7_init_31 ok hA hC hl hr hc hs) ?_
  refine c_put (j := 0) (pc' := 37) fln_X7_26 fi_7_2 rfl d_X7_init_34 rfl rfl rfl rfl rfl ?_
  refine c_load0 (pc' := 38) d_X7_init_37 rfl ?_
  refine c_new (b' := (3, 524)) (pc' := 41) cbn_X7_30 d_X7_init_38 rfl rfl rfl ?_
  refine c_dup (pc' := 42) d_X7_init_41 rfl rfl ?_
  refine c_call (b' := (0, 0)) (bc := (3, 524)) (j := 12) (pc' := 45) rfl rfl rfl rfl (fun ok hA {H} {locs} {ls} {cells slots} hC hl hr hc hs => w_ctorN kn_X7_32 (mc_X0_init (B := B)) d_X7_init_42 ok hA hC hl hr hc hs) ?_
  refine c_put (j := 0) (pc' := 48) fln_X7_33 fi_7_3 rfl d_X7_init_45 rfl rfl rfl rfl rfl ?_
  exact c_ret d_X7_init_48 rfl rfl
end
section
/-! ===== what comes: a piece, an assembly ===== -/
def cls3 (r : Nat) : Nat := if r < 16 then 0 else if r < 22 then 1 else if r < 25 then 2 else 0
theorem rt_fin : ∀ r, r < 89 → ∀ k, k < 49 → (match rt r k with
  | some t => (rg t).isSome && (cls3 t == cls3 r)
  | none => true) = true := by decide +kernel
theorem rt_bd {r k t : Nat} (h : rt r k = some t) : r < 89 ∧ k < 49 := by
  have h1 : r < 89 := by
    rcases Nat.lt_or_ge r 89 with q | q
    · exact q
    · exfalso
      have : rtT[r]? = none := List.getElem?_eq_none (by show 89 ≤ r; exact q)
      rw [rt, this] at h
      cases h
  refine ⟨h1, ?_⟩
  rcases Nat.lt_or_ge k 49 with q | q
  · exact q
  · exfalso
    have hl : ∀ l ∈ rtT, l.length ≤ 49 := by decide +kernel
    unfold rt at h
    cases e : rtT[r]? with
    | none => rw [e] at h; cases h
    | some l =>
      rw [e] at h
      have h2 : l[k]? = none := List.getElem?_eq_none (Nat.le_trans (hl l (List.mem_of_getElem? e)) q)
      simp only [Option.getD_some, h2] at h
      cases h
theorem gal_cls {σ : SS} {r i : Nat} : gal σ r i ↔ (rg r).isSome = true ∧ (if cls3 r = 1 then i < σ.2.1 else if cls3 r = 2 then i < σ.2.2 else i = 0) := by
  unfold gal cls3
  by_cases h1 : r < 16
  · simp [h1]
  · by_cases h2 : r < 22
    · simp [h1, h2]
    · by_cases h3 : r < 25
      · simp [h1, h2, h3]
      · simp [h1, h2, h3]
theorem gal_closed {σ : SS} {r i k t : Nat} (h : gal σ r i) (hk : rt r k = some t) : gal σ t i := by
  obtain ⟨h1, h2⟩ := rt_bd hk
  have h3 := rt_fin r h1 k h2
  rw [hk] at h3
  simp only [Bool.and_eq_true, beq_iff_eq] at h3
  rw [gal_cls] at h ⊢
  exact ⟨h3.1, by rw [h3.2]; exact h.2⟩
theorem view_hal {σ : SS} {r i : Nat} (h : gal σ r i) (k : Nat) : hal σ (view σ r i k) := by
  unfold view
  split
  · rename_i t ht
    exact Or.inl (gal_closed h ht)
  · split
    · split
      · rename_i hk
        exact Or.inl ⟨rfl, hk⟩
      · trivial
    · split
      · split
        · rename_i hk
          exact Or.inl ⟨rfl, hk⟩
        · trivial
      · trivial
theorem cell_lt {w : WX} {ad : Nat → Nat → Nat} {σ : SS} {r i : Nat} {H : Heap} (hg : gal σ r i) (h : cellOk w ad σ r i H) : ad r i < H.size := by
  unfold cellOk at h
  split at h
  · obtain ⟨cell, q, -⟩ := h
    exact (Array.getElem?_eq_some_iff.mp q).1
  · exact (Array.getElem?_eq_some_iff.mp h).1
  · rename_i e
    have := hg.1
    rw [e] at this
    cases this
def newP (σ : SS) : SS := (fun r i k => if (16 ≤ r ∧ r < 22) ∧ i = σ.2.1 then 0 else σ.1 r i k, σ.2.1 + 1, σ.2.2)
def adP (ad : Nat → Nat → Nat) (σ : SS) (a : Nat) : Nat → Nat → Nat := fun r i => if (16 ≤ r ∧ r < 22) ∧ i = σ.2.1 then a + (r - 16) else ad r i
theorem adP_old {ad : Nat → Nat → Nat} {σ : SS} {a r i : Nat} (h : alv σ r i) : adP ad σ a r i = ad r i := by
  refine if_neg (fun q => ?_)
  rcases h with h | h
  · have h2 := h.2
    rw [if_neg (by omega), if_pos (by omega)] at h2
    omega
  · omega
theorem adP_new {ad : Nat → Nat → Nat} {σ : SS} {a r : Nat} (h : 16 ≤ r ∧ r < 22) : adP ad σ a r σ.2.1 = a + (r - 16) := if_pos ⟨h, rfl⟩
theorem gal_newP {σ : SS} {r i : Nat} (h : gal (newP σ) r i) : ((16 ≤ r ∧ r < 22) ∧ i = σ.2.1) ∨ (gal σ r i ∧ ¬ ((16 ≤ r ∧ r < 22) ∧ i = σ.2.1)) := by
  by_cases hn : (16 ≤ r ∧ r < 22) ∧ i = σ.2.1
  · exact Or.inl hn
  · refine Or.inr ⟨⟨h.1, ?_⟩, hn⟩
    have h2 := h.2
    by_cases hr : 16 ≤ r ∧ r < 22
    · rw [if_neg (by omega), if_pos (by omega)] at h2 ⊢
      have h3 : i < σ.2.1 + 1 := h2
      omega
    · by_cases h1 : r < 16
      · rw [if_pos h1] at h2 ⊢
        exact h2
      · rw [if_neg h1] at h2 ⊢
        by_cases h4 : r < 22
        · rw [if_pos h4] at h2 ⊢
          first | exact h2 | exact absurd ⟨by omega, by omega⟩ hr
        · rw [if_neg h4] at h2 ⊢
          by_cases h5 : r < 25
          · rw [if_pos h5] at h2 ⊢
            first | exact h2 | exact absurd ⟨by omega, by omega⟩ hr
          · rw [if_neg h5] at h2 ⊢
            exact h2
theorem gal_monoP {σ : SS} {r i : Nat} (h : gal σ r i) : gal (newP σ) r i := by
  refine ⟨h.1, ?_⟩
  have h2 := h.2
  by_cases h1 : r < 16
  · rw [if_pos h1] at h2 ⊢
    exact h2
  · rw [if_neg h1] at h2 ⊢
    by_cases h4 : r < 22
    · rw [if_pos h4] at h2 ⊢
      show i < (newP σ).2.1
      exact Nat.lt_succ_of_lt h2
    · rw [if_neg h4] at h2 ⊢
      by_cases h5 : r < 25
      · rw [if_pos h5] at h2 ⊢
        show i < (newP σ).2.2
        exact h2
      · rw [if_neg h5] at h2 ⊢
        exact h2
theorem view_newP {σ : SS} {r i : Nat} (hn : ¬ ((16 ≤ r ∧ r < 22) ∧ i = σ.2.1)) (h2 : r ≠ 2) (k : Nat) : view (newP σ) r i k = view σ r i k := by
  have e : (newP σ).1 r i k = σ.1 r i k := if_neg hn
  unfold view
  rw [e]
  split
  · rfl
  · by_cases h3 : r = 13
    · subst h3
      rfl
    · first | rw [if_neg h2, if_neg h2] | rw [if_neg h3, if_neg h3]
      first | rw [if_neg h3, if_neg h3] | rw [if_neg h2, if_neg h2]
theorem Rel.growP {w : WX} {ad : Nat → Nat → Nat} {σ : SS} {H H1 H2 : Heap} (h : Rel w ad σ H) (hcr : CR w H ([.inl (4, [.ref (H.size + 1), .int 0, .int 0, .int 0, .int 0]), .inl (3, [.ref (H.size + 2), .ref (H.size + 3), .ref (H.size + 4), .ref (H.size + 5), .int 0]), .inr (0, 8, fun _ => .int 0), .inr (0, 8, fun _ => .int 0), .inr (0, 8, fun _ => .int 0), .inr (0, 8, fun _ => .int 0)] : List NC) H1)
    (e1 : H2[ad 2 0]? = some ((arrV (w.2.1 2) 60 (fun j => cv ad (view σ 2 0 j))).setSlot σ.2.1 (.ref (H.size + 0)))) (e2 : H2.size = H1.size) (e3 : ∀ q, q ≠ ad 2 0 → H2[q]? = H1[q]?) : Rel w (adP ad σ H.size) (newP σ) H2 := by
  have hg2 : gal σ 2 0 := ⟨rfl, rfl⟩
  have hlt : ∀ r i, gal σ r i → ad r i < H.size := fun r i hg => cell_lt hg (h.2.2.1 r i hg).2
  have hag : ∀ r i, alv σ r i → adP ad σ H.size r i = ad r i := fun r i ha => adP_old ha
  have hcv : ∀ r i, gal σ r i → ∀ k, cv (adP ad σ H.size) (view σ r i k) = cv ad (view σ r i k) := fun r i hg k => cv_agree hag (view_hal hg k)
  have hsz : H.size ≤ H2.size := by rw [e2, hcr.1]; exact Nat.le_add_right _ _
  have hold : ∀ q, q < H.size → q ≠ ad 2 0 → H2[q]? = H[q]? := fun q h1 h2 => (e3 q h2).trans (hcr.2.1 q h1)
  have hnew : ∀ (k : Nat) (c : NC), ([.inl (4, [.ref (H.size + 1), .int 0, .int 0, .int 0, .int 0]), .inl (3, [.ref (H.size + 2), .ref (H.size + 3), .ref (H.size + 4), .ref (H.size + 5), .int 0]), .inr (0, 8, fun _ => .int 0), .inr (0, 8, fun _ => .int 0), .inr (0, 8, fun _ => .int 0), .inr (0, 8, fun _ => .int 0)] : List NC)[k]? = some c → ncOk w (H.size + k) c H2 := fun k c hk => (hcr.2.2 k c hk).kept (e3 _ (by have := hlt 2 0 hg2; omega))
  have hb2 := (h.2.2.1 2 0 hg2).1
  refine ⟨Nat.le_trans h.1 hsz, fun q hq => (hold q (Nat.lt_of_lt_of_le hq h.1) (by omega)).trans (h.2.1 q hq), fun r i hg => ?_, fun r i r' i' hg hg' he => ?_, fun k hk => ?_⟩
  · rcases gal_newP hg with hn | ⟨ho, hn⟩
    · obtain ⟨hr, rfl⟩ := hn
      rw [adP_new hr]
      refine ⟨Nat.le_trans h.1 (Nat.le_add_right _ _), ?_⟩
      rcases (show r = 16 ∨ r = 17 ∨ r = 18 ∨ r = 19 ∨ r = 20 ∨ r = 21 by omega) with rfl | rfl | rfl | rfl | rfl | rfl
      · have hc := hnew 0 _ rfl
        show t_OB (adP ad σ H.size 16 σ.2.1) _ 5 _ H2 _
        rw [adP_new hr]
        refine t_OB.to hc (fun k hk => ?_)
        have hk : k < 5 := hk
        rcases (show k = 0 ∨ k = 1 ∨ k = 2 ∨ k = 3 ∨ k = 4 by omega) with rfl | rfl | rfl | rfl | rfl
        · show Value.ref _ = Value.ref (adP ad σ H.size 17 σ.2.1)
          rw [adP_new ⟨by decide, by decide⟩]
        · show Value.int 0 = Value.int ((newP σ).1 16 σ.2.1 1)
          rw [show (newP σ).1 16 σ.2.1 1 = 0 from if_pos ⟨hr, rfl⟩]
        · show Value.int 0 = Value.int ((newP σ).1 16 σ.2.1 2)
          rw [show (newP σ).1 16 σ.2.1 2 = 0 from if_pos ⟨hr, rfl⟩]
        · show Value.int 0 = Value.int ((newP σ).1 16 σ.2.1 3)
          rw [show (newP σ).1 16 σ.2.1 3 = 0 from if_pos ⟨hr, rfl⟩]
        · show Value.int 0 = Value.int ((newP σ).1 16 σ.2.1 4)
          rw [show (newP σ).1 16 σ.2.1 4 = 0 from if_pos ⟨hr, rfl⟩]
      · have hc := hnew 1 _ rfl
        show t_OB (adP ad σ H.size 17 σ.2.1) _ 5 _ H2 _
        rw [adP_new hr]
        refine t_OB.to hc (fun k hk => ?_)
        have hk : k < 5 := hk
        rcases (show k = 0 ∨ k = 1 ∨ k = 2 ∨ k = 3 ∨ k = 4 by omega) with rfl | rfl | rfl | rfl | rfl
        · show Value.ref _ = Value.ref (adP ad σ H.size 18 σ.2.1)
          rw [adP_new ⟨by decide, by decide⟩]
        · show Value.ref _ = Value.ref (adP ad σ H.size 19 σ.2.1)
          rw [adP_new ⟨by decide, by decide⟩]
        · show Value.ref _ = Value.ref (adP ad σ H.size 20 σ.2.1)
          rw [adP_new ⟨by decide, by decide⟩]
        · show Value.ref _ = Value.ref (adP ad σ H.size 21 σ.2.1)
          rw [adP_new ⟨by decide, by decide⟩]
        · show Value.int 0 = Value.int ((newP σ).1 17 σ.2.1 4)
          rw [show (newP σ).1 17 σ.2.1 4 = 0 from if_pos ⟨hr, rfl⟩]
      · have hc : H2[H.size + 2]? = some (arrV (w.2.1 0) 8 (fun _ => .int 0)) := hnew 2 _ rfl
        show H2[adP ad σ H.size 18 σ.2.1]? = some (arrV (w.2.1 0) 8 _)
        rw [adP_new hr]
        refine hc.trans ?_
        congr 2
        funext j
        show Value.int 0 = Value.int ((newP σ).1 18 σ.2.1 j)
        rw [show (newP σ).1 18 σ.2.1 j = 0 from if_pos ⟨hr, rfl⟩]
      · have hc : H2[H.size + 3]? = some (arrV (w.2.1 0) 8 (fun _ => .int 0)) := hnew 3 _ rfl
        show H2[adP ad σ H.size 19 σ.2.1]? = some (arrV (w.2.1 0) 8 _)
        rw [adP_new hr]
        refine hc.trans ?_
        congr 2
        funext j
        show Value.int 0 = Value.int ((newP σ).1 19 σ.2.1 j)
        rw [show (newP σ).1 19 σ.2.1 j = 0 from if_pos ⟨hr, rfl⟩]
      · have hc : H2[H.size + 4]? = some (arrV (w.2.1 0) 8 (fun _ => .int 0)) := hnew 4 _ rfl
        show H2[adP ad σ H.size 20 σ.2.1]? = some (arrV (w.2.1 0) 8 _)
        rw [adP_new hr]
        refine hc.trans ?_
        congr 2
        funext j
        show Value.int 0 = Value.int ((newP σ).1 20 σ.2.1 j)
        rw [show (newP σ).1 20 σ.2.1 j = 0 from if_pos ⟨hr, rfl⟩]
      · have hc : H2[H.size + 5]? = some (arrV (w.2.1 0) 8 (fun _ => .int 0)) := hnew 5 _ rfl
        show H2[adP ad σ H.size 21 σ.2.1]? = some (arrV (w.2.1 0) 8 _)
        rw [adP_new hr]
        refine hc.trans ?_
        congr 2
        funext j
        show Value.int 0 = Value.int ((newP σ).1 21 σ.2.1 j)
        rw [show (newP σ).1 21 σ.2.1 j = 0 from if_pos ⟨hr, rfl⟩]
    · rw [hag r i (Or.inl ho)]
      refine ⟨(h.2.2.1 r i ho).1, ?_⟩
      by_cases hr2 : r = 2
      · subst hr2
        have hi : i = 0 := ho.2
        subst hi
        show H2[adP ad σ H.size 2 0]? = some _
        rw [hag 2 0 (Or.inl ho), e1, arrV_store]
        congr 2
        funext j
        by_cases hj : j = σ.2.1
        · subst hj
          have e : view (newP σ) 2 0 σ.2.1 = vR 16 σ.2.1 := by
            show (if σ.2.1 < σ.2.1 + 1 then vR 16 σ.2.1 else vN) = _
            rw [if_pos (Nat.lt_succ_self _)]
          rw [e]
          show updV _ _ _ _ = Value.ref (adP ad σ H.size 16 σ.2.1)
          rw [adP_new ⟨by decide, by decide⟩]
          simp [updV]
        · have e : view (newP σ) 2 0 j = view σ 2 0 j := by
            show (if j < σ.2.1 + 1 then vR 16 j else vN) = (if j < σ.2.1 then vR 16 j else vN)
            by_cases hjl : j < σ.2.1
            · rw [if_pos hjl, if_pos (by omega)]
            · rw [if_neg hjl, if_neg (by omega)]
          rw [e, hcv _ _ ho]
          simp [updV, hj]
      · have hc := (h.2.2.1 r i ho).2
        have hne : ad r i ≠ ad 2 0 := fun e => hr2 (h.2.2.2.1 r i 2 0 ho hg2 e).1
        have hk : H2[ad r i]? = H[ad r i]? := hold _ (hlt r i ho) hne
        have hv : ∀ k, cv (adP ad σ H.size) (view (newP σ) r i k) = cv ad (view σ r i k) := fun k => by rw [view_newP hn hr2, hcv r i ho]
        unfold cellOk at hc ⊢
        simp only [hv]
        rw [hag r i (Or.inl ho)]
        split
        · rename_i hrr
          rw [hrr] at hc
          exact t_OB.kept hc hk
        · rename_i hrr
          rw [hrr] at hc
          rw [hk]
          exact hc
        · trivial
  · rcases gal_newP hg with hn | ⟨ho, hn⟩ <;> rcases gal_newP hg' with hn' | ⟨ho', hn'⟩
    · obtain ⟨hr, rfl⟩ := hn
      obtain ⟨hr', rfl⟩ := hn'
      rw [adP_new hr, adP_new hr'] at he
      exact ⟨by omega, rfl⟩
    · obtain ⟨hr, rfl⟩ := hn
      rw [adP_new hr, hag r' i' (Or.inl ho')] at he
      have := hlt r' i' ho'
      omega
    · obtain ⟨hr', rfl⟩ := hn'
      rw [adP_new hr', hag r i (Or.inl ho)] at he
      have := hlt r i ho
      omega
    · rw [hag r i (Or.inl ho), hag r' i' (Or.inl ho')] at he
      exact h.2.2.2.1 r i r' i' ho ho' he
  · have e : adP ad σ H.size (100 + k) 0 = ad (100 + k) 0 := if_neg (by omega)
    rw [e]
    exact h.2.2.2.2 k hk
def newA (σ : SS) : SS := (fun r i k => if (22 ≤ r ∧ r < 25) ∧ i = σ.2.2 then 0 else σ.1 r i k, σ.2.1, σ.2.2 + 1)
def adA (ad : Nat → Nat → Nat) (σ : SS) (a : Nat) : Nat → Nat → Nat := fun r i => if (22 ≤ r ∧ r < 25) ∧ i = σ.2.2 then a + (r - 22) else ad r i
theorem adA_old {ad : Nat → Nat → Nat} {σ : SS} {a r i : Nat} (h : alv σ r i) : adA ad σ a r i = ad r i := by
  refine if_neg (fun q => ?_)
  rcases h with h | h
  · have h2 := h.2
    rw [if_neg (by omega), if_neg (by omega), if_pos (by omega)] at h2
    omega
  · omega
theorem adA_new {ad : Nat → Nat → Nat} {σ : SS} {a r : Nat} (h : 22 ≤ r ∧ r < 25) : adA ad σ a r σ.2.2 = a + (r - 22) := if_pos ⟨h, rfl⟩
theorem gal_newA {σ : SS} {r i : Nat} (h : gal (newA σ) r i) : ((22 ≤ r ∧ r < 25) ∧ i = σ.2.2) ∨ (gal σ r i ∧ ¬ ((22 ≤ r ∧ r < 25) ∧ i = σ.2.2)) := by
  by_cases hn : (22 ≤ r ∧ r < 25) ∧ i = σ.2.2
  · exact Or.inl hn
  · refine Or.inr ⟨⟨h.1, ?_⟩, hn⟩
    have h2 := h.2
    by_cases hr : 22 ≤ r ∧ r < 25
    · rw [if_neg (by omega), if_neg (by omega), if_pos (by omega)] at h2 ⊢
      have h3 : i < σ.2.2 + 1 := h2
      omega
    · by_cases h1 : r < 16
      · rw [if_pos h1] at h2 ⊢
        exact h2
      · rw [if_neg h1] at h2 ⊢
        by_cases h4 : r < 22
        · rw [if_pos h4] at h2 ⊢
          first | exact h2 | exact absurd ⟨by omega, by omega⟩ hr
        · rw [if_neg h4] at h2 ⊢
          by_cases h5 : r < 25
          · rw [if_pos h5] at h2 ⊢
            first | exact h2 | exact absurd ⟨by omega, by omega⟩ hr
          · rw [if_neg h5] at h2 ⊢
            exact h2
theorem gal_monoA {σ : SS} {r i : Nat} (h : gal σ r i) : gal (newA σ) r i := by
  refine ⟨h.1, ?_⟩
  have h2 := h.2
  by_cases h1 : r < 16
  · rw [if_pos h1] at h2 ⊢
    exact h2
  · rw [if_neg h1] at h2 ⊢
    by_cases h4 : r < 22
    · rw [if_pos h4] at h2 ⊢
      show i < (newA σ).2.1
      exact h2
    · rw [if_neg h4] at h2 ⊢
      by_cases h5 : r < 25
      · rw [if_pos h5] at h2 ⊢
        show i < (newA σ).2.2
        exact Nat.lt_succ_of_lt h2
      · rw [if_neg h5] at h2 ⊢
        exact h2
theorem view_newA {σ : SS} {r i : Nat} (hn : ¬ ((22 ≤ r ∧ r < 25) ∧ i = σ.2.2)) (h2 : r ≠ 13) (k : Nat) : view (newA σ) r i k = view σ r i k := by
  have e : (newA σ).1 r i k = σ.1 r i k := if_neg hn
  unfold view
  rw [e]
  split
  · rfl
  · by_cases h3 : r = 2
    · subst h3
      rfl
    · first | rw [if_neg h2, if_neg h2] | rw [if_neg h3, if_neg h3]
      first | rw [if_neg h3, if_neg h3] | rw [if_neg h2, if_neg h2]
theorem Rel.growA {w : WX} {ad : Nat → Nat → Nat} {σ : SS} {H H1 H2 : Heap} (h : Rel w ad σ H) (hcr : CR w H ([.inl (1, [.ref (H.size + 1), .ref (H.size + 2), .int 0, .int 0, .int 0]), .inr (0, 20, fun _ => .int 0), .inr (1, 20, fun _ => .int 0)] : List NC) H1)
    (e1 : H2[ad 13 0]? = some ((arrV (w.2.1 3) 12 (fun j => cv ad (view σ 13 0 j))).setSlot σ.2.2 (.ref (H.size + 0)))) (e2 : H2.size = H1.size) (e3 : ∀ q, q ≠ ad 13 0 → H2[q]? = H1[q]?) : Rel w (adA ad σ H.size) (newA σ) H2 := by
  have hg2 : gal σ 13 0 := ⟨rfl, rfl⟩
  have hlt : ∀ r i, gal σ r i → ad r i < H.size := fun r i hg => cell_lt hg (h.2.2.1 r i hg).2
  have hag : ∀ r i, alv σ r i → adA ad σ H.size r i = ad r i := fun r i ha => adA_old ha
  have hcv : ∀ r i, gal σ r i → ∀ k, cv (adA ad σ H.size) (view σ r i k) = cv ad (view σ r i k) := fun r i hg k => cv_agree hag (view_hal hg k)
  have hsz : H.size ≤ H2.size := by rw [e2, hcr.1]; exact Nat.le_add_right _ _
  have hold : ∀ q, q < H.size → q ≠ ad 13 0 → H2[q]? = H[q]? := fun q h1 h2 => (e3 q h2).trans (hcr.2.1 q h1)
  have hnew : ∀ (k : Nat) (c : NC), ([.inl (1, [.ref (H.size + 1), .ref (H.size + 2), .int 0, .int 0, .int 0]), .inr (0, 20, fun _ => .int 0), .inr (1, 20, fun _ => .int 0)] : List NC)[k]? = some c → ncOk w (H.size + k) c H2 := fun k c hk => (hcr.2.2 k c hk).kept (e3 _ (by have := hlt 13 0 hg2; omega))
  have hb2 := (h.2.2.1 13 0 hg2).1
  refine ⟨Nat.le_trans h.1 hsz, fun q hq => (hold q (Nat.lt_of_lt_of_le hq h.1) (by omega)).trans (h.2.1 q hq), fun r i hg => ?_, fun r i r' i' hg hg' he => ?_, fun k hk => ?_⟩
  · rcases gal_newA hg with hn | ⟨ho, hn⟩
    · obtain ⟨hr, rfl⟩ := hn
      rw [adA_new hr]
      refine ⟨Nat.le_trans h.1 (Nat.le_add_right _ _), ?_⟩
      rcases (show r = 22 ∨ r = 23 ∨ r = 24 by omega) with rfl | rfl | rfl
      · have hc := hnew 0 _ rfl
        show t_OB (adA ad σ H.size 22 σ.2.2) _ 5 _ H2 _
        rw [adA_new hr]
        refine t_OB.to hc (fun k hk => ?_)
        have hk : k < 5 := hk
        rcases (show k = 0 ∨ k = 1 ∨ k = 2 ∨ k = 3 ∨ k = 4 by omega) with rfl | rfl | rfl | rfl | rfl
        · show Value.ref _ = Value.ref (adA ad σ H.size 23 σ.2.2)
          rw [adA_new ⟨by decide, by decide⟩]
        · show Value.ref _ = Value.ref (adA ad σ H.size 24 σ.2.2)
          rw [adA_new ⟨by decide, by decide⟩]
        · show Value.int 0 = Value.int ((newA σ).1 22 σ.2.2 2)
          rw [show (newA σ).1 22 σ.2.2 2 = 0 from if_pos ⟨hr, rfl⟩]
        · show Value.int 0 = Value.int ((newA σ).1 22 σ.2.2 3)
          rw [show (newA σ).1 22 σ.2.2 3 = 0 from if_pos ⟨hr, rfl⟩]
        · show Value.int 0 = Value.int ((newA σ).1 22 σ.2.2 4)
          rw [show (newA σ).1 22 σ.2.2 4 = 0 from if_pos ⟨hr, rfl⟩]
      · have hc : H2[H.size + 1]? = some (arrV (w.2.1 0) 20 (fun _ => .int 0)) := hnew 1 _ rfl
        show H2[adA ad σ H.size 23 σ.2.2]? = some (arrV (w.2.1 0) 20 _)
        rw [adA_new hr]
        refine hc.trans ?_
        congr 2
        funext j
        show Value.int 0 = Value.int ((newA σ).1 23 σ.2.2 j)
        rw [show (newA σ).1 23 σ.2.2 j = 0 from if_pos ⟨hr, rfl⟩]
      · have hc : H2[H.size + 2]? = some (arrV (w.2.1 1) 20 (fun _ => .int 0)) := hnew 2 _ rfl
        show H2[adA ad σ H.size 24 σ.2.2]? = some (arrV (w.2.1 1) 20 _)
        rw [adA_new hr]
        refine hc.trans ?_
        congr 2
        funext j
        show Value.int 0 = Value.int ((newA σ).1 24 σ.2.2 j)
        rw [show (newA σ).1 24 σ.2.2 j = 0 from if_pos ⟨hr, rfl⟩]
    · rw [hag r i (Or.inl ho)]
      refine ⟨(h.2.2.1 r i ho).1, ?_⟩
      by_cases hr2 : r = 13
      · subst hr2
        have hi : i = 0 := ho.2
        subst hi
        show H2[adA ad σ H.size 13 0]? = some _
        rw [hag 13 0 (Or.inl ho), e1, arrV_store]
        congr 2
        funext j
        by_cases hj : j = σ.2.2
        · subst hj
          have e : view (newA σ) 13 0 σ.2.2 = vR 22 σ.2.2 := by
            show (if σ.2.2 < σ.2.2 + 1 then vR 22 σ.2.2 else vN) = _
            rw [if_pos (Nat.lt_succ_self _)]
          rw [e]
          show updV _ _ _ _ = Value.ref (adA ad σ H.size 22 σ.2.2)
          rw [adA_new ⟨by decide, by decide⟩]
          simp [updV]
        · have e : view (newA σ) 13 0 j = view σ 13 0 j := by
            show (if j < σ.2.2 + 1 then vR 22 j else vN) = (if j < σ.2.2 then vR 22 j else vN)
            by_cases hjl : j < σ.2.2
            · rw [if_pos hjl, if_pos (by omega)]
            · rw [if_neg hjl, if_neg (by omega)]
          rw [e, hcv _ _ ho]
          simp [updV, hj]
      · have hc := (h.2.2.1 r i ho).2
        have hne : ad r i ≠ ad 13 0 := fun e => hr2 (h.2.2.2.1 r i 13 0 ho hg2 e).1
        have hk : H2[ad r i]? = H[ad r i]? := hold _ (hlt r i ho) hne
        have hv : ∀ k, cv (adA ad σ H.size) (view (newA σ) r i k) = cv ad (view σ r i k) := fun k => by rw [view_newA hn hr2, hcv r i ho]
        unfold cellOk at hc ⊢
        simp only [hv]
        rw [hag r i (Or.inl ho)]
        split
        · rename_i hrr
          rw [hrr] at hc
          exact t_OB.kept hc hk
        · rename_i hrr
          rw [hrr] at hc
          rw [hk]
          exact hc
        · trivial
  · rcases gal_newA hg with hn | ⟨ho, hn⟩ <;> rcases gal_newA hg' with hn' | ⟨ho', hn'⟩
    · obtain ⟨hr, rfl⟩ := hn
      obtain ⟨hr', rfl⟩ := hn'
      rw [adA_new hr, adA_new hr'] at he
      exact ⟨by omega, rfl⟩
    · obtain ⟨hr, rfl⟩ := hn
      rw [adA_new hr, hag r' i' (Or.inl ho')] at he
      have := hlt r' i' ho'
      omega
    · obtain ⟨hr', rfl⟩ := hn'
      rw [adA_new hr', hag r i (Or.inl ho)] at he
      have := hlt r i ho
      omega
    · rw [hag r i (Or.inl ho), hag r' i' (Or.inl ho')] at he
      exact h.2.2.2.1 r i r' i' ho ho' he
  · have e : adA ad σ H.size (100 + k) 0 = ad (100 + k) 0 := if_neg (by omega)
    rw [e]
    exact h.2.2.2.2 k hk
theorem l_newP {d : Nat} {X : MX} {Y : MY} {mi : MI} {pc pc' : Nat} {lv : List (Option MV)} {st : List MV} {σ : SS} {res : RES} {idx1 idx2 : Nat} {j : Int32} (hw1 : CB mi.1.cls idx1 4 5 [.null, .int 0, .int 0, .int 0, .int 0]) (hw2 : KN mi.1.cls idx2 "OctagonYard" mi_X4_init) (hd1 : decode mi.2.1 pc = .ok (.new idx1, 3)) (hd2 : decode mi.2.1 (pc + 3) = .ok (.dup, 1)) (hd3 : decode mi.2.1 (pc + 4) = .ok (.invokespecial idx2, 3)) (hd4 : decode mi.2.1 (pc + 7) = .ok (.aastore, 1)) (hj : ix j = σ.2.1) (hin : inr j 60) (hst : Nat.ble (catS st) 4 = true) (hp : pc + 8 = pc') (k : WM (d + 2 + 1) X Y (0, 0) mi pc' lv st (newP σ) res) : WM (d + 2 + 1) X Y (6, 42) mi pc lv (vI j :: vR 2 0 :: st) σ res := by
  subst hp
  intro ok ad H locs ls cells slots hD
  have hc : cells + 6 = X.2.2.2.1.cells := hD.2.2.2.2.2.2.1
  have hs : slots + 42 = X.2.2.2.1.slots := hD.2.2.2.2.2.2.2
  have hg : gal σ 2 0 := ⟨rfl, rfl⟩
  have hcell : H[ad 2 0]? = some (arrV (Y.1.2.1 2) 60 (fun j => cv ad (view σ 2 0 j))) := (hD.1.2.2.1 2 0 hg).2
  have hal2 : ad 2 0 < H.size := (Array.getElem?_eq_some_iff.mp hcell).1
  have hbase : Y.1.2.2.1.size ≤ H.size := hD.1.1
  have hcat := catS_eq (ad := ad) st
  have hst' := Nat.le_of_ble_eq_true hst
  refine w_new hw1 hd1 ok (by omega) (by omega) fun H' z1 o1 c1 => ?_
  refine lv_dup ok.1 ok.2.1 hd2 rfl ?_
  have hCR : CR Y.1 H [.inl (4, [.null, .int 0, .int 0, .int 0, .int 0])] H' := CR.push (ns := []) ⟨by simp, fun _ _ => rfl, fun k c h => by simp at h⟩ z1 o1 c1
  intro T hT Xs
  obtain ⟨v, st0, t, T', L, h0, X', hL', e1, e2, ⟨ho, hCR2⟩, go⟩ := w_ctorN (d := d + 2) (locs := locs) (cells := cells + 1) (slots := slots + 5) (st := .ref H.size :: .int j :: .ref (ad 2 0) :: st.map (cv ad)) (ao := false) hw2 (mc_X4_init (d := d) (B := H)) hd3 ok (fun e => by cases e) hCR hD.lv.1 (by
    simp only [List.map_cons, List.sum_cons]
    show 1 + (1 + (1 + _)) ≤ 8
    omega) (by show cells + 1 + 5 ≤ _; omega) (by show slots + 5 + 37 ≤ _; omega) T hT Xs
  cases ho
  rw [← e1] at hCR2
  have hobj := hCR2.2.2 0 _ rfl
  obtain ⟨cellV, g1, g2, g3, -⟩ := hobj
  have hcls := (ok.env.2.1 4 _ rfl).2
  obtain ⟨kA, comp, k1, k2, k3, -⟩ := (ok.env.2.2.1 2 (by decide)).2
  have hcomp : comp = Y.1.1.1 4 := Option.some.inj (k3.symm.trans hcls.1)
  subst hcomp
  obtain ⟨kC, hkC, hkd⟩ := hcls.2
  have hlt : j.toNatClampNeg < 60 := Nat.not_le.mp fun q => hin (Or.inr q)
  have hneg : ¬ j < 0 := fun q => hin (Or.inl q)
  have hW : W X.1 X.2.1 X.2.2.1 X.2.2.2.1 X.2.2.2.2.1 X.2.2.2.2.2.1 X.2.2.2.2.2.2.1 X.2.2.2.2.2.2.2.1 X.2.2.2.2.2.2.2.2.1 X.2.2.2.2.2.2.2.2.2 T'.heap (locs ++ L) (cells + 1 + 5) (slots + 5 + 37)
      (MQ X.2.2.2.2.2.2.2.1 (Qm Y res) X.2.2.2.2.2.2.1 X.2.2.2.2.1 X.2.2.2.1.cells X.2.2.2.1.slots (fun q => Y.1.2.2.1.size ≤ q)) (F0 X.2.2.2.2.2.1 (pc + 7) ls (.ref (H.size + 0) :: .int j :: .ref (ad 2 0) :: st.map (cv ad))) := by
    refine W.aast (cell := arrV (Y.1.2.1 2) 60 (fun j => cv ad (view σ 2 0 j))) ok.1 ok.2.1 (by rw [hCR2.2.1 _ hal2]; exact hcell) (fun q h => by cases h) (fun h => by cases h) k1 k2 rfl hkC ⟨hneg, by rw [arrV_size]; exact hlt⟩ g1 (fun q h => by rw [g3] at h; cases h) (by rw [g2]; exact hkC) (by rw [g2]; exact va_assign ⟨hcls.1, kC, hkC, hkd⟩) rfl rfl hd4 fun H2 f1 f2 f3 => ?_
    have hj' : j.toNatClampNeg = σ.2.1 := hj
    rw [hj'] at f1
    have hma : st.map (cv (adP ad σ H.size)) = st.map (cv ad) := map_agree (fun r i h => adP_old h) (ht1 (ht1 hD.hst))
    rw [← hma]
    refine k ok (adP ad σ H.size) H2 _ ls _ _ ⟨Rel.growP hD.1 hCR2 f1 f2 f3, fun r i h => ?_, fun q hq => ?_, ⟨hD.lv.1, hD.lv.2.1, fun i v hi => ?_⟩, fun v hv => ?_, fun v hv => ?_, ?_, ?_⟩
    · obtain ⟨h1, h2⟩ := hD.2.1 r i h
      refine ⟨?_, by rw [adP_old h1]; exact h2⟩
      rcases h1 with h1 | h1
      · exact Or.inl (gal_monoP h1)
      · exact Or.inr h1
    · rcases List.mem_append.mp hq with h1 | h1
      · rcases List.mem_append.mp h1 with h2 | h2
        · exact hD.2.2.1 q h2
        · exact Nat.le_trans hbase (hL' q h2)
      · rw [List.mem_singleton.mp h1]
        exact (hD.1.2.2.1 2 0 hg).1
    · rw [cv_agree (fun r i h => adP_old h) (hD.hlv v (List.mem_of_getElem? hi))]
      exact hD.lv.2.2 i v hi
    · refine hal_mono (fun r i h => ?_) (hD.hlv v hv)
      rcases h with h | h
      · exact Or.inl (gal_monoP h)
      · exact Or.inr h
    · refine hal_mono (fun r i h => ?_) (ht1 (ht1 hD.hst) v hv)
      rcases h with h | h
      · exact Or.inl (gal_monoP h)
      · exact Or.inr h
    · show cells + 1 + 5 + 0 = _
      omega
    · show slots + 5 + 37 + 0 = _
      omega
  obtain ⟨t2, s2, q2⟩ := hW T' rfl X'
  refine ⟨t2, go t2 s2, q2⟩
theorem l_newA {d : Nat} {X : MX} {Y : MY} {mi : MI} {pc pc' : Nat} {lv : List (Option MV)} {st : List MV} {σ : SS} {res : RES} {idx1 idx2 : Nat} {j : Int32} (hw1 : CB mi.1.cls idx1 1 5 [.null, .null, .int 0, .int 0, .int 0]) (hw2 : KN mi.1.cls idx2 "OctagonYard" mi_X1_init) (hd1 : decode mi.2.1 pc = .ok (.new idx1, 3)) (hd2 : decode mi.2.1 (pc + 3) = .ok (.dup, 1)) (hd3 : decode mi.2.1 (pc + 4) = .ok (.invokespecial idx2, 3)) (hd4 : decode mi.2.1 (pc + 7) = .ok (.aastore, 1)) (hj : ix j = σ.2.2) (hin : inr j 12) (hst : Nat.ble (catS st) 4 = true) (hp : pc + 8 = pc') (k : WM (d + 1 + 1) X Y (0, 0) mi pc' lv st (newA σ) res) : WM (d + 1 + 1) X Y (3, 45) mi pc lv (vI j :: vR 13 0 :: st) σ res := by
  subst hp
  intro ok ad H locs ls cells slots hD
  have hc : cells + 3 = X.2.2.2.1.cells := hD.2.2.2.2.2.2.1
  have hs : slots + 45 = X.2.2.2.1.slots := hD.2.2.2.2.2.2.2
  have hg : gal σ 13 0 := ⟨rfl, rfl⟩
  have hcell : H[ad 13 0]? = some (arrV (Y.1.2.1 3) 12 (fun j => cv ad (view σ 13 0 j))) := (hD.1.2.2.1 13 0 hg).2
  have hal2 : ad 13 0 < H.size := (Array.getElem?_eq_some_iff.mp hcell).1
  have hbase : Y.1.2.2.1.size ≤ H.size := hD.1.1
  have hcat := catS_eq (ad := ad) st
  have hst' := Nat.le_of_ble_eq_true hst
  refine w_new hw1 hd1 ok (by omega) (by omega) fun H' z1 o1 c1 => ?_
  refine lv_dup ok.1 ok.2.1 hd2 rfl ?_
  have hCR : CR Y.1 H [.inl (1, [.null, .null, .int 0, .int 0, .int 0])] H' := CR.push (ns := []) ⟨by simp, fun _ _ => rfl, fun k c h => by simp at h⟩ z1 o1 c1
  intro T hT Xs
  obtain ⟨v, st0, t, T', L, h0, X', hL', e1, e2, ⟨ho, hCR2⟩, go⟩ := w_ctorN (d := d + 1) (locs := locs) (cells := cells + 1) (slots := slots + 5) (st := .ref H.size :: .int j :: .ref (ad 13 0) :: st.map (cv ad)) (ao := false) hw2 (mc_X1_init (d := d) (B := H)) hd3 ok (fun e => by cases e) hCR hD.lv.1 (by
    simp only [List.map_cons, List.sum_cons]
    show 1 + (1 + (1 + _)) ≤ 8
    omega) (by show cells + 1 + 2 ≤ _; omega) (by show slots + 5 + 40 ≤ _; omega) T hT Xs
  cases ho
  rw [← e1] at hCR2
  have hobj := hCR2.2.2 0 _ rfl
  obtain ⟨cellV, g1, g2, g3, -⟩ := hobj
  have hcls := (ok.env.2.1 1 _ rfl).2
  obtain ⟨kA, comp, k1, k2, k3, -⟩ := (ok.env.2.2.1 3 (by decide)).2
  have hcomp : comp = Y.1.1.1 1 := Option.some.inj (k3.symm.trans hcls.1)
  subst hcomp
  obtain ⟨kC, hkC, hkd⟩ := hcls.2
  have hlt : j.toNatClampNeg < 12 := Nat.not_le.mp fun q => hin (Or.inr q)
  have hneg : ¬ j < 0 := fun q => hin (Or.inl q)
  have hW : W X.1 X.2.1 X.2.2.1 X.2.2.2.1 X.2.2.2.2.1 X.2.2.2.2.2.1 X.2.2.2.2.2.2.1 X.2.2.2.2.2.2.2.1 X.2.2.2.2.2.2.2.2.1 X.2.2.2.2.2.2.2.2.2 T'.heap (locs ++ L) (cells + 1 + 2) (slots + 5 + 40)
      (MQ X.2.2.2.2.2.2.2.1 (Qm Y res) X.2.2.2.2.2.2.1 X.2.2.2.2.1 X.2.2.2.1.cells X.2.2.2.1.slots (fun q => Y.1.2.2.1.size ≤ q)) (F0 X.2.2.2.2.2.1 (pc + 7) ls (.ref (H.size + 0) :: .int j :: .ref (ad 13 0) :: st.map (cv ad))) := by
    refine W.aast (cell := arrV (Y.1.2.1 3) 12 (fun j => cv ad (view σ 13 0 j))) ok.1 ok.2.1 (by rw [hCR2.2.1 _ hal2]; exact hcell) (fun q h => by cases h) (fun h => by cases h) k1 k2 rfl hkC ⟨hneg, by rw [arrV_size]; exact hlt⟩ g1 (fun q h => by rw [g3] at h; cases h) (by rw [g2]; exact hkC) (by rw [g2]; exact va_assign ⟨hcls.1, kC, hkC, hkd⟩) rfl rfl hd4 fun H2 f1 f2 f3 => ?_
    have hj' : j.toNatClampNeg = σ.2.2 := hj
    rw [hj'] at f1
    have hma : st.map (cv (adA ad σ H.size)) = st.map (cv ad) := map_agree (fun r i h => adA_old h) (ht1 (ht1 hD.hst))
    rw [← hma]
    refine k ok (adA ad σ H.size) H2 _ ls _ _ ⟨Rel.growA hD.1 hCR2 f1 f2 f3, fun r i h => ?_, fun q hq => ?_, ⟨hD.lv.1, hD.lv.2.1, fun i v hi => ?_⟩, fun v hv => ?_, fun v hv => ?_, ?_, ?_⟩
    · obtain ⟨h1, h2⟩ := hD.2.1 r i h
      refine ⟨?_, by rw [adA_old h1]; exact h2⟩
      rcases h1 with h1 | h1
      · exact Or.inl (gal_monoA h1)
      · exact Or.inr h1
    · rcases List.mem_append.mp hq with h1 | h1
      · rcases List.mem_append.mp h1 with h2 | h2
        · exact hD.2.2.1 q h2
        · exact Nat.le_trans hbase (hL' q h2)
      · rw [List.mem_singleton.mp h1]
        exact (hD.1.2.2.1 13 0 hg).1
    · rw [cv_agree (fun r i h => adA_old h) (hD.hlv v (List.mem_of_getElem? hi))]
      exact hD.lv.2.2 i v hi
    · refine hal_mono (fun r i h => ?_) (hD.hlv v hv)
      rcases h with h | h
      · exact Or.inl (gal_monoA h)
      · exact Or.inr h
    · refine hal_mono (fun r i h => ?_) (ht1 (ht1 hD.hst) v hv)
      rcases h with h | h
      · exact Or.inl (gal_monoA h)
      · exact Or.inr h
    · show cells + 1 + 2 + 0 = _
      omega
    · show slots + 5 + 40 + 0 = _
      omega
  obtain ⟨t2, s2, q2⟩ := hW T' rfl X'
  refine ⟨t2, go t2 s2, q2⟩
end
