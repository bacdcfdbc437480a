section
-- ===== PART A: goes FIRST, ahead of the names: the tables' words, and 'selects' of the private methods out of them =====
/-- a private method of a class that the tables say can be made, by its rows of tables_1 -/
def lw_okq (q : MethodName × Nat) : Prop := (q.1.cls ≠ "java/lang/invoke/MethodHandle" ∧ q.1.cls ≠ "java/lang/invoke/VarHandle") ∧ Cond.instantiable q.1.cls q.2 ∈ tables_1 ∧ Cond.privateMethod q.1 ∈ tables_1 ∧ Cond.instanceMethod q.1 ∈ tables_1
theorem lw_p0 : lw_okq (⟨"java/util/ArrayList", "add", "(Ljava/lang/Object;[Ljava/lang/Object;I)V"⟩, 3) := ⟨⟨by decide +kernel, by decide +kernel⟩, List.mem_of_getElem? (i := 37) (by decide +kernel), List.mem_of_getElem? (i := 159) (by decide +kernel), List.mem_of_getElem? (i := 160) (by decide +kernel)⟩
theorem lw_p1 : lw_okq (⟨"java/util/ArrayList", "grow", "()[Ljava/lang/Object;"⟩, 3) := ⟨⟨by decide +kernel, by decide +kernel⟩, List.mem_of_getElem? (i := 37) (by decide +kernel), List.mem_of_getElem? (i := 163) (by decide +kernel), List.mem_of_getElem? (i := 164) (by decide +kernel)⟩
theorem lw_p2 : lw_okq (⟨"java/util/ArrayList", "grow", "(I)[Ljava/lang/Object;"⟩, 3) := ⟨⟨by decide +kernel, by decide +kernel⟩, List.mem_of_getElem? (i := 37) (by decide +kernel), List.mem_of_getElem? (i := 167) (by decide +kernel), List.mem_of_getElem? (i := 168) (by decide +kernel)⟩
theorem lw_p3 : lw_okq (⟨"FamilyFields", "enumerationAt", "(I)LFamilyFields$Enumeration;"⟩, 19) := ⟨⟨by decide +kernel, by decide +kernel⟩, List.mem_of_getElem? (i := 29) (by decide +kernel), List.mem_of_getElem? (i := 219) (by decide +kernel), List.mem_of_getElem? (i := 220) (by decide +kernel)⟩
theorem lw_p4 : lw_okq (⟨"java/util/ArrayList", "fastRemove", "([Ljava/lang/Object;I)V"⟩, 3) := ⟨⟨by decide +kernel, by decide +kernel⟩, List.mem_of_getElem? (i := 37) (by decide +kernel), List.mem_of_getElem? (i := 286) (by decide +kernel), List.mem_of_getElem? (i := 287) (by decide +kernel)⟩
theorem lw_p5 : lw_okq (⟨"FamilyFields", "familyAt", "(I)LFamilyFields$Family;"⟩, 19) := ⟨⟨by decide +kernel, by decide +kernel⟩, List.mem_of_getElem? (i := 29) (by decide +kernel), List.mem_of_getElem? (i := 325) (by decide +kernel), List.mem_of_getElem? (i := 326) (by decide +kernel)⟩
theorem lw_p6 : lw_okq (⟨"FamilyFields", "gatherLeaves", "()V"⟩, 19) := ⟨⟨by decide +kernel, by decide +kernel⟩, List.mem_of_getElem? (i := 29) (by decide +kernel), List.mem_of_getElem? (i := 333) (by decide +kernel), List.mem_of_getElem? (i := 334) (by decide +kernel)⟩
theorem lw_p7 : lw_okq (⟨"FamilyFields", "recordAt", "(I)LFamilyFields$RecordType;"⟩, 19) := ⟨⟨by decide +kernel, by decide +kernel⟩, List.mem_of_getElem? (i := 29) (by decide +kernel), List.mem_of_getElem? (i := 378) (by decide +kernel), List.mem_of_getElem? (i := 379) (by decide +kernel)⟩
theorem lw_p8 : lw_okq (⟨"FamilyFields", "isSort", "(II)Z"⟩, 19) := ⟨⟨by decide +kernel, by decide +kernel⟩, List.mem_of_getElem? (i := 29) (by decide +kernel), List.mem_of_getElem? (i := 389) (by decide +kernel), List.mem_of_getElem? (i := 390) (by decide +kernel)⟩
theorem lw_p9 : lw_okq (⟨"FamilyFields", "addRow", "(II)I"⟩, 19) := ⟨⟨by decide +kernel, by decide +kernel⟩, List.mem_of_getElem? (i := 29) (by decide +kernel), List.mem_of_getElem? (i := 505) (by decide +kernel), List.mem_of_getElem? (i := 506) (by decide +kernel)⟩
theorem lw_p10 : lw_okq (⟨"FamilyFields", "rowAt", "(J)LFamilyFields$Row;"⟩, 19) := ⟨⟨by decide +kernel, by decide +kernel⟩, List.mem_of_getElem? (i := 29) (by decide +kernel), List.mem_of_getElem? (i := 539) (by decide +kernel), List.mem_of_getElem? (i := 540) (by decide +kernel)⟩
theorem lw_p11 : lw_okq (⟨"FamilyFields", "draftFits", "(LFamilyFields$RecordType;)Z"⟩, 19) := ⟨⟨by decide +kernel, by decide +kernel⟩, List.mem_of_getElem? (i := 29) (by decide +kernel), List.mem_of_getElem? (i := 564) (by decide +kernel), List.mem_of_getElem? (i := 565) (by decide +kernel)⟩
theorem lw_p12 : lw_okq (⟨"FamilyFields", "fits", "(LFamilyFields$Part;J)Z"⟩, 19) := ⟨⟨by decide +kernel, by decide +kernel⟩, List.mem_of_getElem? (i := 29) (by decide +kernel), List.mem_of_getElem? (i := 568) (by decide +kernel), List.mem_of_getElem? (i := 569) (by decide +kernel)⟩
theorem lw_p13 : lw_okq (⟨"FamilyFields", "enumerationHolds", "(IJ)Z"⟩, 19) := ⟨⟨by decide +kernel, by decide +kernel⟩, List.mem_of_getElem? (i := 29) (by decide +kernel), List.mem_of_getElem? (i := 572) (by decide +kernel), List.mem_of_getElem? (i := 573) (by decide +kernel)⟩
theorem lw_p14 : lw_okq (⟨"FamilyFields", "isOrdinal", "(IJ)Z"⟩, 19) := ⟨⟨by decide +kernel, by decide +kernel⟩, List.mem_of_getElem? (i := 29) (by decide +kernel), List.mem_of_getElem? (i := 577) (by decide +kernel), List.mem_of_getElem? (i := 578) (by decide +kernel)⟩
theorem lw_p15 : lw_okq (⟨"FamilyFields", "objectAt", "(J)LFamilyFields$Made;"⟩, 19) := ⟨⟨by decide +kernel, by decide +kernel⟩, List.mem_of_getElem? (i := 29) (by decide +kernel), List.mem_of_getElem? (i := 581) (by decide +kernel), List.mem_of_getElem? (i := 582) (by decide +kernel)⟩
def lw_privs_1 : List (MethodName × Nat) := [(⟨"java/util/ArrayList", "add", "(Ljava/lang/Object;[Ljava/lang/Object;I)V"⟩, 3), (⟨"java/util/ArrayList", "grow", "()[Ljava/lang/Object;"⟩, 3), (⟨"java/util/ArrayList", "grow", "(I)[Ljava/lang/Object;"⟩, 3), (⟨"FamilyFields", "enumerationAt", "(I)LFamilyFields$Enumeration;"⟩, 19), (⟨"java/util/ArrayList", "fastRemove", "([Ljava/lang/Object;I)V"⟩, 3), (⟨"FamilyFields", "familyAt", "(I)LFamilyFields$Family;"⟩, 19), (⟨"FamilyFields", "gatherLeaves", "()V"⟩, 19), (⟨"FamilyFields", "recordAt", "(I)LFamilyFields$RecordType;"⟩, 19), (⟨"FamilyFields", "isSort", "(II)Z"⟩, 19), (⟨"FamilyFields", "addRow", "(II)I"⟩, 19), (⟨"FamilyFields", "rowAt", "(J)LFamilyFields$Row;"⟩, 19), (⟨"FamilyFields", "draftFits", "(LFamilyFields$RecordType;)Z"⟩, 19), (⟨"FamilyFields", "fits", "(LFamilyFields$Part;J)Z"⟩, 19), (⟨"FamilyFields", "enumerationHolds", "(IJ)Z"⟩, 19), (⟨"FamilyFields", "isOrdinal", "(IJ)Z"⟩, 19), (⟨"FamilyFields", "objectAt", "(J)LFamilyFields$Made;"⟩, 19)]
theorem lw_r1 : ∀ q ∈ lw_privs_1, lw_okq q := List.forall_mem_cons.mpr ⟨lw_p0, List.forall_mem_cons.mpr ⟨lw_p1, List.forall_mem_cons.mpr ⟨lw_p2, List.forall_mem_cons.mpr ⟨lw_p3, List.forall_mem_cons.mpr ⟨lw_p4, List.forall_mem_cons.mpr ⟨lw_p5, List.forall_mem_cons.mpr ⟨lw_p6, List.forall_mem_cons.mpr ⟨lw_p7, List.forall_mem_cons.mpr ⟨lw_p8, List.forall_mem_cons.mpr ⟨lw_p9, List.forall_mem_cons.mpr ⟨lw_p10, List.forall_mem_cons.mpr ⟨lw_p11, List.forall_mem_cons.mpr ⟨lw_p12, List.forall_mem_cons.mpr ⟨lw_p13, List.forall_mem_cons.mpr ⟨lw_p14, List.forall_mem_cons.mpr ⟨lw_p15, fun _ h => absurd h List.not_mem_nil⟩⟩⟩⟩⟩⟩⟩⟩⟩⟩⟩⟩⟩⟩⟩⟩
theorem lw_p16 : lw_okq (⟨"FamilyFields", "isOfFamily", "(LFamilyFields$Made;I)Z"⟩, 19) := ⟨⟨by decide +kernel, by decide +kernel⟩, List.mem_of_getElem? (i := 29) (by decide +kernel), List.mem_of_getElem? (i := 586) (by decide +kernel), List.mem_of_getElem? (i := 587) (by decide +kernel)⟩
theorem lw_p17 : lw_okq (⟨"FamilyFields", "construct", "(I[JI)I"⟩, 19) := ⟨⟨by decide +kernel, by decide +kernel⟩, List.mem_of_getElem? (i := 29) (by decide +kernel), List.mem_of_getElem? (i := 591) (by decide +kernel), List.mem_of_getElem? (i := 592) (by decide +kernel)⟩
theorem lw_p18 : lw_okq (⟨"FamilyFields", "startRecord", "(ILFamilyFields$RecordType;)V"⟩, 19) := ⟨⟨by decide +kernel, by decide +kernel⟩, List.mem_of_getElem? (i := 29) (by decide +kernel), List.mem_of_getElem? (i := 595) (by decide +kernel), List.mem_of_getElem? (i := 596) (by decide +kernel)⟩
theorem lw_p19 : lw_okq (⟨"FamilyFields", "noteStart", "(I)V"⟩, 19) := ⟨⟨by decide +kernel, by decide +kernel⟩, List.mem_of_getElem? (i := 29) (by decide +kernel), List.mem_of_getElem? (i := 599) (by decide +kernel), List.mem_of_getElem? (i := 600) (by decide +kernel)⟩
theorem lw_p20 : lw_okq (⟨"FamilyFields", "startFor", "(LFamilyFields$Part;J)I"⟩, 19) := ⟨⟨by decide +kernel, by decide +kernel⟩, List.mem_of_getElem? (i := 29) (by decide +kernel), List.mem_of_getElem? (i := 603) (by decide +kernel), List.mem_of_getElem? (i := 604) (by decide +kernel)⟩
theorem lw_p21 : lw_okq (⟨"FamilyFields", "startEnumeration", "(I)I"⟩, 19) := ⟨⟨by decide +kernel, by decide +kernel⟩, List.mem_of_getElem? (i := 29) (by decide +kernel), List.mem_of_getElem? (i := 607) (by decide +kernel), List.mem_of_getElem? (i := 608) (by decide +kernel)⟩
theorem lw_p22 : lw_okq (⟨"FamilyFields", "failed", "(IIIII)I"⟩, 19) := ⟨⟨by decide +kernel, by decide +kernel⟩, List.mem_of_getElem? (i := 29) (by decide +kernel), List.mem_of_getElem? (i := 611) (by decide +kernel), List.mem_of_getElem? (i := 612) (by decide +kernel)⟩
theorem lw_p23 : lw_okq (⟨"FamilyFields", "thrownBy", "(LFamilyFields$Check;LFamilyFields$Part;J)I"⟩, 19) := ⟨⟨by decide +kernel, by decide +kernel⟩, List.mem_of_getElem? (i := 29) (by decide +kernel), List.mem_of_getElem? (i := 615) (by decide +kernel), List.mem_of_getElem? (i := 616) (by decide +kernel)⟩
theorem lw_p24 : lw_okq (⟨"FamilyFields", "thrownByLaying", "(IJ)I"⟩, 19) := ⟨⟨by decide +kernel, by decide +kernel⟩, List.mem_of_getElem? (i := 29) (by decide +kernel), List.mem_of_getElem? (i := 654) (by decide +kernel), List.mem_of_getElem? (i := 655) (by decide +kernel)⟩
theorem lw_p25 : lw_okq (⟨"FamilyFields", "addObject", "(I[J)I"⟩, 19) := ⟨⟨by decide +kernel, by decide +kernel⟩, List.mem_of_getElem? (i := 29) (by decide +kernel), List.mem_of_getElem? (i := 658) (by decide +kernel), List.mem_of_getElem? (i := 659) (by decide +kernel)⟩
theorem lw_p26 : lw_okq (⟨"FamilyFields", "findTwins", "()V"⟩, 19) := ⟨⟨by decide +kernel, by decide +kernel⟩, List.mem_of_getElem? (i := 29) (by decide +kernel), List.mem_of_getElem? (i := 707) (by decide +kernel), List.mem_of_getElem? (i := 708) (by decide +kernel)⟩
theorem lw_p27 : lw_okq (⟨"FamilyFields", "firstAlike", "(I)I"⟩, 19) := ⟨⟨by decide +kernel, by decide +kernel⟩, List.mem_of_getElem? (i := 29) (by decide +kernel), List.mem_of_getElem? (i := 711) (by decide +kernel), List.mem_of_getElem? (i := 712) (by decide +kernel)⟩
theorem lw_p28 : lw_okq (⟨"FamilyFields", "areAlike", "(LFamilyFields$Made;LFamilyFields$Made;)Z"⟩, 19) := ⟨⟨by decide +kernel, by decide +kernel⟩, List.mem_of_getElem? (i := 29) (by decide +kernel), List.mem_of_getElem? (i := 715) (by decide +kernel), List.mem_of_getElem? (i := 716) (by decide +kernel)⟩
theorem lw_p29 : lw_okq (⟨"FamilyFields", "twinOf", "(J)J"⟩, 19) := ⟨⟨by decide +kernel, by decide +kernel⟩, List.mem_of_getElem? (i := 29) (by decide +kernel), List.mem_of_getElem? (i := 719) (by decide +kernel), List.mem_of_getElem? (i := 720) (by decide +kernel)⟩
theorem lw_p30 : lw_okq (⟨"FamilyFields", "countToKeep", "(I)I"⟩, 19) := ⟨⟨by decide +kernel, by decide +kernel⟩, List.mem_of_getElem? (i := 29) (by decide +kernel), List.mem_of_getElem? (i := 748) (by decide +kernel), List.mem_of_getElem? (i := 749) (by decide +kernel)⟩
theorem lw_p31 : lw_okq (⟨"FamilyFields", "wantParts", "(LFamilyFields$Made;)V"⟩, 19) := ⟨⟨by decide +kernel, by decide +kernel⟩, List.mem_of_getElem? (i := 29) (by decide +kernel), List.mem_of_getElem? (i := 752) (by decide +kernel), List.mem_of_getElem? (i := 753) (by decide +kernel)⟩
def lw_privs_2 : List (MethodName × Nat) := [(⟨"FamilyFields", "isOfFamily", "(LFamilyFields$Made;I)Z"⟩, 19), (⟨"FamilyFields", "construct", "(I[JI)I"⟩, 19), (⟨"FamilyFields", "startRecord", "(ILFamilyFields$RecordType;)V"⟩, 19), (⟨"FamilyFields", "noteStart", "(I)V"⟩, 19), (⟨"FamilyFields", "startFor", "(LFamilyFields$Part;J)I"⟩, 19), (⟨"FamilyFields", "startEnumeration", "(I)I"⟩, 19), (⟨"FamilyFields", "failed", "(IIIII)I"⟩, 19), (⟨"FamilyFields", "thrownBy", "(LFamilyFields$Check;LFamilyFields$Part;J)I"⟩, 19), (⟨"FamilyFields", "thrownByLaying", "(IJ)I"⟩, 19), (⟨"FamilyFields", "addObject", "(I[J)I"⟩, 19), (⟨"FamilyFields", "findTwins", "()V"⟩, 19), (⟨"FamilyFields", "firstAlike", "(I)I"⟩, 19), (⟨"FamilyFields", "areAlike", "(LFamilyFields$Made;LFamilyFields$Made;)Z"⟩, 19), (⟨"FamilyFields", "twinOf", "(J)J"⟩, 19), (⟨"FamilyFields", "countToKeep", "(I)I"⟩, 19), (⟨"FamilyFields", "wantParts", "(LFamilyFields$Made;)V"⟩, 19)]
theorem lw_r2 : ∀ q ∈ lw_privs_2, lw_okq q := List.forall_mem_cons.mpr ⟨lw_p16, List.forall_mem_cons.mpr ⟨lw_p17, List.forall_mem_cons.mpr ⟨lw_p18, List.forall_mem_cons.mpr ⟨lw_p19, List.forall_mem_cons.mpr ⟨lw_p20, List.forall_mem_cons.mpr ⟨lw_p21, List.forall_mem_cons.mpr ⟨lw_p22, List.forall_mem_cons.mpr ⟨lw_p23, List.forall_mem_cons.mpr ⟨lw_p24, List.forall_mem_cons.mpr ⟨lw_p25, List.forall_mem_cons.mpr ⟨lw_p26, List.forall_mem_cons.mpr ⟨lw_p27, List.forall_mem_cons.mpr ⟨lw_p28, List.forall_mem_cons.mpr ⟨lw_p29, List.forall_mem_cons.mpr ⟨lw_p30, List.forall_mem_cons.mpr ⟨lw_p31, fun _ h => absurd h List.not_mem_nil⟩⟩⟩⟩⟩⟩⟩⟩⟩⟩⟩⟩⟩⟩⟩⟩
theorem lw_p32 : lw_okq (⟨"FamilyFields", "keepInOrder", "(I)V"⟩, 19) := ⟨⟨by decide +kernel, by decide +kernel⟩, List.mem_of_getElem? (i := 29) (by decide +kernel), List.mem_of_getElem? (i := 756) (by decide +kernel), List.mem_of_getElem? (i := 757) (by decide +kernel)⟩
theorem lw_p33 : lw_okq (⟨"FamilyFields", "firstPartToKeep", "(LFamilyFields$Made;)I"⟩, 19) := ⟨⟨by decide +kernel, by decide +kernel⟩, List.mem_of_getElem? (i := 29) (by decide +kernel), List.mem_of_getElem? (i := 760) (by decide +kernel), List.mem_of_getElem? (i := 761) (by decide +kernel)⟩
theorem lw_p34 : lw_okq (⟨"FamilyFields", "addLine", "(LFamilyFields$Made;)V"⟩, 19) := ⟨⟨by decide +kernel, by decide +kernel⟩, List.mem_of_getElem? (i := 29) (by decide +kernel), List.mem_of_getElem? (i := 764) (by decide +kernel), List.mem_of_getElem? (i := 765) (by decide +kernel)⟩
theorem lw_p35 : lw_okq (⟨"FamilyFields", "keptPart", "(LFamilyFields$Part;J)LFamilyFields$KeptPart;"⟩, 19) := ⟨⟨by decide +kernel, by decide +kernel⟩, List.mem_of_getElem? (i := 29) (by decide +kernel), List.mem_of_getElem? (i := 770) (by decide +kernel), List.mem_of_getElem? (i := 771) (by decide +kernel)⟩
theorem lw_p36 : lw_okq (⟨"FamilyFields", "namesOf", "(IJ)[J"⟩, 19) := ⟨⟨by decide +kernel, by decide +kernel⟩, List.mem_of_getElem? (i := 29) (by decide +kernel), List.mem_of_getElem? (i := 775) (by decide +kernel), List.mem_of_getElem? (i := 776) (by decide +kernel)⟩
theorem lw_p37 : lw_okq (⟨"FamilyFields", "lineAt", "(J)LFamilyFields$Line;"⟩, 19) := ⟨⟨by decide +kernel, by decide +kernel⟩, List.mem_of_getElem? (i := 29) (by decide +kernel), List.mem_of_getElem? (i := 869) (by decide +kernel), List.mem_of_getElem? (i := 870) (by decide +kernel)⟩
theorem lw_p38 : lw_okq (⟨"FamilyFields", "loadInOrder", "(I)I"⟩, 19) := ⟨⟨by decide +kernel, by decide +kernel⟩, List.mem_of_getElem? (i := 29) (by decide +kernel), List.mem_of_getElem? (i := 873) (by decide +kernel), List.mem_of_getElem? (i := 874) (by decide +kernel)⟩
theorem lw_p39 : lw_okq (⟨"FamilyFields", "lineAhead", "(LFamilyFields$Line;LFamilyFields$Part;)I"⟩, 19) := ⟨⟨by decide +kernel, by decide +kernel⟩, List.mem_of_getElem? (i := 29) (by decide +kernel), List.mem_of_getElem? (i := 877) (by decide +kernel), List.mem_of_getElem? (i := 878) (by decide +kernel)⟩
theorem lw_p40 : lw_okq (⟨"FamilyFields", "fillPart", "(ILFamilyFields$Line;LFamilyFields$Part;)I"⟩, 19) := ⟨⟨by decide +kernel, by decide +kernel⟩, List.mem_of_getElem? (i := 29) (by decide +kernel), List.mem_of_getElem? (i := 885) (by decide +kernel), List.mem_of_getElem? (i := 886) (by decide +kernel)⟩
theorem lw_p41 : lw_okq (⟨"FamilyFields", "valueNow", "(LFamilyFields$KeptPart;LFamilyFields$Part;)J"⟩, 19) := ⟨⟨by decide +kernel, by decide +kernel⟩, List.mem_of_getElem? (i := 29) (by decide +kernel), List.mem_of_getElem? (i := 895) (by decide +kernel), List.mem_of_getElem? (i := 896) (by decide +kernel)⟩
theorem lw_p42 : lw_okq (⟨"FamilyFields", "ordinalNow", "(LFamilyFields$KeptPart;I)J"⟩, 19) := ⟨⟨by decide +kernel, by decide +kernel⟩, List.mem_of_getElem? (i := 29) (by decide +kernel), List.mem_of_getElem? (i := 899) (by decide +kernel), List.mem_of_getElem? (i := 900) (by decide +kernel)⟩
theorem lw_p43 : lw_okq (⟨"FamilyFields", "setNow", "(LFamilyFields$KeptPart;I)J"⟩, 19) := ⟨⟨by decide +kernel, by decide +kernel⟩, List.mem_of_getElem? (i := 29) (by decide +kernel), List.mem_of_getElem? (i := 903) (by decide +kernel), List.mem_of_getElem? (i := 904) (by decide +kernel)⟩
theorem lw_p44 : lw_okq (⟨"FamilyFields", "rowNow", "(LFamilyFields$KeptPart;)J"⟩, 19) := ⟨⟨by decide +kernel, by decide +kernel⟩, List.mem_of_getElem? (i := 29) (by decide +kernel), List.mem_of_getElem? (i := 907) (by decide +kernel), List.mem_of_getElem? (i := 908) (by decide +kernel)⟩
theorem lw_p45 : lw_okq (⟨"FamilyFields", "objectNow", "(LFamilyFields$KeptPart;)J"⟩, 19) := ⟨⟨by decide +kernel, by decide +kernel⟩, List.mem_of_getElem? (i := 29) (by decide +kernel), List.mem_of_getElem? (i := 911) (by decide +kernel), List.mem_of_getElem? (i := 912) (by decide +kernel)⟩
theorem lw_p46 : lw_okq (⟨"FamilyFields", "thrownByFilling", "(LFamilyFields$KeptPart;LFamilyFields$Part;J)I"⟩, 19) := ⟨⟨by decide +kernel, by decide +kernel⟩, List.mem_of_getElem? (i := 29) (by decide +kernel), List.mem_of_getElem? (i := 922) (by decide +kernel), List.mem_of_getElem? (i := 923) (by decide +kernel)⟩
theorem lw_p47 : lw_okq (⟨"FamilyFields", "foundLine", "(I)I"⟩, 19) := ⟨⟨by decide +kernel, by decide +kernel⟩, List.mem_of_getElem? (i := 29) (by decide +kernel), List.mem_of_getElem? (i := 942) (by decide +kernel), List.mem_of_getElem? (i := 943) (by decide +kernel)⟩
def lw_privs_3 : List (MethodName × Nat) := [(⟨"FamilyFields", "keepInOrder", "(I)V"⟩, 19), (⟨"FamilyFields", "firstPartToKeep", "(LFamilyFields$Made;)I"⟩, 19), (⟨"FamilyFields", "addLine", "(LFamilyFields$Made;)V"⟩, 19), (⟨"FamilyFields", "keptPart", "(LFamilyFields$Part;J)LFamilyFields$KeptPart;"⟩, 19), (⟨"FamilyFields", "namesOf", "(IJ)[J"⟩, 19), (⟨"FamilyFields", "lineAt", "(J)LFamilyFields$Line;"⟩, 19), (⟨"FamilyFields", "loadInOrder", "(I)I"⟩, 19), (⟨"FamilyFields", "lineAhead", "(LFamilyFields$Line;LFamilyFields$Part;)I"⟩, 19), (⟨"FamilyFields", "fillPart", "(ILFamilyFields$Line;LFamilyFields$Part;)I"⟩, 19), (⟨"FamilyFields", "valueNow", "(LFamilyFields$KeptPart;LFamilyFields$Part;)J"⟩, 19), (⟨"FamilyFields", "ordinalNow", "(LFamilyFields$KeptPart;I)J"⟩, 19), (⟨"FamilyFields", "setNow", "(LFamilyFields$KeptPart;I)J"⟩, 19), (⟨"FamilyFields", "rowNow", "(LFamilyFields$KeptPart;)J"⟩, 19), (⟨"FamilyFields", "objectNow", "(LFamilyFields$KeptPart;)J"⟩, 19), (⟨"FamilyFields", "thrownByFilling", "(LFamilyFields$KeptPart;LFamilyFields$Part;J)I"⟩, 19), (⟨"FamilyFields", "foundLine", "(I)I"⟩, 19)]
theorem lw_r3 : ∀ q ∈ lw_privs_3, lw_okq q := List.forall_mem_cons.mpr ⟨lw_p32, List.forall_mem_cons.mpr ⟨lw_p33, List.forall_mem_cons.mpr ⟨lw_p34, List.forall_mem_cons.mpr ⟨lw_p35, List.forall_mem_cons.mpr ⟨lw_p36, List.forall_mem_cons.mpr ⟨lw_p37, List.forall_mem_cons.mpr ⟨lw_p38, List.forall_mem_cons.mpr ⟨lw_p39, List.forall_mem_cons.mpr ⟨lw_p40, List.forall_mem_cons.mpr ⟨lw_p41, List.forall_mem_cons.mpr ⟨lw_p42, List.forall_mem_cons.mpr ⟨lw_p43, List.forall_mem_cons.mpr ⟨lw_p44, List.forall_mem_cons.mpr ⟨lw_p45, List.forall_mem_cons.mpr ⟨lw_p46, List.forall_mem_cons.mpr ⟨lw_p47, fun _ h => absurd h List.not_mem_nil⟩⟩⟩⟩⟩⟩⟩⟩⟩⟩⟩⟩⟩⟩⟩⟩
theorem lw_p48 : lw_okq (⟨"FamilyFieldsModel", "isEnum", "(I)Z"⟩, 63) := ⟨⟨by decide +kernel, by decide +kernel⟩, List.mem_of_getElem? (i := 963) (by decide +kernel), List.mem_of_getElem? (i := 1168) (by decide +kernel), List.mem_of_getElem? (i := 1169) (by decide +kernel)⟩
theorem lw_p49 : lw_okq (⟨"FamilyFieldsModel", "ordinal", "(IJ)I"⟩, 63) := ⟨⟨by decide +kernel, by decide +kernel⟩, List.mem_of_getElem? (i := 963) (by decide +kernel), List.mem_of_getElem? (i := 1181) (by decide +kernel), List.mem_of_getElem? (i := 1182) (by decide +kernel)⟩
theorem lw_p50 : lw_okq (⟨"FamilyFieldsModel", "isConstant", "(II)Z"⟩, 63) := ⟨⟨by decide +kernel, by decide +kernel⟩, List.mem_of_getElem? (i := 963) (by decide +kernel), List.mem_of_getElem? (i := 1189) (by decide +kernel), List.mem_of_getElem? (i := 1190) (by decide +kernel)⟩
theorem lw_p51 : lw_okq (⟨"FamilyFieldsModel", "isFamily", "(I)Z"⟩, 63) := ⟨⟨by decide +kernel, by decide +kernel⟩, List.mem_of_getElem? (i := 963) (by decide +kernel), List.mem_of_getElem? (i := 1209) (by decide +kernel), List.mem_of_getElem? (i := 1210) (by decide +kernel)⟩
theorem lw_p52 : lw_okq (⟨"FamilyFieldsModel", "isRecord", "(I)Z"⟩, 63) := ⟨⟨by decide +kernel, by decide +kernel⟩, List.mem_of_getElem? (i := 963) (by decide +kernel), List.mem_of_getElem? (i := 1213) (by decide +kernel), List.mem_of_getElem? (i := 1214) (by decide +kernel)⟩
theorem lw_p53 : lw_okq (⟨"FamilyFieldsModel", "partNamed", "(IJ)I"⟩, 63) := ⟨⟨by decide +kernel, by decide +kernel⟩, List.mem_of_getElem? (i := 963) (by decide +kernel), List.mem_of_getElem? (i := 1225) (by decide +kernel), List.mem_of_getElem? (i := 1226) (by decide +kernel)⟩
theorem lw_p54 : lw_okq (⟨"FamilyFieldsModel", "isSort", "(II)Z"⟩, 63) := ⟨⟨by decide +kernel, by decide +kernel⟩, List.mem_of_getElem? (i := 963) (by decide +kernel), List.mem_of_getElem? (i := 1229) (by decide +kernel), List.mem_of_getElem? (i := 1230) (by decide +kernel)⟩
theorem lw_p55 : lw_okq (⟨"FamilyFieldsModel", "setSort", "(III)V"⟩, 63) := ⟨⟨by decide +kernel, by decide +kernel⟩, List.mem_of_getElem? (i := 963) (by decide +kernel), List.mem_of_getElem? (i := 1235) (by decide +kernel), List.mem_of_getElem? (i := 1236) (by decide +kernel)⟩
theorem lw_p56 : lw_okq (⟨"FamilyFieldsModel", "isPart", "(II)Z"⟩, 63) := ⟨⟨by decide +kernel, by decide +kernel⟩, List.mem_of_getElem? (i := 963) (by decide +kernel), List.mem_of_getElem? (i := 1253) (by decide +kernel), List.mem_of_getElem? (i := 1254) (by decide +kernel)⟩
theorem lw_p57 : lw_okq (⟨"FamilyFieldsModel", "dropChecks", "(IIZ)V"⟩, 63) := ⟨⟨by decide +kernel, by decide +kernel⟩, List.mem_of_getElem? (i := 963) (by decide +kernel), List.mem_of_getElem? (i := 1257) (by decide +kernel), List.mem_of_getElem? (i := 1258) (by decide +kernel)⟩
theorem lw_p58 : lw_okq (⟨"FamilyFieldsModel", "newRow", "(II)I"⟩, 63) := ⟨⟨by decide +kernel, by decide +kernel⟩, List.mem_of_getElem? (i := 963) (by decide +kernel), List.mem_of_getElem? (i := 1286) (by decide +kernel), List.mem_of_getElem? (i := 1287) (by decide +kernel)⟩
theorem lw_p59 : lw_okq (⟨"FamilyFieldsModel", "isRow", "(I)Z"⟩, 63) := ⟨⟨by decide +kernel, by decide +kernel⟩, List.mem_of_getElem? (i := 963) (by decide +kernel), List.mem_of_getElem? (i := 1294) (by decide +kernel), List.mem_of_getElem? (i := 1295) (by decide +kernel)⟩
theorem lw_p60 : lw_okq (⟨"FamilyFieldsModel", "isGood", "(IJ)Z"⟩, 63) := ⟨⟨by decide +kernel, by decide +kernel⟩, List.mem_of_getElem? (i := 963) (by decide +kernel), List.mem_of_getElem? (i := 1314) (by decide +kernel), List.mem_of_getElem? (i := 1315) (by decide +kernel)⟩
theorem lw_p61 : lw_okq (⟨"FamilyFieldsModel", "isObject", "(J)Z"⟩, 63) := ⟨⟨by decide +kernel, by decide +kernel⟩, List.mem_of_getElem? (i := 963) (by decide +kernel), List.mem_of_getElem? (i := 1318) (by decide +kernel), List.mem_of_getElem? (i := 1319) (by decide +kernel)⟩
theorem lw_p62 : lw_okq (⟨"FamilyFieldsModel", "isOfFamily", "(II)Z"⟩, 63) := ⟨⟨by decide +kernel, by decide +kernel⟩, List.mem_of_getElem? (i := 963) (by decide +kernel), List.mem_of_getElem? (i := 1322) (by decide +kernel), List.mem_of_getElem? (i := 1323) (by decide +kernel)⟩
theorem lw_p63 : lw_okq (⟨"FamilyFieldsModel", "findLeaves", "(I)V"⟩, 63) := ⟨⟨by decide +kernel, by decide +kernel⟩, List.mem_of_getElem? (i := 963) (by decide +kernel), List.mem_of_getElem? (i := 1326) (by decide +kernel), List.mem_of_getElem? (i := 1327) (by decide +kernel)⟩
def lw_privs_4 : List (MethodName × Nat) := [(⟨"FamilyFieldsModel", "isEnum", "(I)Z"⟩, 63), (⟨"FamilyFieldsModel", "ordinal", "(IJ)I"⟩, 63), (⟨"FamilyFieldsModel", "isConstant", "(II)Z"⟩, 63), (⟨"FamilyFieldsModel", "isFamily", "(I)Z"⟩, 63), (⟨"FamilyFieldsModel", "isRecord", "(I)Z"⟩, 63), (⟨"FamilyFieldsModel", "partNamed", "(IJ)I"⟩, 63), (⟨"FamilyFieldsModel", "isSort", "(II)Z"⟩, 63), (⟨"FamilyFieldsModel", "setSort", "(III)V"⟩, 63), (⟨"FamilyFieldsModel", "isPart", "(II)Z"⟩, 63), (⟨"FamilyFieldsModel", "dropChecks", "(IIZ)V"⟩, 63), (⟨"FamilyFieldsModel", "newRow", "(II)I"⟩, 63), (⟨"FamilyFieldsModel", "isRow", "(I)Z"⟩, 63), (⟨"FamilyFieldsModel", "isGood", "(IJ)Z"⟩, 63), (⟨"FamilyFieldsModel", "isObject", "(J)Z"⟩, 63), (⟨"FamilyFieldsModel", "isOfFamily", "(II)Z"⟩, 63), (⟨"FamilyFieldsModel", "findLeaves", "(I)V"⟩, 63)]
theorem lw_r4 : ∀ q ∈ lw_privs_4, lw_okq q := List.forall_mem_cons.mpr ⟨lw_p48, List.forall_mem_cons.mpr ⟨lw_p49, List.forall_mem_cons.mpr ⟨lw_p50, List.forall_mem_cons.mpr ⟨lw_p51, List.forall_mem_cons.mpr ⟨lw_p52, List.forall_mem_cons.mpr ⟨lw_p53, List.forall_mem_cons.mpr ⟨lw_p54, List.forall_mem_cons.mpr ⟨lw_p55, List.forall_mem_cons.mpr ⟨lw_p56, List.forall_mem_cons.mpr ⟨lw_p57, List.forall_mem_cons.mpr ⟨lw_p58, List.forall_mem_cons.mpr ⟨lw_p59, List.forall_mem_cons.mpr ⟨lw_p60, List.forall_mem_cons.mpr ⟨lw_p61, List.forall_mem_cons.mpr ⟨lw_p62, List.forall_mem_cons.mpr ⟨lw_p63, fun _ h => absurd h List.not_mem_nil⟩⟩⟩⟩⟩⟩⟩⟩⟩⟩⟩⟩⟩⟩⟩⟩
theorem lw_p64 : lw_okq (⟨"FamilyFieldsModel", "tagOf", "(I)I"⟩, 63) := ⟨⟨by decide +kernel, by decide +kernel⟩, List.mem_of_getElem? (i := 963) (by decide +kernel), List.mem_of_getElem? (i := 1330) (by decide +kernel), List.mem_of_getElem? (i := 1331) (by decide +kernel)⟩
theorem lw_p65 : lw_okq (⟨"FamilyFieldsModel", "made", "(II)I"⟩, 63) := ⟨⟨by decide +kernel, by decide +kernel⟩, List.mem_of_getElem? (i := 963) (by decide +kernel), List.mem_of_getElem? (i := 1334) (by decide +kernel), List.mem_of_getElem? (i := 1335) (by decide +kernel)⟩
theorem lw_p66 : lw_okq (⟨"FamilyFieldsModel", "start", "(I)I"⟩, 63) := ⟨⟨by decide +kernel, by decide +kernel⟩, List.mem_of_getElem? (i := 963) (by decide +kernel), List.mem_of_getElem? (i := 1338) (by decide +kernel), List.mem_of_getElem? (i := 1339) (by decide +kernel)⟩
theorem lw_p67 : lw_okq (⟨"FamilyFieldsModel", "caused", "(IIIII)I"⟩, 63) := ⟨⟨by decide +kernel, by decide +kernel⟩, List.mem_of_getElem? (i := 963) (by decide +kernel), List.mem_of_getElem? (i := 1342) (by decide +kernel), List.mem_of_getElem? (i := 1343) (by decide +kernel)⟩
theorem lw_p68 : lw_okq (⟨"FamilyFieldsModel", "checked", "(II)I"⟩, 63) := ⟨⟨by decide +kernel, by decide +kernel⟩, List.mem_of_getElem? (i := 963) (by decide +kernel), List.mem_of_getElem? (i := 1346) (by decide +kernel), List.mem_of_getElem? (i := 1347) (by decide +kernel)⟩
theorem lw_p69 : lw_okq (⟨"FamilyFieldsModel", "areLike", "(II)Z"⟩, 63) := ⟨⟨by decide +kernel, by decide +kernel⟩, List.mem_of_getElem? (i := 963) (by decide +kernel), List.mem_of_getElem? (i := 1382) (by decide +kernel), List.mem_of_getElem? (i := 1383) (by decide +kernel)⟩
theorem lw_p70 : lw_okq (⟨"FamilyFieldsModel", "once", "(III)I"⟩, 63) := ⟨⟨by decide +kernel, by decide +kernel⟩, List.mem_of_getElem? (i := 963) (by decide +kernel), List.mem_of_getElem? (i := 1395) (by decide +kernel), List.mem_of_getElem? (i := 1396) (by decide +kernel)⟩
theorem lw_p71 : lw_okq (⟨"FamilyFieldsModel", "unkept", "(I)I"⟩, 63) := ⟨⟨by decide +kernel, by decide +kernel⟩, List.mem_of_getElem? (i := 963) (by decide +kernel), List.mem_of_getElem? (i := 1403) (by decide +kernel), List.mem_of_getElem? (i := 1404) (by decide +kernel)⟩
theorem lw_p72 : lw_okq (⟨"FamilyFieldsModel", "write", "(I)V"⟩, 63) := ⟨⟨by decide +kernel, by decide +kernel⟩, List.mem_of_getElem? (i := 963) (by decide +kernel), List.mem_of_getElem? (i := 1407) (by decide +kernel), List.mem_of_getElem? (i := 1408) (by decide +kernel)⟩
theorem lw_p73 : lw_okq (⟨"FamilyFieldsModel", "writeValue", "(IIIJ)V"⟩, 63) := ⟨⟨by decide +kernel, by decide +kernel⟩, List.mem_of_getElem? (i := 963) (by decide +kernel), List.mem_of_getElem? (i := 1411) (by decide +kernel), List.mem_of_getElem? (i := 1412) (by decide +kernel)⟩
theorem lw_p74 : lw_okq (⟨"FamilyFieldsModel", "keptPart", "(IJ)I"⟩, 63) := ⟨⟨by decide +kernel, by decide +kernel⟩, List.mem_of_getElem? (i := 963) (by decide +kernel), List.mem_of_getElem? (i := 1419) (by decide +kernel), List.mem_of_getElem? (i := 1420) (by decide +kernel)⟩
theorem lw_p75 : lw_okq (⟨"FamilyFieldsModel", "comes", "(II)I"⟩, 63) := ⟨⟨by decide +kernel, by decide +kernel⟩, List.mem_of_getElem? (i := 963) (by decide +kernel), List.mem_of_getElem? (i := 1423) (by decide +kernel), List.mem_of_getElem? (i := 1424) (by decide +kernel)⟩
theorem lw_p76 : lw_okq (⟨"FamilyFieldsModel", "brings", "(II)I"⟩, 63) := ⟨⟨by decide +kernel, by decide +kernel⟩, List.mem_of_getElem? (i := 963) (by decide +kernel), List.mem_of_getElem? (i := 1427) (by decide +kernel), List.mem_of_getElem? (i := 1428) (by decide +kernel)⟩
theorem lw_p77 : lw_okq (⟨"FamilyFieldsModel", "bringSet", "(II)V"⟩, 63) := ⟨⟨by decide +kernel, by decide +kernel⟩, List.mem_of_getElem? (i := 963) (by decide +kernel), List.mem_of_getElem? (i := 1459) (by decide +kernel), List.mem_of_getElem? (i := 1460) (by decide +kernel)⟩
theorem lw_p78 : lw_okq (⟨"FamilyFieldsModel", "bringRow", "(I)V"⟩, 63) := ⟨⟨by decide +kernel, by decide +kernel⟩, List.mem_of_getElem? (i := 963) (by decide +kernel), List.mem_of_getElem? (i := 1463) (by decide +kernel), List.mem_of_getElem? (i := 1464) (by decide +kernel)⟩
theorem lw_p79 : lw_okq (⟨"FamilyFieldsModel", "found", "(JJIIII)I"⟩, 63) := ⟨⟨by decide +kernel, by decide +kernel⟩, List.mem_of_getElem? (i := 963) (by decide +kernel), List.mem_of_getElem? (i := 1475) (by decide +kernel), List.mem_of_getElem? (i := 1476) (by decide +kernel)⟩
def lw_privs_5 : List (MethodName × Nat) := [(⟨"FamilyFieldsModel", "tagOf", "(I)I"⟩, 63), (⟨"FamilyFieldsModel", "made", "(II)I"⟩, 63), (⟨"FamilyFieldsModel", "start", "(I)I"⟩, 63), (⟨"FamilyFieldsModel", "caused", "(IIIII)I"⟩, 63), (⟨"FamilyFieldsModel", "checked", "(II)I"⟩, 63), (⟨"FamilyFieldsModel", "areLike", "(II)Z"⟩, 63), (⟨"FamilyFieldsModel", "once", "(III)I"⟩, 63), (⟨"FamilyFieldsModel", "unkept", "(I)I"⟩, 63), (⟨"FamilyFieldsModel", "write", "(I)V"⟩, 63), (⟨"FamilyFieldsModel", "writeValue", "(IIIJ)V"⟩, 63), (⟨"FamilyFieldsModel", "keptPart", "(IJ)I"⟩, 63), (⟨"FamilyFieldsModel", "comes", "(II)I"⟩, 63), (⟨"FamilyFieldsModel", "brings", "(II)I"⟩, 63), (⟨"FamilyFieldsModel", "bringSet", "(II)V"⟩, 63), (⟨"FamilyFieldsModel", "bringRow", "(I)V"⟩, 63), (⟨"FamilyFieldsModel", "found", "(JJIIII)I"⟩, 63)]
theorem lw_r5 : ∀ q ∈ lw_privs_5, lw_okq q := List.forall_mem_cons.mpr ⟨lw_p64, List.forall_mem_cons.mpr ⟨lw_p65, List.forall_mem_cons.mpr ⟨lw_p66, List.forall_mem_cons.mpr ⟨lw_p67, List.forall_mem_cons.mpr ⟨lw_p68, List.forall_mem_cons.mpr ⟨lw_p69, List.forall_mem_cons.mpr ⟨lw_p70, List.forall_mem_cons.mpr ⟨lw_p71, List.forall_mem_cons.mpr ⟨lw_p72, List.forall_mem_cons.mpr ⟨lw_p73, List.forall_mem_cons.mpr ⟨lw_p74, List.forall_mem_cons.mpr ⟨lw_p75, List.forall_mem_cons.mpr ⟨lw_p76, List.forall_mem_cons.mpr ⟨lw_p77, List.forall_mem_cons.mpr ⟨lw_p78, List.forall_mem_cons.mpr ⟨lw_p79, fun _ h => absurd h List.not_mem_nil⟩⟩⟩⟩⟩⟩⟩⟩⟩⟩⟩⟩⟩⟩⟩⟩
theorem lw_p80 : lw_okq (⟨"FamilyFieldsModel", "has", "(IJJIII)Z"⟩, 63) := ⟨⟨by decide +kernel, by decide +kernel⟩, List.mem_of_getElem? (i := 963) (by decide +kernel), List.mem_of_getElem? (i := 1479) (by decide +kernel), List.mem_of_getElem? (i := 1480) (by decide +kernel)⟩
def lw_privs_6 : List (MethodName × Nat) := [(⟨"FamilyFieldsModel", "has", "(IJJIII)Z"⟩, 63)]
theorem lw_r6 : ∀ q ∈ lw_privs_6, lw_okq q := List.forall_mem_cons.mpr ⟨lw_p80, fun _ h => absurd h List.not_mem_nil⟩
def lw_privs : List (MethodName × Nat) := lw_privs_1 ++ (lw_privs_2 ++ (lw_privs_3 ++ (lw_privs_4 ++ (lw_privs_5 ++ (lw_privs_6)))))
def lw_tbl : List Cond := k2_sels lw_privs ++ tables_1
theorem lw_privs_ok : ∀ q ∈ lw_privs, lw_okq q := by
  show ∀ q ∈ lw_privs_1 ++ (lw_privs_2 ++ (lw_privs_3 ++ (lw_privs_4 ++ (lw_privs_5 ++ (lw_privs_6))))), lw_okq q
  exact List.forall_mem_append.mpr ⟨lw_r1, List.forall_mem_append.mpr ⟨lw_r2, List.forall_mem_append.mpr ⟨lw_r3, List.forall_mem_append.mpr ⟨lw_r4, List.forall_mem_append.mpr ⟨lw_r5, lw_r6⟩⟩⟩⟩⟩
/-- the streams that the claim lets the run draw from -/
abbrev lw_cs : List Choice := [Jvm.Choice.named "NaN.bits", Jvm.Choice.named "NaN.copy"]
theorem lw_bits : nanBits ∈ lw_cs := by first | decide | exact List.mem_cons_self | simp [lw_cs, nanBits]
end
section
/-! THE PURE MACHINE: values, memory (a map a field), one instruction as a step in continuation form -/
abbrev PV : Type := Int32 ⊕ Int64 ⊕ Option Nat ⊕ UInt32 ⊕ UInt64
abbrev pI (x : Int32) : PV := .inl x
abbrev pJ (x : Int64) : PV := .inr (.inl x)
abbrev pR (r : Option Nat) : PV := .inr (.inr (.inl r))
abbrev pF (x : UInt32) : PV := .inr (.inr (.inr (.inl x)))
abbrev pD (x : UInt64) : PV := .inr (.inr (.inr (.inr x)))
def pv : PV → Value
  | .inl x => .int x
  | .inr (.inl x) => .long x
  | .inr (.inr (.inl r)) => va_rf r
  | .inr (.inr (.inr (.inl x))) => .float x
  | .inr (.inr (.inr (.inr x))) => .double x
/-- words that a value takes -/
def wd : PV → Nat
  | .inl _ => 1
  | .inr (.inl _) => 2
  | .inr (.inr (.inl _)) => 1
  | .inr (.inr (.inr (.inl _))) => 1
  | .inr (.inr (.inr (.inr _))) => 2
def wds : List PV → Nat
  | [] => 0
  | v :: t => wd v + wds t
/-- memory: next address, slots made, kind of a cell, fields (by key, address), lengths, contents of arrays, static references -/
abbrev Mem : Type := Nat × Nat × (Nat → Nat) × (Nat → Nat → Int32) × (Nat → Nat → Int64) × (Nat → Nat → Option Nat) × (Nat → Nat) × (Nat → Nat → Int32) × (Nat → Nat → Int64) × (Nat → Nat → Option Nat) × (Nat → Option Nat)
def mT (M : Mem) : Nat := M.1
def mS (M : Mem) : Nat := M.2.1
def kd (M : Mem) : Nat → Nat := M.2.2.1
def gI (M : Mem) : Nat → Nat → Int32 := M.2.2.2.1
def gJ (M : Mem) : Nat → Nat → Int64 := M.2.2.2.2.1
def gR (M : Mem) : Nat → Nat → Option Nat := M.2.2.2.2.2.1
def ln (M : Mem) : Nat → Nat := M.2.2.2.2.2.2.1
def aI (M : Mem) : Nat → Nat → Int32 := M.2.2.2.2.2.2.2.1
def aJ (M : Mem) : Nat → Nat → Int64 := M.2.2.2.2.2.2.2.2.1
def aR (M : Mem) : Nat → Nat → Option Nat := M.2.2.2.2.2.2.2.2.2.1
def sR (M : Mem) : Nat → Option Nat := M.2.2.2.2.2.2.2.2.2.2
def up1 {α : Type} (f : Nat → α) (k : Nat) (v : α) : Nat → α := fun j => if j = k then v else f j
def up2 {α : Type} (f : Nat → Nat → α) (k a : Nat) (v : α) : Nat → Nat → α := fun j b => if j = k ∧ b = a then v else f j b
/-- every key forgotten at one address -/
def clr {α : Type} (f : Nat → Nat → α) (a : Nat) (v : α) : Nat → Nat → α := fun j b => if b = a then v else f j b
def sI (M : Mem) (k a : Nat) (v : Int32) : Mem := (mT M, mS M, kd M, up2 (gI M) k a v, gJ M, gR M, ln M, aI M, aJ M, aR M, sR M)
def sJ (M : Mem) (k a : Nat) (v : Int64) : Mem := (mT M, mS M, kd M, gI M, up2 (gJ M) k a v, gR M, ln M, aI M, aJ M, aR M, sR M)
def sF (M : Mem) (k a : Nat) (v : Option Nat) : Mem := (mT M, mS M, kd M, gI M, gJ M, up2 (gR M) k a v, ln M, aI M, aJ M, aR M, sR M)
def uI (M : Mem) (a : Nat) (f : Nat → Int32) : Mem := (mT M, mS M, kd M, gI M, gJ M, gR M, ln M, up1 (aI M) a f, aJ M, aR M, sR M)
def uJ (M : Mem) (a : Nat) (f : Nat → Int64) : Mem := (mT M, mS M, kd M, gI M, gJ M, gR M, ln M, aI M, up1 (aJ M) a f, aR M, sR M)
def uR (M : Mem) (a : Nat) (f : Nat → Option Nat) : Mem := (mT M, mS M, kd M, gI M, gJ M, gR M, ln M, aI M, aJ M, up1 (aR M) a f, sR M)
def wI (M : Mem) (a j : Nat) (v : Int32) : Mem := uI M a (up1 (aI M a) j v)
def wJ (M : Mem) (a j : Nat) (v : Int64) : Mem := uJ M a (up1 (aJ M a) j v)
def wR (M : Mem) (a j : Nat) (v : Option Nat) : Mem := uR M a (up1 (aR M a) j v)
/-- a new object of kind c with n fields -/
def nO (M : Mem) (c n : Nat) : Mem := (mT M + 1, mS M + n, up1 (kd M) (mT M) c, clr (gI M) (mT M) 0, clr (gJ M) (mT M) 0, clr (gR M) (mT M) none, ln M, aI M, aJ M, aR M, sR M)
/-- a new array of kind c with n places -/
def nA (M : Mem) (c n : Nat) : Mem := (mT M + 1, mS M + n, up1 (kd M) (mT M) c, gI M, gJ M, gR M, up1 (ln M) (mT M) n, up1 (aI M) (mT M) (fun _ => 0), up1 (aJ M) (mT M) (fun _ => 0), up1 (aR M) (mT M) (fun _ => none), sR M)
/-- what a run gives: the value that is returned, the memory -/
abbrev Rt : Type := Option PV × Mem
/-- a reference to a cell of kind c is used -/
def rd {α : Type} (r : Option Nat) (c : Nat) (M : Mem) (f : Nat → Option α) : Option α := match r with
  | some a => if kd M a = c then f a else none
  | none => none
/-- place i of an array of kind c or d -/
def ix {α : Type} (c d : Nat) (r : Option Nat) (i : Int32) (M : Mem) (f : Nat → Nat → Option α) : Option α := match r with
  | some a => if (kd M a = c ∨ kd M a = d) ∧ ¬ (i < 0 ∨ ln M a ≤ i.toNatClampNeg) then f a i.toNatClampNeg else none
  | none => none
/-- an array's length -/
def al {α : Type} (r : Option Nat) (M : Mem) (f : Nat → Option α) : Option α := match r with
  | some a => if 20 ≤ kd M a ∧ kd M a < 40 then f a else none
  | none => none
/-- a cast -/
def ck {α : Type} (r : Option Nat) (c : Nat) (M : Mem) (x : Option α) : Option α := match r with
  | some a => if kd M a = c then x else none
  | none => x
/-- not null -/
def nn {α : Type} (r : Option Nat) (x : Option α) : Option α := match r with
  | some _ => x
  | none => none
/-- 0 or 1 alone -/
def zo {α : Type} (x : Int32) (k : Option α) : Option α := if x = 0 ∨ x = 1 then k else none
def bq1 {α : Type} (b : Bool) (x : Option α) : Option α := match b with
  | true => x
  | false => none
def bq2 {α : Type} (b : Bool) (x : Option α) : Option α := bq1 b x
def bq3 {α : Type} (b : Bool) (x : Option α) : Option α := bq2 b x
def bq4 {α : Type} (b : Bool) (x : Option α) : Option α := bq3 b x
/-- (in layers, so that it is laid open ahead of what stands on the other side) -/
def bq {α : Type} (b : Bool) (x : Option α) : Option α := bq4 b x
def gd {α : Type} (p : Prop) [Decidable p] (x : Option α) : Option α := if p then x else none
/-- a new memory gets a name -/
def bd {α : Type} (M : Mem) (f : Mem → Option α) : Option α := f M
def clI {α : Type} (o : Option Rt) (f : Int32 → Mem → Option α) : Option α := match o with
  | some (some (.inl x), M) => f x M
  | _ => none
def clJ {α : Type} (o : Option Rt) (f : Int64 → Mem → Option α) : Option α := match o with
  | some (some (.inr (.inl x)), M) => f x M
  | _ => none
def clR {α : Type} (o : Option Rt) (f : Option Nat → Mem → Option α) : Option α := match o with
  | some (some (.inr (.inr (.inl x))), M) => f x M
  | _ => none
def clV {α : Type} (o : Option Rt) (f : Mem → Option α) : Option α := match o with
  | some (none, M) => f M
  | _ => none
-- locals
def lget : List (Option PV) → Nat → Option PV
  | [], _ => none
  | x :: _, 0 => x
  | _ :: t, n + 1 => lget t n
def lset : List (Option PV) → Nat → Option PV → List (Option PV)
  | [], _, _ => []
  | _ :: t, 0, v => v :: t
  | x :: t, n + 1, v => x :: lset t n v
/-- a value of two words just below i is lost when i is written -/
def lkill (ls : List (Option PV)) : Nat → List (Option PV)
  | 0 => ls
  | n + 1 => match lget ls n with
    | some (.inr (.inl _)) => lset ls n none
    | some (.inr (.inr (.inr (.inr _)))) => lset ls n none
    | _ => ls
def lst1 (ls : List (Option PV)) (i : Nat) (v : PV) : List (Option PV) := lset (lkill ls i) i (some v)
def lst2 (ls : List (Option PV)) (i : Nat) (v : PV) : List (Option PV) := lset (lset (lkill ls i) i (some v)) (i + 1) none
def lay : List PV → List (Option PV)
  | [] => []
  | .inl x :: t => some (.inl x) :: lay t
  | .inr (.inl x) :: t => some (.inr (.inl x)) :: none :: lay t
  | .inr (.inr (.inl x)) :: t => some (.inr (.inr (.inl x))) :: lay t
  | .inr (.inr (.inr (.inl x))) :: t => some (.inr (.inr (.inr (.inl x)))) :: lay t
  | .inr (.inr (.inr (.inr x))) :: t => some (.inr (.inr (.inr (.inr x)))) :: none :: lay t
def pads : Nat → List (Option PV)
  | 0 => []
  | n + 1 => none :: pads n
def fill : List (Option PV) → Nat → List (Option PV)
  | [], n => pads n
  | x :: t, 0 => x :: t
  | x :: t, n + 1 => x :: fill t n
def ent (args : List PV) (n : Nat) : List (Option PV) := fill (lay args) n
/-- the first n of a list, turned round, ahead of acc; and the rest -/
def popN : Nat → List PV → List PV → Option (List PV × List PV)
  | 0, st, acc => some (acc, st)
  | _ + 1, [], _ => none
  | n + 1, v :: st, acc => popN n st (v :: acc)
/-- a row of code: instruction, length, numbers, a constant, locals that are dead here -/
abbrev Ent : Type := Instr × Nat × List Nat × PV × List Nat
/-- a program: by method and pc -/
abbrev Prg : Type := Nat → Nat → Option Ent
def clrs : List Nat → List (Option PV) → List (Option PV)
  | [], ls => ls
  | i :: t, ls => clrs t (lset ls i none)
/-- the same list, its places laid bare first -/
def nf {α : Type} : List (Option PV) → (List (Option PV) → α) → α
  | [], f => f []
  | x :: t, f => nf t fun t => f (x :: t)
theorem nf_eq {α : Type} : ∀ (L : List (Option PV)) (f : List (Option PV) → α), nf L f = f L
  | [], _ => rfl
  | x :: t, f => nf_eq t fun t => f (x :: t)
def cmk {α : Type} (ms : List Nat) (ls : List (Option PV)) (f : List (Option PV) → α) : α := match ms with
  | [] => f ls
  | i :: t => nf (clrs (i :: t) ls) f
theorem cmk_eq {α : Type} (ms : List Nat) (ls : List (Option PV)) (f : List (Option PV) → α) : cmk ms ls f = f (clrs ms ls) := by
  cases ms with
  | nil => rfl
  | cons i t => exact nf_eq _ _
abbrev Kt : Type := Nat → List (Option PV) → List PV → Mem → Option Rt
def tgt (pc : Nat) (off : Int) : Nat := ((pc : Int) + off).toNat
def swK (x : Int32) (pc : Nat) (ls : List (Option PV)) (st : List PV) (M : Mem) (k : Kt) (d : Int) : Int → List Int → Option Rt
  | _, [] => k (tgt pc d) ls st M
  | lo, o :: t => if x = Int32.ofInt lo then k (tgt pc o) ls st M else swK x pc ls st M k d (lo + 1) t
end
section
/-- a plain instruction: new locals, new stack (the next instruction follows) -/
def stepL (ins : Instr) (ns : List Nat) (cst : PV) (ls : List (Option PV)) (st : List PV) (M : Mem) : Option (List (Option PV) × List PV) :=
  match ins with
  | .iload i => match lget ls i with
    | some (.inl x) => some (ls, pI x :: st)
    | _ => none
  | .iload_n i => match lget ls i.val with
    | some (.inl x) => some (ls, pI x :: st)
    | _ => none
  | .lload i => match lget ls i with
    | some (.inr (.inl x)) => some (ls, pJ x :: st)
    | _ => none
  | .lload_n i => match lget ls i.val with
    | some (.inr (.inl x)) => some (ls, pJ x :: st)
    | _ => none
  | .aload i => match lget ls i with
    | some (.inr (.inr (.inl x))) => some (ls, pR x :: st)
    | _ => none
  | .aload_n i => match lget ls i.val with
    | some (.inr (.inr (.inl x))) => some (ls, pR x :: st)
    | _ => none
  | .fload i => match lget ls i with
    | some (.inr (.inr (.inr (.inl x)))) => some (ls, pF x :: st)
    | _ => none
  | .fload_n i => match lget ls i.val with
    | some (.inr (.inr (.inr (.inl x)))) => some (ls, pF x :: st)
    | _ => none
  | .dload i => match lget ls i with
    | some (.inr (.inr (.inr (.inr x)))) => some (ls, pD x :: st)
    | _ => none
  | .dload_n i => match lget ls i.val with
    | some (.inr (.inr (.inr (.inr x)))) => some (ls, pD x :: st)
    | _ => none
  | .istore i => match st with
    | .inl x :: st => nf (lst1 ls i (pI x)) fun ls => some (ls, st)
    | _ => none
  | .istore_n i => match st with
    | .inl x :: st => nf (lst1 ls i.val (pI x)) fun ls => some (ls, st)
    | _ => none
  | .astore i => match st with
    | .inr (.inr (.inl x)) :: st => nf (lst1 ls i (pR x)) fun ls => some (ls, st)
    | _ => none
  | .astore_n i => match st with
    | .inr (.inr (.inl x)) :: st => nf (lst1 ls i.val (pR x)) fun ls => some (ls, st)
    | _ => none
  | .lstore i => match st with
    | .inr (.inl x) :: st => nf (lst2 ls i (pJ x)) fun ls => some (ls, st)
    | _ => none
  | .lstore_n i => match st with
    | .inr (.inl x) :: st => nf (lst2 ls i.val (pJ x)) fun ls => some (ls, st)
    | _ => none
  | .dstore i => match st with
    | .inr (.inr (.inr (.inr x))) :: st => nf (lst2 ls i (pD x)) fun ls => some (ls, st)
    | _ => none
  | .dstore_n i => match st with
    | .inr (.inr (.inr (.inr x))) :: st => nf (lst2 ls i.val (pD x)) fun ls => some (ls, st)
    | _ => none
  | .iinc i _ => match lget ls i, cst with
    | some (.inl x), .inl n => nf (lst1 ls i (pI (x + n))) fun ls => some (ls, st)
    | _, _ => none
  | .iconst _ => some (ls, cst :: st)
  | .bipush _ => some (ls, cst :: st)
  | .sipush _ => some (ls, cst :: st)
  | .lconst _ => some (ls, cst :: st)
  | .ldc_w _ => some (ls, cst :: st)
  | .ldc2_w _ => some (ls, cst :: st)
  | .ldc _ => match ns with
    | [] => some (ls, cst :: st)
    | j :: _ => some (ls, pR (sR M j) :: st)
  | .aconst_null => some (ls, pR none :: st)
  | .iadd => match st with
    | .inl y :: .inl x :: st => some (ls, pI (x + y) :: st)
    | _ => none
  | .isub => match st with
    | .inl y :: .inl x :: st => some (ls, pI (x - y) :: st)
    | _ => none
  | .imul => match st with
    | .inl y :: .inl x :: st => some (ls, pI (x * y) :: st)
    | _ => none
  | .iand => match st with
    | .inl y :: .inl x :: st => some (ls, pI (x &&& y) :: st)
    | _ => none
  | .ior => match st with
    | .inl y :: .inl x :: st => some (ls, pI (x ||| y) :: st)
    | _ => none
  | .ladd => match st with
    | .inr (.inl y) :: .inr (.inl x) :: st => some (ls, pJ (x + y) :: st)
    | _ => none
  | .lsub => match st with
    | .inr (.inl y) :: .inr (.inl x) :: st => some (ls, pJ (x - y) :: st)
    | _ => none
  | .land => match st with
    | .inr (.inl y) :: .inr (.inl x) :: st => some (ls, pJ (x &&& y) :: st)
    | _ => none
  | .lor => match st with
    | .inr (.inl y) :: .inr (.inl x) :: st => some (ls, pJ (x ||| y) :: st)
    | _ => none
  | .ishl => match st with
    | .inl y :: .inl x :: st => some (ls, pI (x <<< (y &&& 31)) :: st)
    | _ => none
  | .ishr => match st with
    | .inl y :: .inl x :: st => some (ls, pI (x >>> (y &&& 31)) :: st)
    | _ => none
  | .iushr => match st with
    | .inl y :: .inl x :: st => some (ls, pI (x.toUInt32 >>> (y.toUInt32 &&& Int32.toUInt32 31)).toInt32 :: st)
    | _ => none
  | .lshl => match st with
    | .inl y :: .inr (.inl x) :: st => some (ls, pJ (x <<< (y.toInt64 &&& 63)) :: st)
    | _ => none
  | .lshr => match st with
    | .inl y :: .inr (.inl x) :: st => some (ls, pJ (x >>> (y.toInt64 &&& 63)) :: st)
    | _ => none
  | .lushr => match st with
    | .inl y :: .inr (.inl x) :: st => some (ls, pJ (x.toUInt64 >>> (y.toInt64.toUInt64 &&& Int64.toUInt64 63)).toInt64 :: st)
    | _ => none
  | .ineg => match st with
    | .inl x :: st => some (ls, pI (-x) :: st)
    | _ => none
  | .lneg => match st with
    | .inr (.inl x) :: st => some (ls, pJ (-x) :: st)
    | _ => none
  | .i2l => match st with
    | .inl x :: st => some (ls, pJ x.toInt64 :: st)
    | _ => none
  | .l2i => match st with
    | .inr (.inl x) :: st => some (ls, pI x.toInt32 :: st)
    | _ => none
  | .i2b => match st with
    | .inl x :: st => some (ls, pI x.toInt8.toInt32 :: st)
    | _ => none
  | .i2s => match st with
    | .inl x :: st => some (ls, pI x.toInt16.toInt32 :: st)
    | _ => none
  | .i2c => match st with
    | .inl x :: st => some (ls, pI (x.toUInt32 % 65536).toInt32 :: st)
    | _ => none
  | .l2d => match st with
    | .inr (.inl x) :: st => some (ls, pD (FP.l2d x) :: st)
    | _ => none
  | .l2f => match st with
    | .inr (.inl x) :: st => some (ls, pF (FP.l2f x) :: st)
    | _ => none
  | .lcmp => match st with
    | .inr (.inl y) :: .inr (.inl x) :: st => some (ls, pI (lg_cmp x y) :: st)
    | _ => none
  | .dcmp op => match st with
    | .inr (.inr (.inr (.inr y))) :: .inr (.inr (.inr (.inr x))) :: st => some (ls, pI (Op.cmpValue (FP.dcmp x y) op) :: st)
    | _ => none
  | .fcmp op => match st with
    | .inr (.inr (.inr (.inl y))) :: .inr (.inr (.inr (.inl x))) :: st => some (ls, pI (Op.cmpValue (FP.fcmp x y) op) :: st)
    | _ => none
  | .pop => match st with
    | v :: st => bq (Nat.beq (wd v) 1) (some (ls, st))
    | _ => none
  | .dup => match st with
    | v :: st => bq (Nat.beq (wd v) 1) (some (ls, v :: v :: st))
    | _ => none
  | .dup_x1 => match st with
    | v :: w :: st => bq (Nat.beq (wd v) 1) (bq (Nat.beq (wd w) 1) (some (ls, v :: w :: v :: st)))
    | _ => none
  | .dup2 => match st with
    | v :: w :: st => bq (Nat.beq (wd v) 1) (bq (Nat.beq (wd w) 1) (some (ls, v :: w :: v :: w :: st)))
    | _ => none
  | .getstatic _ => match ns with
    | j :: _ => some (ls, pR (sR M j) :: st)
    | _ => none
  | _ => none
/-- may this reference be put into this array of references -/
def okSt (M : Mem) (a : Nat) (v : Option Nat) : Prop := match v with
  | none => True
  | some b => (kd M a = 23 ∧ 1 ≤ kd M b ∧ kd M b ≤ 10) ∨ (kd M a = 24 ∧ kd M b = 5)
def okStD (M : Mem) (a : Nat) (v : Option Nat) : Decidable (okSt M a v) := match v with
  | none => isTrue trivial
  | some _ => inferInstanceAs (Decidable (_ ∨ _))
/-- System.arraycopy of longs, of references -/
def cpJ {α : Type} (x : Option Nat) (sp : Int32) (y : Option Nat) (dp n : Int32) (M : Mem) (f : Mem → Option α) : Option α := match x, y with
  | some a, some b => if kd M a = 21 ∧ kd M b = 21 ∧ ¬ sp < 0 ∧ ¬ dp < 0 ∧ ¬ n < 0 ∧ sp.toNatClampNeg + n.toNatClampNeg ≤ ln M a ∧ dp.toNatClampNeg + n.toNatClampNeg ≤ ln M b then
      f (uJ M b (va_cpy (aJ M a) (aJ M b) sp.toNatClampNeg dp.toNatClampNeg n.toNatClampNeg))
    else none
  | _, _ => none
def cpR {α : Type} (x : Option Nat) (sp : Int32) (y : Option Nat) (dp n : Int32) (M : Mem) (f : Mem → Option α) : Option α := match x, y with
  | some a, some b => if kd M a = 23 ∧ kd M b = 23 ∧ ¬ sp < 0 ∧ ¬ dp < 0 ∧ ¬ n < 0 ∧ sp.toNatClampNeg + n.toNatClampNeg ≤ ln M a ∧ dp.toNatClampNeg + n.toNatClampNeg ≤ ln M b then
      f (uR M b (va_cpy (aR M a) (aR M b) sp.toNatClampNeg dp.toNatClampNeg n.toNatClampNeg))
    else none
  | _, _ => none
/-- a clone of a row of longs -/
def cnJ {α : Type} (x : Option Nat) (M : Mem) (f : Nat → Mem → Option α) : Option α := match x with
  | some a => if kd M a = 21 then f (mT M) (uJ (nA M 21 (ln M a)) (mT M) (aJ M a)) else none
  | none => none
/-- what goes on behind a call, by what it answers -/
def clK (rk : Nat) (o : Option Rt) (pc : Nat) (ls : List (Option PV)) (st : List PV) (k : Kt) : Option Rt := match rk with
  | 0 => clV o fun M => k pc ls st M
  | 1 => clI o fun x M => k pc ls (pI x :: st) M
  | 2 => clJ o fun x M => k pc ls (pJ x :: st) M
  | _ => clR o fun x M => k pc ls (pR x :: st) M
/-- calls: numbers z (method), na (arguments), rk (0 nothing, 1 int, 2 long, 3 reference), mx (locals), rc (the receiver's kind; 100: none); 9000 and on: the machine's own -/
def invK (C : Nat → Nat → List PV → Mem → Option Rt) (k : Kt) (pc len : Nat) (ns : List Nat) (ls : List (Option PV)) (st : List PV) (M : Mem) : Option Rt :=
  match ns with
  | [z, na, rk, mx, 100] => match popN na st [] with
    | some (as, st) => bq (Nat.ble (wds st) 8) (clK rk (C z mx as M) (pc + len) ls st k)
    | none => none
  | [z, na, rk, mx, rc] => match popN na st [] with
    | some (.inr (.inr (.inl x)) :: as, st) => bq (Nat.ble (wds st) 8) (rd x rc M fun a => clK rk (C z mx (pR (some a) :: as) M) (pc + len) ls st k)
    | _ => none
  | [9000] => match st with
    | .inr (.inr (.inl x)) :: st => bq (Nat.ble (wds st) 8) (nn x (k (pc + len) ls st M))
    | _ => none
  | [9001] => match st with
    | .inl n :: .inl dp :: .inr (.inr (.inl y)) :: .inl sp :: .inr (.inr (.inl x)) :: st => bq (Nat.ble (wds st) 8) (cpJ x sp y dp n M fun M => k (pc + len) ls st M)
    | _ => none
  | [9002] => match st with
    | .inl n :: .inl dp :: .inr (.inr (.inl y)) :: .inl sp :: .inr (.inr (.inl x)) :: st => bq (Nat.ble (wds st) 8) (cpR x sp y dp n M fun M => k (pc + len) ls st M)
    | _ => none
  | [9003] => match st with
    | .inr (.inr (.inl x)) :: st => bq (Nat.ble (wds st) 8) (rd x 23 M fun _ => k (pc + len) ls (pR (sR M 5) :: st) M)
    | _ => none
  | [9004] => match st with
    | .inr (.inr (.inl x)) :: st => bq (Nat.ble (wds st) 8) (cnJ x M fun q M => k (pc + len) ls (pR (some q) :: st) M)
    | _ => none
  | [9005] => match st with
    | .inl x :: st => bq (Nat.ble (wds st) 8) (gd (vn_sni2f x = false) (k (pc + len) ls (pF x.toUInt32 :: st) M))
    | _ => none
  | [9006] => match st with
    | .inr (.inl x) :: st => bq (Nat.ble (wds st) 8) (gd (vn_snl2d x = false) (k (pc + len) ls (pD x.toUInt64 :: st) M))
    | _ => none
  | [9007] => match st with
    | .inr (.inr (.inr (.inr x))) :: st => bq (Nat.ble (wds st) 8) (k (pc + len) ls (pJ x.toInt64 :: st) M)
    | _ => none
  | [9008] => match st with
    | .inr (.inr (.inr (.inl x))) :: st => bq (Nat.ble (wds st) 8) (k (pc + len) ls (pI x.toInt32 :: st) M)
    | _ => none
  | _ => none
/-- one instruction: C calls a method (number, locals, arguments), k goes on -/
def stepK (C : Nat → Nat → List PV → Mem → Option Rt) (k : Kt) (ins : Instr) (len : Nat) (ns : List Nat) (cst : PV) (pc : Nat) (ls : List (Option PV)) (st : List PV) (M : Mem) : Option Rt :=
  match ins with
  | .irem => match st with
    | .inl y :: .inl x :: st => gd (¬ y = 0) (k (pc + len) ls (pI (x - x / y * y) :: st) M)
    | _ => none
  | .lrem => match st with
    | .inr (.inl y) :: .inr (.inl x) :: st => gd (¬ y = 0) (k (pc + len) ls (pJ (x - x / y * y) :: st) M)
    | _ => none
  | .f2d => match st with
    | .inr (.inr (.inr (.inl x))) :: st => gd (FP.f2d x &&& 0x7fffffffffffffff ≤ 0x7ff0000000000000) (k (pc + len) ls (pD (FP.f2d x) :: st) M)
    | _ => none
  | .ifCond cd off => match st with
    | .inl x :: st => match cd with
      | .eq => if x = 0 then k (tgt pc off) ls st M else k (pc + len) ls st M
      | .ne => if ¬ x = 0 then k (tgt pc off) ls st M else k (pc + len) ls st M
      | .lt => if x < 0 then k (tgt pc off) ls st M else k (pc + len) ls st M
      | .ge => if 0 ≤ x then k (tgt pc off) ls st M else k (pc + len) ls st M
      | .gt => if 0 < x then k (tgt pc off) ls st M else k (pc + len) ls st M
      | .le => if x ≤ 0 then k (tgt pc off) ls st M else k (pc + len) ls st M
    | _ => none
  | .if_icmp cd off => match st with
    | .inl y :: .inl x :: st => match cd with
      | .eq => if x = y then k (tgt pc off) ls st M else k (pc + len) ls st M
      | .ne => if ¬ x = y then k (tgt pc off) ls st M else k (pc + len) ls st M
      | .lt => if x < y then k (tgt pc off) ls st M else k (pc + len) ls st M
      | .ge => if y ≤ x then k (tgt pc off) ls st M else k (pc + len) ls st M
      | .gt => if y < x then k (tgt pc off) ls st M else k (pc + len) ls st M
      | .le => if x ≤ y then k (tgt pc off) ls st M else k (pc + len) ls st M
    | _ => none
  | .if_acmp cd off => match st with
    | .inr (.inr (.inl y)) :: .inr (.inr (.inl x)) :: st => match cd with
      | .eq => if x = y then k (tgt pc off) ls st M else k (pc + len) ls st M
      | .ne => if x = y then k (pc + len) ls st M else k (tgt pc off) ls st M
    | _ => none
  | .ifnull off => match st with
    | .inr (.inr (.inl x)) :: st => if x = none then k (tgt pc off) ls st M else k (pc + len) ls st M
    | _ => none
  | .ifnonnull off => match st with
    | .inr (.inr (.inl x)) :: st => if x = none then k (pc + len) ls st M else k (tgt pc off) ls st M
    | _ => none
  | .goto off => k (tgt pc off) ls st M
  | .tableswitch d lo _ offs => match st with
    | .inl x :: st => swK x pc ls st M k d lo offs.toList
    | _ => none
  | .getfield _ => match ns, st with
    | [c, key, 0], .inr (.inr (.inl x)) :: st => rd x c M fun a => k (pc + len) ls (pI (gI M key a) :: st) M
    | [c, key, 1], .inr (.inr (.inl x)) :: st => rd x c M fun a => k (pc + len) ls (pJ (gJ M key a) :: st) M
    | [c, key, 2], .inr (.inr (.inl x)) :: st => rd x c M fun a => k (pc + len) ls (pR (gR M key a) :: st) M
    | _, _ => none
  | .putfield _ => match ns, st with
    | [c, key, 0], .inl v :: .inr (.inr (.inl x)) :: st => rd x c M fun a => bd (sI M key a v) fun M => k (pc + len) ls st M
    | [c, key, 1], .inr (.inl v) :: .inr (.inr (.inl x)) :: st => rd x c M fun a => bd (sJ M key a v) fun M => k (pc + len) ls st M
    | [c, key, 2], .inr (.inr (.inl v)) :: .inr (.inr (.inl x)) :: st => rd x c M fun a => bd (sF M key a v) fun M => k (pc + len) ls st M
    | [c, key, 3], .inl v :: .inr (.inr (.inl x)) :: st => rd x c M fun a => zo v (bd (sI M key a v) fun M => k (pc + len) ls st M)
    | _, _ => none
  | .new _ => match ns with
    | [c, n] => bq (Nat.ble c 12) <| bd (nO M c n) fun M1 => k (pc + len) ls (pR (some (mT M)) :: st) M1
    | _ => none
  | .newarray _ => match ns, st with
    | [c], .inl n :: st => bq (Nat.ble 20 c) <| bq (Nat.ble c 24) <| gd (¬ n < 0 ∧ n.toNatClampNeg ≤ 60000000) (bd (nA M c n.toNatClampNeg) fun M1 => k (pc + len) ls (pR (some (mT M)) :: st) M1)
    | _, _ => none
  | .anewarray _ => match ns, st with
    | [c], .inl n :: st => bq (Nat.ble 20 c) <| bq (Nat.ble c 24) <| gd (¬ n < 0 ∧ n.toNatClampNeg ≤ 60000000) (bd (nA M c n.toNatClampNeg) fun M1 => k (pc + len) ls (pR (some (mT M)) :: st) M1)
    | _, _ => none
  | .arraylength => match st with
    | .inr (.inr (.inl x)) :: st => al x M fun a => k (pc + len) ls (pI (nI (ln M a)) :: st) M
    | _ => none
  | .iaload => match st with
    | .inl i :: .inr (.inr (.inl x)) :: st => ix 20 30 x i M fun a j => k (pc + len) ls (pI (aI M a j) :: st) M
    | _ => none
  | .laload => match st with
    | .inl i :: .inr (.inr (.inl x)) :: st => ix 21 21 x i M fun a j => k (pc + len) ls (pJ (aJ M a j) :: st) M
    | _ => none
  | .baload => match st with
    | .inl i :: .inr (.inr (.inl x)) :: st => ix 22 22 x i M fun a j => k (pc + len) ls (pI (aI M a j) :: st) M
    | _ => none
  | .aaload => match st with
    | .inl i :: .inr (.inr (.inl x)) :: st => ix 23 24 x i M fun a j => k (pc + len) ls (pR (aR M a j) :: st) M
    | _ => none
  | .iastore => match st with
    | .inl v :: .inl i :: .inr (.inr (.inl x)) :: st => ix 20 20 x i M fun a j => bd (wI M a j v) fun M => k (pc + len) ls st M
    | _ => none
  | .lastore => match st with
    | .inr (.inl v) :: .inl i :: .inr (.inr (.inl x)) :: st => ix 21 21 x i M fun a j => bd (wJ M a j v) fun M => k (pc + len) ls st M
    | _ => none
  | .bastore => match st with
    | .inl v :: .inl i :: .inr (.inr (.inl x)) :: st => ix 22 22 x i M fun a j => zo v (bd (wI M a j v) fun M => k (pc + len) ls st M)
    | _ => none
  | .aastore => match st with
    | .inr (.inr (.inl v)) :: .inl i :: .inr (.inr (.inl x)) :: st => ix 23 24 x i M fun a j => @ite _ (okSt M a v) (okStD M a v) (bd (wR M a j v) fun M => k (pc + len) ls st M) none
    | _ => none
  | .checkcast _ => match ns, st with
    | [c], .inr (.inr (.inl x)) :: st => ck x c M (k (pc + len) ls (pR x :: st) M)
    | _, _ => none
  | .invokevirtual _ => invK C k pc len ns ls st M
  | .invokestatic _ => invK C k pc len ns ls st M
  | .invokespecial _ => invK C k pc len ns ls st M
  | .ireturn => match ns, st with
    | [], [.inl x] => some (some (pI x), M)
    | _ :: _, [.inl x] => zo x (some (some (pI x), M))
    | _, _ => none
  | .lreturn => match st with
    | [.inr (.inl x)] => some (some (pJ x), M)
    | _ => none
  | .areturn => match st with
    | [.inr (.inr (.inl x))] => some (some (pR x), M)
    | _ => none
  | .return_ => match st with
    | [] => some (none, M)
    | _ => none
  | ins => match stepL ins ns cst ls st M with
    | some p => k (pc + len) p.1 p.2 M
    | none => none
end
section
/-! THE RUN: fuel, its limit, and the equation rn = one step of rn -/
abbrev Kp : Type := Nat → Kt
def one (P : Prg) (κ : Kp) (y pc : Nat) (ls : List (Option PV)) (st : List PV) (M : Mem) : Option Rt := match P y pc with
  | some e => stepK (fun z mx as M => κ z 0 (ent as mx) [] M) (κ y) e.1 e.2.1 e.2.2.1 e.2.2.2.1 pc (clrs e.2.2.2.2 ls) st M
  | none => none
def rnF (P : Prg) : Nat → Kp
  | 0 => fun _ _ _ _ _ => none
  | n + 1 => one P (rnF P n)
abbrev Qy : Type := Nat × Nat × List (Option PV) × List PV × Mem
def ask (κ : Kp) (q : Qy) : Option Rt := κ q.1 q.2.1 q.2.2.1 q.2.2.2.1 q.2.2.2.2
/-- a functional that asks finitely often -/
def Sup (F : Kp → Option Rt) : Prop := ∀ κ r, F κ = some r → ∃ qs : List (Qy × Rt), (∀ q ∈ qs, ask κ q.1 = some q.2) ∧ ∀ κ', (∀ q ∈ qs, ask κ' q.1 = some q.2) → F κ' = some r
theorem sup_const (x : Option Rt) : Sup (fun _ => x) := fun _ _ h => ⟨[], fun _ h => absurd h List.not_mem_nil, fun _ _ => h⟩
theorem sup_app (y pc : Nat) (ls : List (Option PV)) (st : List PV) (M : Mem) : Sup (fun κ => κ y pc ls st M) := fun κ r h =>
  ⟨[((y, pc, ls, st, M), r)], fun q hq => by cases List.mem_singleton.mp hq; exact h, fun κ' h' => h' _ (List.mem_singleton.mpr rfl)⟩
theorem sup_ite {p : Prop} [Decidable p] {F G : Kp → Option Rt} (hF : Sup F) (hG : Sup G) : Sup (fun κ => if p then F κ else G κ) := by
  by_cases h : p
  · simpa only [if_pos h] using hF
  · simpa only [if_neg h] using hG
theorem sup_itd {p : Prop} {d : Decidable p} {F G : Kp → Option Rt} (hF : Sup F) (hG : Sup G) : Sup (fun κ => @ite _ p d (F κ) (G κ)) := sup_ite hF hG
theorem sup_rd {r : Option Nat} {c : Nat} {M : Mem} {F : Nat → Kp → Option Rt} (h : ∀ a, Sup (F a)) : Sup (fun κ => rd r c M fun a => F a κ) := by
  cases r with
  | none => exact sup_const none
  | some a => exact sup_ite (h a) (sup_const none)
theorem sup_ix {c d : Nat} {r : Option Nat} {i : Int32} {M : Mem} {F : Nat → Nat → Kp → Option Rt} (h : ∀ a j, Sup (F a j)) : Sup (fun κ => ix c d r i M fun a j => F a j κ) := by
  cases r with
  | none => exact sup_const none
  | some a => exact sup_ite (h a _) (sup_const none)
theorem sup_al {r : Option Nat} {M : Mem} {F : Nat → Kp → Option Rt} (h : ∀ a, Sup (F a)) : Sup (fun κ => al r M fun a => F a κ) := by
  cases r with
  | none => exact sup_const none
  | some a => exact sup_ite (h a) (sup_const none)
theorem sup_ck {r : Option Nat} {c : Nat} {M : Mem} {F : Kp → Option Rt} (h : Sup F) : Sup (fun κ => ck r c M (F κ)) := by
  cases r with
  | none => exact h
  | some a => exact sup_ite h (sup_const none)
theorem sup_zo {x : Int32} {F : Kp → Option Rt} (h : Sup F) : Sup (fun κ => zo x (F κ)) := sup_ite h (sup_const none)
theorem sup_gd {p : Prop} [Decidable p] {F : Kp → Option Rt} (h : Sup F) : Sup (fun κ => gd p (F κ)) := sup_ite h (sup_const none)
theorem sup_bq {b : Bool} {F : Kp → Option Rt} (h : Sup F) : Sup (fun κ => bq b (F κ)) := by
  cases b with
  | false => exact sup_const none
  | true => exact h
theorem sup_two {O : Kp → Option Rt} (hO : Sup O) {G : Rt → Kp → Option Rt} (hG : ∀ x, Sup (G x)) : Sup (fun κ => match O κ with | some x => G x κ | none => none) := by
  intro κ r h
  cases ho : O κ with
  | none => simp [ho] at h
  | some x =>
    simp only [ho] at h
    obtain ⟨q1, a1, b1⟩ := hO κ x ho
    obtain ⟨q2, a2, b2⟩ := hG x κ r h
    refine ⟨q1 ++ q2, fun q hq => (List.mem_append.mp hq).elim (a1 q) (a2 q), fun κ' h' => ?_⟩
    simp only [b1 κ' (fun q hq => h' q (List.mem_append_left _ hq))]
    exact b2 κ' (fun q hq => h' q (List.mem_append_right _ hq))
theorem sup_clV {O : Kp → Option Rt} (hO : Sup O) {F : Mem → Kp → Option Rt} (h : ∀ M, Sup (F M)) : Sup (fun κ => clV (O κ) fun M => F M κ) := by
  have := sup_two hO (G := fun x κ => clV (some x) fun M => F M κ) (fun x => by rcases x with ⟨_ | x, M⟩; exact h M; exact sup_const none)
  refine cast (congrArg Sup (funext fun κ => ?_)) this
  cases O κ <;> rfl
theorem sup_clI {O : Kp → Option Rt} (hO : Sup O) {F : Int32 → Mem → Kp → Option Rt} (h : ∀ x M, Sup (F x M)) : Sup (fun κ => clI (O κ) fun x M => F x M κ) := by
  have := sup_two hO (G := fun x κ => clI (some x) fun x M => F x M κ) (fun x => by rcases x with ⟨_ | x | x | x | x | x, M⟩ <;> first | exact h _ M | exact sup_const none)
  refine cast (congrArg Sup (funext fun κ => ?_)) this
  cases O κ <;> rfl
theorem sup_clJ {O : Kp → Option Rt} (hO : Sup O) {F : Int64 → Mem → Kp → Option Rt} (h : ∀ x M, Sup (F x M)) : Sup (fun κ => clJ (O κ) fun x M => F x M κ) := by
  have := sup_two hO (G := fun x κ => clJ (some x) fun x M => F x M κ) (fun x => by rcases x with ⟨_ | x | x | x | x | x, M⟩ <;> first | exact h _ M | exact sup_const none)
  refine cast (congrArg Sup (funext fun κ => ?_)) this
  cases O κ <;> rfl
theorem sup_clR {O : Kp → Option Rt} (hO : Sup O) {F : Option Nat → Mem → Kp → Option Rt} (h : ∀ x M, Sup (F x M)) : Sup (fun κ => clR (O κ) fun x M => F x M κ) := by
  have := sup_two hO (G := fun x κ => clR (some x) fun x M => F x M κ) (fun x => by rcases x with ⟨_ | x | x | x | x | x, M⟩ <;> first | exact h _ M | exact sup_const none)
  refine cast (congrArg Sup (funext fun κ => ?_)) this
  cases O κ <;> rfl
theorem sup_clK (rk : Nat) {O : Kp → Option Rt} (hO : Sup O) (y pc : Nat) (ls : List (Option PV)) (st : List PV) : Sup (fun κ => clK rk (O κ) pc ls st (κ y)) := by
  rcases rk with _ | _ | _ | n
  · exact sup_clV hO fun M => sup_app y pc ls st M
  · exact sup_clI hO fun x M => sup_app y pc ls (pI x :: st) M
  · exact sup_clJ hO fun x M => sup_app y pc ls (pJ x :: st) M
  · exact sup_clR hO fun x M => sup_app y pc ls (pR x :: st) M
theorem sup_sw (y : Nat) (x : Int32) (pc : Nat) (ls : List (Option PV)) (st : List PV) (M : Mem) (d : Int) (os : List Int) : ∀ lo : Int, Sup (fun κ => swK x pc ls st M (κ y) d lo os) := by
  induction os with
  | nil => intro lo; exact sup_app y _ ls st M
  | cons o t ih => intro lo; exact sup_ite (sup_app y _ ls st M) (ih (lo + 1))
theorem sup_mt (y pc : Nat) (M : Mem) (o : Option (List (Option PV) × List PV)) : Sup (fun κ => match o with | some p => κ y pc p.1 p.2 M | none => none) := by
  cases o with
  | none => exact sup_const none
  | some p => exact sup_app y pc p.1 p.2 M
theorem sup_cp {α : Type} {p : Prop} [Decidable p] {M : α} {F : α → Kp → Option Rt} (h : Sup (F M)) : Sup (fun κ => if p then F M κ else none) := sup_ite h (sup_const none)
theorem sup_inv (y pc len : Nat) (ns : List Nat) (ls : List (Option PV)) (st : List PV) (M : Mem) : Sup (fun κ => invK (fun z mx as M => κ z 0 (ent as mx) [] M) (κ y) pc len ns ls st M) := by
  unfold invK
  split
  · split
    · exact sup_bq (sup_clK _ (sup_app _ _ _ _ _) y _ _ _)
    · exact sup_const none
  · split
    · exact sup_bq (sup_rd fun a => sup_clK _ (sup_app _ _ _ _ _) y _ _ _)
    · exact sup_const none
  all_goals try (split <;> try exact sup_const none)
  all_goals try exact sup_const none
  · rename_i x _; cases x with
    | none => exact sup_bq (sup_const none)
    | some a => exact sup_bq (sup_app y _ _ _ _)
  · rename_i a0 a1 yy a3 x a5; exact sup_bq (by rcases x with _ | a <;> rcases yy with _ | b <;> first | exact sup_const none | exact sup_ite (sup_app y _ _ _ _) (sup_const none))
  · rename_i a0 a1 yy a3 x a5; exact sup_bq (by rcases x with _ | a <;> rcases yy with _ | b <;> first | exact sup_const none | exact sup_ite (sup_app y _ _ _ _) (sup_const none))
  · exact sup_bq (sup_rd fun a => sup_app y _ _ _ _)
  · rename_i x _; exact sup_bq (by rcases x with _ | a <;> first | exact sup_const none | exact sup_ite (sup_app y _ _ _ _) (sup_const none))
  · exact sup_bq (sup_gd (sup_app y _ _ _ _))
  · exact sup_bq (sup_gd (sup_app y _ _ _ _))
  · exact sup_bq (sup_app y _ _ _ _)
  · exact sup_bq (sup_app y _ _ _ _)
theorem sup_step (y : Nat) (ins : Instr) (len : Nat) (ns : List Nat) (cst : PV) (pc : Nat) (ls : List (Option PV)) (st : List PV) (M : Mem) : Sup (fun κ => stepK (fun z mx as M => κ z 0 (ent as mx) [] M) (κ y) ins len ns cst pc ls st M) := by
  unfold stepK
  split
  all_goals try exact sup_inv y pc len ns ls st M
  all_goals try exact sup_mt y (pc + len) M _
  all_goals try (split <;> try exact sup_const none)
  all_goals try split
  all_goals first
    | exact sup_const _
    | exact sup_app y _ _ _ _
    | exact sup_ite (sup_app y _ _ _ _) (sup_app y _ _ _ _)
    | exact sup_gd (sup_app y _ _ _ _)
    | exact sup_bq (sup_app y _ _ _ _)
    | exact sup_bq (sup_bq (sup_gd (sup_app y _ _ _ _)))
    | exact sup_rd fun a => sup_app y _ _ _ _
    | exact sup_rd fun a => sup_zo (sup_app y _ _ _ _)
    | exact sup_ix fun a j => sup_app y _ _ _ _
    | exact sup_ix fun a j => sup_zo (sup_app y _ _ _ _)
    | exact sup_ix fun a j => sup_itd (sup_app y _ _ _ _) (sup_const none)
    | exact sup_al fun a => sup_app y _ _ _ _
    | exact sup_ck (sup_app y _ _ _ _)
    | exact sup_sw y _ pc ls _ M _ _ _
    | exact sup_zo (sup_const _)
theorem sup_one (P : Prg) (y pc : Nat) (ls : List (Option PV)) (st : List PV) (M : Mem) : Sup (fun κ => one P κ y pc ls st M) := by
  unfold one
  cases P y pc with
  | none => exact sup_const none
  | some e => exact sup_step y e.1 e.2.1 e.2.2.1 e.2.2.2.1 pc (clrs e.2.2.2.2 ls) st M
def Le (κ κ' : Kp) : Prop := ∀ q r, ask κ q = some r → ask κ' q = some r
theorem one_mono (P : Prg) {κ κ' : Kp} (h : Le κ κ') : Le (one P κ) (one P κ') := by
  intro q r hr
  obtain ⟨qs, a, b⟩ := sup_one P q.1 q.2.1 q.2.2.1 q.2.2.2.1 q.2.2.2.2 κ r hr
  exact b κ' fun x hx => h x.1 x.2 (a x hx)
theorem rnF_succ (P : Prg) : ∀ n, Le (rnF P n) (rnF P (n + 1))
  | 0 => fun q r h => by cases h
  | n + 1 => one_mono P (rnF_succ P n)
theorem rnF_le (P : Prg) {n m : Nat} (h : n ≤ m) : Le (rnF P n) (rnF P m) := by
  induction h with
  | refl => exact fun _ _ h => h
  | step _ ih => exact fun q r hr => rnF_succ P _ q r (ih q r hr)
noncomputable def rn (P : Prg) : Kp := fun y pc ls st M => @dite _ (∃ r, ∃ n, ask (rnF P n) (y, pc, ls, st, M) = some r) (Classical.propDecidable _) (fun h => some h.choose) (fun _ => none)
theorem rn_iff (P : Prg) (q : Qy) (r : Rt) : ask (rn P) q = some r ↔ ∃ n, ask (rnF P n) q = some r := by
  obtain ⟨y, pc, ls, st, M⟩ := q
  constructor
  · intro h
    by_cases hx : ∃ r, ∃ n, ask (rnF P n) (y, pc, ls, st, M) = some r
    · have h1 : ask (rn P) (y, pc, ls, st, M) = some hx.choose := dif_pos hx
      rw [h1] at h
      cases h
      exact hx.choose_spec
    · have h1 : ask (rn P) (y, pc, ls, st, M) = none := dif_neg hx
      rw [h1] at h
      cases h
  · rintro ⟨n, hn⟩
    have hx : ∃ r, ∃ n, ask (rnF P n) (y, pc, ls, st, M) = some r := ⟨r, n, hn⟩
    have h1 : ask (rn P) (y, pc, ls, st, M) = some hx.choose := dif_pos hx
    rw [h1]
    obtain ⟨k, hk⟩ := hx.choose_spec
    have e1 := rnF_le P (Nat.le_max_left n k) _ _ hn
    have e2 := rnF_le P (Nat.le_max_right n k) _ _ hk
    rw [e1] at e2
    exact e2.symm
theorem rnF_rn (P : Prg) (n : Nat) : Le (rnF P n) (rn P) := fun q r h => (rn_iff P q r).mpr ⟨n, h⟩
theorem all_at (P : Prg) (qs : List (Qy × Rt)) (h : ∀ q ∈ qs, ask (rn P) q.1 = some q.2) : ∃ n, ∀ q ∈ qs, ask (rnF P n) q.1 = some q.2 := by
  induction qs with
  | nil => exact ⟨0, fun _ h => absurd h List.not_mem_nil⟩
  | cons x t ih =>
    obtain ⟨n, hn⟩ := ih fun q hq => h q (List.mem_cons_of_mem _ hq)
    obtain ⟨k, hk⟩ := (rn_iff P x.1 x.2).mp (h x List.mem_cons_self)
    refine ⟨max n k, fun q hq => ?_⟩
    rcases List.mem_cons.mp hq with rfl | hq
    · exact rnF_le P (Nat.le_max_right n k) _ _ hk
    · exact rnF_le P (Nat.le_max_left n k) _ _ (hn q hq)
/-- THE EQUATION -/
theorem rn_eq (P : Prg) (y pc : Nat) (ls : List (Option PV)) (st : List PV) (M : Mem) : rn P y pc ls st M = one P (rn P) y pc ls st M := by
  apply Option.ext
  intro r
  constructor
  · intro h
    obtain ⟨n, hn⟩ := (rn_iff P (y, pc, ls, st, M) r).mp h
    cases n with
    | zero => cases hn
    | succ n => exact one_mono P (rnF_rn P n) (y, pc, ls, st, M) r hn
  · intro h
    obtain ⟨qs, a, b⟩ := sup_one P y pc ls st M (rn P) r h
    obtain ⟨n, hn⟩ := all_at P qs a
    exact (rn_iff P (y, pc, ls, st, M) r).mpr ⟨n + 1, b (rnF P n) hn⟩
theorem lset_lset (i j : Nat) : ∀ ls : List (Option PV), lset (lset ls i none) j none = lset (lset ls j none) i none := by
  induction i generalizing j with
  | zero => intro ls; cases ls <;> cases j <;> rfl
  | succ i ih =>
    intro ls
    cases ls with
    | nil => cases j <;> rfl
    | cons x t => cases j with
      | zero => rfl
      | succ j => exact congrArg (x :: ·) (ih j t)
theorem lset_id (i : Nat) : ∀ ls : List (Option PV), lset (lset ls i none) i none = lset ls i none := by
  induction i with
  | zero => intro ls; cases ls <;> rfl
  | succ i ih =>
    intro ls
    cases ls with
    | nil => rfl
    | cons x t => exact congrArg (x :: ·) (ih t)
theorem clrs_lset (ms : List Nat) : ∀ (i : Nat) (ls : List (Option PV)), clrs ms (lset ls i none) = lset (clrs ms ls) i none := by
  induction ms with
  | nil => intro i ls; rfl
  | cons j t ih =>
    intro i ls
    show clrs t (lset (lset ls i none) j none) = lset (clrs t (lset ls j none)) i none
    rw [lset_lset, ih]
theorem clrs_id (ms : List Nat) : ∀ ls : List (Option PV), clrs ms (clrs ms ls) = clrs ms ls := by
  induction ms with
  | nil => intro ls; rfl
  | cons j t ih =>
    intro ls
    show clrs t (lset (clrs t (lset ls j none)) j none) = clrs t (lset ls j none)
    rw [clrs_lset, clrs_lset, clrs_lset, ih, lset_id]
def msk (P : Prg) (y pc : Nat) : List Nat := match P y pc with
  | some e => e.2.2.2.2
  | none => []
theorem rn_clr (P : Prg) (y pc : Nat) (ls : List (Option PV)) (st : List PV) (M : Mem) : rn P y pc (clrs (msk P y pc) ls) st M = rn P y pc ls st M := by
  rw [rn_eq, rn_eq P y pc ls]
  unfold one msk
  cases P y pc with
  | none => rfl
  | some e => dsimp only; rw [clrs_id]
/-- unrolled: up to n instructions on, ending early ahead of the places in 'stops' -/
noncomputable def un (P : Prg) (stops : List Nat) (y n : Nat) : Kt := Nat.rec (motive := fun _ => Kt) (rn P y) (fun _ u => fun pc ls st M => match stops.any (Nat.beq pc) with
    | true => cmk (msk P y pc) ls fun ls => rn P y pc ls st M
    | false => match P y pc with
      | some e => cmk e.2.2.2.2 ls fun ls => stepK (fun z mx as M => rn P z 0 (ent as mx) [] M) u e.1 e.2.1 e.2.2.1 e.2.2.2.1 pc ls st M
      | none => none) n
theorem un_eq (P : Prg) (stops : List Nat) (y : Nat) : ∀ n, un P stops y n = rn P y
  | 0 => rfl
  | n + 1 => by
    funext pc ls st M
    show (match stops.any (Nat.beq pc) with | true => cmk (msk P y pc) ls fun ls => rn P y pc ls st M | false => match P y pc with | some e => cmk e.2.2.2.2 ls fun ls => stepK (fun z mx as M => rn P z 0 (ent as mx) [] M) (un P stops y n) e.1 e.2.1 e.2.2.1 e.2.2.2.1 pc ls st M | none => none) = _
    rw [un_eq P stops y n]
    cases stops.any (Nat.beq pc) with
    | true => exact (cmk_eq _ _ _).trans (rn_clr P y pc ls st M)
    | false =>
      rw [rn_eq P y pc ls st M]
      unfold one
      cases P y pc with
      | none => rfl
      | some e => dsimp only; rw [cmk_eq]
/-- the first instruction, then unrolled -/
noncomputable def un1 (P : Prg) (stops : List Nat) (y n : Nat) : Kt := fun pc ls st M => match P y pc with
      | some e => cmk e.2.2.2.2 ls fun ls => stepK (fun z mx as M => rn P z 0 (ent as mx) [] M) (un P stops y n) e.1 e.2.1 e.2.2.1 e.2.2.2.1 pc ls st M
      | none => none
theorem rn_un (P : Prg) (stops : List Nat) (y n pc : Nat) (ls : List (Option PV)) (st : List PV) (M : Mem) : rn P y pc ls st M = un1 P stops y n pc ls st M := by
  unfold un1
  rw [un_eq P stops y n, rn_eq P y pc ls st M]
  unfold one
  cases P y pc with
  | none => rfl
  | some e => dsimp only; rw [cmk_eq]
end
section
/-! tables: classes, methods, links with their places among the words; printed by wip/whole/gen/gen_tables.py -/
def cT0 : u_T := fun k => match k with
  | 0 => ("java/util/AbstractList", "modCount", "I", false)
  | 1 => ("java/util/ArrayList", "elementData", "[Ljava/lang/Object;", false)
  | _ => ("java/util/ArrayList", "size", "I", false)
def cY0 : Nat → FieldType := fun k => match k with
  | 0 => .int
  | 1 => .array (.object "java/lang/Object")
  | _ => .int
theorem cN0_ok : ∀ a, a < 3 → ∀ b, b < 3 → a ≠ b → (cT0 a).2.1 ≠ (cT0 b).2.1 := by decide +kernel
theorem cY0_ok : ∀ k, k < 3 → parseFieldDescriptor (cT0 k).2.2.1 = some (cY0 k) := by decide +kernel
theorem cW0_ok : ∀ w ∈ u_ws "java/util/ArrayList" cT0 3, w ∈ lw_tbl := by
  have h : u_ws "java/util/ArrayList" cT0 3 = [140, 136, 138].filterMap (fun i => lw_tbl[i]?) := by decide +kernel
  intro w hw
  rw [h] at hw
  obtain ⟨i, -, hi⟩ := List.mem_filterMap.mp hw
  exact List.mem_of_getElem? hi
def cT1 : u_T := fun k => match k with
  | 0 => ("FamilyFields$Check", "part", "I", false)
  | 1 => ("FamilyFields$Check", "kind", "I", true)
  | 2 => ("FamilyFields$Check", "a", "J", true)
  | _ => ("FamilyFields$Check", "b", "J", true)
def cY1 : Nat → FieldType := fun k => match k with
  | 0 => .int
  | 1 => .int
  | 2 => .long
  | _ => .long
theorem cN1_ok : ∀ a, a < 4 → ∀ b, b < 4 → a ≠ b → (cT1 a).2.1 ≠ (cT1 b).2.1 := by decide +kernel
theorem cY1_ok : ∀ k, k < 4 → parseFieldDescriptor (cT1 k).2.2.1 = some (cY1 k) := by decide +kernel
theorem cW1_ok : ∀ w ∈ u_ws "FamilyFields$Check" cT1 4, w ∈ lw_tbl := by
  have h : u_ws "FamilyFields$Check" cT1 4 = [556, 558, 560, 562].filterMap (fun i => lw_tbl[i]?) := by decide +kernel
  intro w hw
  rw [h] at hw
  obtain ⟨i, -, hi⟩ := List.mem_filterMap.mp hw
  exact List.mem_of_getElem? hi
def cT2 : u_T := fun k => match k with
  | 0 => ("FamilyFields$Constant", "name", "J", true)
  | _ => ("FamilyFields$Constant", "bodied", "Z", true)
def cY2 : Nat → FieldType := fun k => match k with
  | 0 => .long
  | _ => .boolean
theorem cN2_ok : ∀ a, a < 2 → ∀ b, b < 2 → a ≠ b → (cT2 a).2.1 ≠ (cT2 b).2.1 := by decide +kernel
theorem cY2_ok : ∀ k, k < 2 → parseFieldDescriptor (cT2 k).2.2.1 = some (cY2 k) := by decide +kernel
theorem cW2_ok : ∀ w ∈ u_ws "FamilyFields$Constant" cT2 2, w ∈ lw_tbl := by
  have h : u_ws "FamilyFields$Constant" cT2 2 = [341, 343].filterMap (fun i => lw_tbl[i]?) := by decide +kernel
  intro w hw
  rw [h] at hw
  obtain ⟨i, -, hi⟩ := List.mem_filterMap.mp hw
  exact List.mem_of_getElem? hi
def cT3 : u_T := fun k => match k with
  | 0 => ("FamilyFields$Enumeration", "constants", "Ljava/util/ArrayList;", true)
  | 1 => ("FamilyFields$Enumeration", "failing", "Z", false)
  | 2 => ("FamilyFields$Enumeration", "started", "Z", false)
  | _ => ("FamilyFields$Enumeration", "broken", "Z", false)
def cY3 : Nat → FieldType := fun k => match k with
  | 0 => .object "java/util/ArrayList"
  | 1 => .boolean
  | 2 => .boolean
  | _ => .boolean
theorem cN3_ok : ∀ a, a < 4 → ∀ b, b < 4 → a ≠ b → (cT3 a).2.1 ≠ (cT3 b).2.1 := by decide +kernel
theorem cY3_ok : ∀ k, k < 4 → parseFieldDescriptor (cT3 k).2.2.1 = some (cY3 k) := by decide +kernel
theorem cW3_ok : ∀ w ∈ u_ws "FamilyFields$Enumeration" cT3 4, w ∈ lw_tbl := by
  have h : u_ws "FamilyFields$Enumeration" cT3 4 = [226, 228, 230, 232].filterMap (fun i => lw_tbl[i]?) := by decide +kernel
  intro w hw
  rw [h] at hw
  obtain ⟨i, -, hi⟩ := List.mem_filterMap.mp hw
  exact List.mem_of_getElem? hi
def cT4 : u_T := fun k => match k with
  | 0 => ("FamilyFields$Family", "members", "[I", true)
  | 1 => ("FamilyFields$Family", "memberCount", "I", false)
  | 2 => ("FamilyFields$Family", "leaves", "[I", true)
  | _ => ("FamilyFields$Family", "leafCount", "I", false)
def cY4 : Nat → FieldType := fun k => match k with
  | 0 => .array (.int)
  | 1 => .int
  | 2 => .array (.int)
  | _ => .int
theorem cN4_ok : ∀ a, a < 4 → ∀ b, b < 4 → a ≠ b → (cT4 a).2.1 ≠ (cT4 b).2.1 := by decide +kernel
theorem cY4_ok : ∀ k, k < 4 → parseFieldDescriptor (cT4 k).2.2.1 = some (cY4 k) := by decide +kernel
theorem cW4_ok : ∀ w ∈ u_ws "FamilyFields$Family" cT4 4, w ∈ lw_tbl := by
  have h : u_ws "FamilyFields$Family" cT4 4 = [392, 394, 396, 398].filterMap (fun i => lw_tbl[i]?) := by decide +kernel
  intro w hw
  rw [h] at hw
  obtain ⟨i, -, hi⟩ := List.mem_filterMap.mp hw
  exact List.mem_of_getElem? hi
def cT5 : u_T := fun k => match k with
  | 0 => ("FamilyFields$KeptPart", "name", "J", true)
  | 1 => ("FamilyFields$KeptPart", "sort", "I", true)
  | 2 => ("FamilyFields$KeptPart", "of", "I", true)
  | 3 => ("FamilyFields$KeptPart", "bits", "J", true)
  | 4 => ("FamilyFields$KeptPart", "held", "[J", true)
  | _ => ("FamilyFields$KeptPart", "loadedRow", "I", false)
def cY5 : Nat → FieldType := fun k => match k with
  | 0 => .long
  | 1 => .int
  | 2 => .int
  | 3 => .long
  | 4 => .array (.long)
  | _ => .int
theorem cN5_ok : ∀ a, a < 6 → ∀ b, b < 6 → a ≠ b → (cT5 a).2.1 ≠ (cT5 b).2.1 := by decide +kernel
theorem cY5_ok : ∀ k, k < 6 → parseFieldDescriptor (cT5 k).2.2.1 = some (cY5 k) := by decide +kernel
theorem cW5_ok : ∀ w ∈ u_ws "FamilyFields$KeptPart" cT5 6, w ∈ lw_tbl := by
  have h : u_ws "FamilyFields$KeptPart" cT5 6 = [882, 884, 886, 888, 890, 892].filterMap (fun i => lw_tbl[i]?) := by decide +kernel
  intro w hw
  rw [h] at hw
  obtain ⟨i, -, hi⟩ := List.mem_filterMap.mp hw
  exact List.mem_of_getElem? hi
def cT6 : u_T := fun k => match k with
  | 0 => ("FamilyFields$Line", "record", "I", true)
  | 1 => ("FamilyFields$Line", "build", "I", true)
  | 2 => ("FamilyFields$Line", "parts", "[LFamilyFields$KeptPart;", true)
  | 3 => ("FamilyFields$Line", "values", "[J", true)
  | 4 => ("FamilyFields$Line", "filled", "I", false)
  | 5 => ("FamilyFields$Line", "loaded", "I", false)
  | _ => ("FamilyFields$Line", "found", "Z", false)
def cY6 : Nat → FieldType := fun k => match k with
  | 0 => .int
  | 1 => .int
  | 2 => .array (.object "FamilyFields$KeptPart")
  | 3 => .array (.long)
  | 4 => .int
  | 5 => .int
  | _ => .boolean
theorem cN6_ok : ∀ a, a < 7 → ∀ b, b < 7 → a ≠ b → (cT6 a).2.1 ≠ (cT6 b).2.1 := by decide +kernel
theorem cY6_ok : ∀ k, k < 7 → parseFieldDescriptor (cT6 k).2.2.1 = some (cY6 k) := by decide +kernel
theorem cW6_ok : ∀ w ∈ u_ws "FamilyFields$Line" cT6 7, w ∈ lw_tbl := by
  have h : u_ws "FamilyFields$Line" cT6 7 = [930, 932, 934, 936, 938, 940, 942].filterMap (fun i => lw_tbl[i]?) := by decide +kernel
  intro w hw
  rw [h] at hw
  obtain ⟨i, -, hi⟩ := List.mem_filterMap.mp hw
  exact List.mem_of_getElem? hi
def cT7 : u_T := fun k => match k with
  | 0 => ("FamilyFields$Made", "record", "I", false)
  | 1 => ("FamilyFields$Made", "values", "[J", true)
  | 2 => ("FamilyFields$Made", "twin", "I", false)
  | 3 => ("FamilyFields$Made", "line", "I", false)
  | _ => ("FamilyFields$Made", "wanted", "Z", false)
def cY7 : Nat → FieldType := fun k => match k with
  | 0 => .int
  | 1 => .array (.long)
  | 2 => .int
  | 3 => .int
  | _ => .boolean
theorem cN7_ok : ∀ a, a < 5 → ∀ b, b < 5 → a ≠ b → (cT7 a).2.1 ≠ (cT7 b).2.1 := by decide +kernel
theorem cY7_ok : ∀ k, k < 5 → parseFieldDescriptor (cT7 k).2.2.1 = some (cY7 k) := by decide +kernel
theorem cW7_ok : ∀ w ∈ u_ws "FamilyFields$Made" cT7 5, w ∈ lw_tbl := by
  have h : u_ws "FamilyFields$Made" cT7 5 = [753, 755, 757, 759, 761].filterMap (fun i => lw_tbl[i]?) := by decide +kernel
  intro w hw
  rw [h] at hw
  obtain ⟨i, -, hi⟩ := List.mem_filterMap.mp hw
  exact List.mem_of_getElem? hi
def cT8 : u_T := fun k => match k with
  | 0 => ("FamilyFields$Part", "name", "J", true)
  | 1 => ("FamilyFields$Part", "sort", "I", true)
  | 2 => ("FamilyFields$Part", "of", "I", true)
  | _ => ("FamilyFields$Part", "standard", "J", true)
def cY8 : Nat → FieldType := fun k => match k with
  | 0 => .long
  | 1 => .int
  | 2 => .int
  | _ => .long
theorem cN8_ok : ∀ a, a < 4 → ∀ b, b < 4 → a ≠ b → (cT8 a).2.1 ≠ (cT8 b).2.1 := by decide +kernel
theorem cY8_ok : ∀ k, k < 4 → parseFieldDescriptor (cT8 k).2.2.1 = some (cY8 k) := by decide +kernel
theorem cW8_ok : ∀ w ∈ u_ws "FamilyFields$Part" cT8 4, w ∈ lw_tbl := by
  have h : u_ws "FamilyFields$Part" cT8 4 = [504, 506, 508, 510].filterMap (fun i => lw_tbl[i]?) := by decide +kernel
  intro w hw
  rw [h] at hw
  obtain ⟨i, -, hi⟩ := List.mem_filterMap.mp hw
  exact List.mem_of_getElem? hi
def cT9 : u_T := fun k => match k with
  | 0 => ("FamilyFields$RecordType", "parts", "Ljava/util/ArrayList;", true)
  | 1 => ("FamilyFields$RecordType", "checks", "Ljava/util/ArrayList;", true)
  | _ => ("FamilyFields$RecordType", "started", "Z", false)
def cY9 : Nat → FieldType := fun k => match k with
  | 0 => .object "java/util/ArrayList"
  | 1 => .object "java/util/ArrayList"
  | _ => .boolean
theorem cN9_ok : ∀ a, a < 3 → ∀ b, b < 3 → a ≠ b → (cT9 a).2.1 ≠ (cT9 b).2.1 := by decide +kernel
theorem cY9_ok : ∀ k, k < 3 → parseFieldDescriptor (cT9 k).2.2.1 = some (cY9 k) := by decide +kernel
theorem cW9_ok : ∀ w ∈ u_ws "FamilyFields$RecordType" cT9 3, w ∈ lw_tbl := by
  have h : u_ws "FamilyFields$RecordType" cT9 3 = [447, 449, 451].filterMap (fun i => lw_tbl[i]?) := by decide +kernel
  intro w hw
  rw [h] at hw
  obtain ⟨i, -, hi⟩ := List.mem_filterMap.mp hw
  exact List.mem_of_getElem? hi
def cT10 : u_T := fun k => match k with
  | 0 => ("FamilyFields$Row", "lane", "I", false)
  | 1 => ("FamilyFields$Row", "itemCount", "I", false)
  | _ => ("FamilyFields$Row", "items", "[J", true)
def cY10 : Nat → FieldType := fun k => match k with
  | 0 => .int
  | 1 => .int
  | _ => .array (.long)
theorem cN10_ok : ∀ a, a < 3 → ∀ b, b < 3 → a ≠ b → (cT10 a).2.1 ≠ (cT10 b).2.1 := by decide +kernel
theorem cY10_ok : ∀ k, k < 3 → parseFieldDescriptor (cT10 k).2.2.1 = some (cY10 k) := by decide +kernel
theorem cW10_ok : ∀ w ∈ u_ws "FamilyFields$Row" cT10 3, w ∈ lw_tbl := by
  have h : u_ws "FamilyFields$Row" cT10 3 = [601, 603, 605].filterMap (fun i => lw_tbl[i]?) := by decide +kernel
  intro w hw
  rw [h] at hw
  obtain ⟨i, -, hi⟩ := List.mem_filterMap.mp hw
  exact List.mem_of_getElem? hi
def cT11 : u_T := fun k => match k with
  | 0 => ("FamilyFields", "enumerations", "Ljava/util/ArrayList;", true)
  | 1 => ("FamilyFields", "records", "Ljava/util/ArrayList;", true)
  | 2 => ("FamilyFields", "families", "Ljava/util/ArrayList;", true)
  | 3 => ("FamilyFields", "rows", "Ljava/util/ArrayList;", true)
  | 4 => ("FamilyFields", "rowCount", "I", false)
  | 5 => ("FamilyFields", "rowsByCall", "I", false)
  | 6 => ("FamilyFields", "objects", "Ljava/util/ArrayList;", true)
  | 7 => ("FamilyFields", "objectCount", "I", false)
  | 8 => ("FamilyFields", "madeByCall", "I", false)
  | 9 => ("FamilyFields", "twinCount", "I", false)
  | 10 => ("FamilyFields", "startOrder", "[I", true)
  | 11 => ("FamilyFields", "startCount", "I", false)
  | 12 => ("FamilyFields", "draft", "[J", true)
  | 13 => ("FamilyFields", "shapedDraft", "[J", true)
  | 14 => ("FamilyFields", "causes", "[I", true)
  | 15 => ("FamilyFields", "lines", "Ljava/util/ArrayList;", true)
  | 16 => ("FamilyFields", "open", "[I", true)
  | 17 => ("FamilyFields", "buildNumber", "I", false)
  | _ => ("FamilyFields", "leftOut", "I", false)
def cY11 : Nat → FieldType := fun k => match k with
  | 0 => .object "java/util/ArrayList"
  | 1 => .object "java/util/ArrayList"
  | 2 => .object "java/util/ArrayList"
  | 3 => .object "java/util/ArrayList"
  | 4 => .int
  | 5 => .int
  | 6 => .object "java/util/ArrayList"
  | 7 => .int
  | 8 => .int
  | 9 => .int
  | 10 => .array (.int)
  | 11 => .int
  | 12 => .array (.long)
  | 13 => .array (.long)
  | 14 => .array (.int)
  | 15 => .object "java/util/ArrayList"
  | 16 => .array (.int)
  | 17 => .int
  | _ => .int
theorem cN11_ok : ∀ a, a < 19 → ∀ b, b < 19 → a ≠ b → (cT11 a).2.1 ≠ (cT11 b).2.1 := by decide +kernel
theorem cY11_ok : ∀ k, k < 19 → parseFieldDescriptor (cT11 k).2.2.1 = some (cY11 k) := by decide +kernel
theorem cW11_ok : ∀ w ∈ u_ws "FamilyFields" cT11 19, w ∈ lw_tbl := by
  have h : u_ws "FamilyFields" cT11 19 = [162, 164, 166, 168, 170, 172, 174, 176, 178, 180, 182, 184, 186, 188, 190, 192, 194, 196, 198].filterMap (fun i => lw_tbl[i]?) := by decide +kernel
  intro w hw
  rw [h] at hw
  obtain ⟨i, -, hi⟩ := List.mem_filterMap.mp hw
  exact List.mem_of_getElem? hi
def cT12 : u_T := fun k => match k with
  | 0 => ("FamilyFieldsModel", "enums", "I", false)
  | 1 => ("FamilyFieldsModel", "constants", "[I", true)
  | 2 => ("FamilyFieldsModel", "names", "[J", true)
  | 3 => ("FamilyFieldsModel", "bodied", "[Z", true)
  | 4 => ("FamilyFieldsModel", "isToFail", "[Z", true)
  | 5 => ("FamilyFieldsModel", "records", "I", false)
  | 6 => ("FamilyFieldsModel", "parts", "[I", true)
  | 7 => ("FamilyFieldsModel", "partNames", "[J", true)
  | 8 => ("FamilyFieldsModel", "sorts", "[I", true)
  | 9 => ("FamilyFieldsModel", "ofs", "[I", true)
  | 10 => ("FamilyFieldsModel", "standards", "[J", true)
  | 11 => ("FamilyFieldsModel", "checks", "[I", true)
  | 12 => ("FamilyFieldsModel", "checkPart", "[I", true)
  | 13 => ("FamilyFieldsModel", "checkKind", "[I", true)
  | 14 => ("FamilyFieldsModel", "checkA", "[J", true)
  | 15 => ("FamilyFieldsModel", "checkB", "[J", true)
  | 16 => ("FamilyFieldsModel", "families", "I", false)
  | 17 => ("FamilyFieldsModel", "members", "[I", true)
  | 18 => ("FamilyFieldsModel", "memberOf", "[I", true)
  | 19 => ("FamilyFieldsModel", "leaf", "[I", true)
  | 20 => ("FamilyFieldsModel", "leaves", "I", false)
  | 21 => ("FamilyFieldsModel", "waits", "[I", true)
  | 22 => ("FamilyFieldsModel", "build", "I", false)
  | 23 => ("FamilyFieldsModel", "objects", "I", false)
  | 24 => ("FamilyFieldsModel", "objectsMade", "I", false)
  | 25 => ("FamilyFieldsModel", "rows", "I", false)
  | 26 => ("FamilyFieldsModel", "rowsMade", "I", false)
  | 27 => ("FamilyFieldsModel", "hasStarted", "[Z", true)
  | 28 => ("FamilyFieldsModel", "hasFailed", "[Z", true)
  | 29 => ("FamilyFieldsModel", "order", "[I", true)
  | 30 => ("FamilyFieldsModel", "ordered", "I", false)
  | 31 => ("FamilyFieldsModel", "lanes", "[I", true)
  | 32 => ("FamilyFieldsModel", "sizes", "[I", true)
  | 33 => ("FamilyFieldsModel", "items", "[J", true)
  | 34 => ("FamilyFieldsModel", "recordOf", "[I", true)
  | 35 => ("FamilyFieldsModel", "values", "[J", true)
  | 36 => ("FamilyFieldsModel", "lineOf", "[I", true)
  | 37 => ("FamilyFieldsModel", "draft", "[J", true)
  | 38 => ("FamilyFieldsModel", "now", "[J", true)
  | 39 => ("FamilyFieldsModel", "causeCode", "I", false)
  | 40 => ("FamilyFieldsModel", "causeRecord", "I", false)
  | 41 => ("FamilyFieldsModel", "causePart", "I", false)
  | 42 => ("FamilyFieldsModel", "causeCheck", "I", false)
  | 43 => ("FamilyFieldsModel", "causeLine", "I", false)
  | 44 => ("FamilyFieldsModel", "like", "[I", true)
  | 45 => ("FamilyFieldsModel", "lines", "I", false)
  | 46 => ("FamilyFieldsModel", "lineRecord", "[I", true)
  | 47 => ("FamilyFieldsModel", "lineBuild", "[I", true)
  | 48 => ("FamilyFieldsModel", "lineParts", "[I", true)
  | 49 => ("FamilyFieldsModel", "keptName", "[J", true)
  | 50 => ("FamilyFieldsModel", "keptSort", "[I", true)
  | 51 => ("FamilyFieldsModel", "keptOf", "[I", true)
  | 52 => ("FamilyFieldsModel", "keptValue", "[J", true)
  | 53 => ("FamilyFieldsModel", "keptWords", "[J", true)
  | 54 => ("FamilyFieldsModel", "keptMany", "[I", true)
  | 55 => ("FamilyFieldsModel", "loaded", "[I", true)
  | 56 => ("FamilyFieldsModel", "rowOf", "[I", true)
  | 57 => ("FamilyFieldsModel", "pile", "[I", true)
  | 58 => ("FamilyFieldsModel", "place", "[I", true)
  | 59 => ("FamilyFieldsModel", "isMet", "[Z", true)
  | 60 => ("FamilyFieldsModel", "leftOut", "I", false)
  | 61 => ("FamilyFieldsModel", "come", "[J", true)
  | _ => ("FamilyFieldsModel", "brought", "J", false)
def cY12 : Nat → FieldType := fun k => match k with
  | 0 => .int
  | 1 => .array (.int)
  | 2 => .array (.long)
  | 3 => .array (.boolean)
  | 4 => .array (.boolean)
  | 5 => .int
  | 6 => .array (.int)
  | 7 => .array (.long)
  | 8 => .array (.int)
  | 9 => .array (.int)
  | 10 => .array (.long)
  | 11 => .array (.int)
  | 12 => .array (.int)
  | 13 => .array (.int)
  | 14 => .array (.long)
  | 15 => .array (.long)
  | 16 => .int
  | 17 => .array (.int)
  | 18 => .array (.int)
  | 19 => .array (.int)
  | 20 => .int
  | 21 => .array (.int)
  | 22 => .int
  | 23 => .int
  | 24 => .int
  | 25 => .int
  | 26 => .int
  | 27 => .array (.boolean)
  | 28 => .array (.boolean)
  | 29 => .array (.int)
  | 30 => .int
  | 31 => .array (.int)
  | 32 => .array (.int)
  | 33 => .array (.long)
  | 34 => .array (.int)
  | 35 => .array (.long)
  | 36 => .array (.int)
  | 37 => .array (.long)
  | 38 => .array (.long)
  | 39 => .int
  | 40 => .int
  | 41 => .int
  | 42 => .int
  | 43 => .int
  | 44 => .array (.int)
  | 45 => .int
  | 46 => .array (.int)
  | 47 => .array (.int)
  | 48 => .array (.int)
  | 49 => .array (.long)
  | 50 => .array (.int)
  | 51 => .array (.int)
  | 52 => .array (.long)
  | 53 => .array (.long)
  | 54 => .array (.int)
  | 55 => .array (.int)
  | 56 => .array (.int)
  | 57 => .array (.int)
  | 58 => .array (.int)
  | 59 => .array (.boolean)
  | 60 => .int
  | 61 => .array (.long)
  | _ => .long
theorem cN12_ok : ∀ a, a < 63 → ∀ b, b < 63 → a ≠ b → (cT12 a).2.1 ≠ (cT12 b).2.1 := by decide +kernel
theorem cY12_ok : ∀ k, k < 63 → parseFieldDescriptor (cT12 k).2.2.1 = some (cY12 k) := by decide +kernel
theorem cW12_ok : ∀ w ∈ u_ws "FamilyFieldsModel" cT12 63, w ∈ lw_tbl := by
  have h : u_ws "FamilyFieldsModel" cT12 63 = [1112, 1114, 1116, 1118, 1120, 1122, 1124, 1126, 1128, 1130, 1132, 1134, 1136, 1138, 1140, 1142, 1144, 1146, 1148, 1150, 1152, 1154, 1156, 1158, 1160, 1162, 1164, 1166, 1168, 1170, 1172, 1174, 1176, 1178, 1180, 1182, 1184, 1186, 1188, 1190, 1192, 1194, 1196, 1198, 1200, 1202, 1204, 1206, 1208, 1210, 1212, 1214, 1216, 1218, 1220, 1222, 1224, 1226, 1228, 1230, 1232, 1234, 1236].filterMap (fun i => lw_tbl[i]?) := by decide +kernel
  intro w hw
  rw [h] at hw
  obtain ⟨i, -, hi⟩ := List.mem_filterMap.mp hw
  exact List.mem_of_getElem? hi
abbrev cls13 : List vw_C := [("java/util/ArrayList", cT0, 3), ("FamilyFields$Check", cT1, 4), ("FamilyFields$Constant", cT2, 2), ("FamilyFields$Enumeration", cT3, 4), ("FamilyFields$Family", cT4, 4), ("FamilyFields$KeptPart", cT5, 6), ("FamilyFields$Line", cT6, 7), ("FamilyFields$Made", cT7, 5), ("FamilyFields$Part", cT8, 4), ("FamilyFields$RecordType", cT9, 3), ("FamilyFields$Row", cT10, 3), ("FamilyFields", cT11, 19), ("FamilyFieldsModel", cT12, 63)]
/-- how many fields; a field's row; its sort (0 int, 1 long, 2 reference, 3 boolean) -/
def nfl (c : Nat) : Nat := [3, 4, 2, 4, 4, 6, 7, 5, 4, 3, 3, 19, 63].getD c 0
def fT (c : Nat) : u_T := [cT0, cT1, cT2, cT3, cT4, cT5, cT6, cT7, cT8, cT9, cT10, cT11, cT12].getD c cT0
def fY (c : Nat) : Nat → FieldType := [cY0, cY1, cY2, cY3, cY4, cY5, cY6, cY7, cY8, cY9, cY10, cY11, cY12].getD c cY0
def fS (c k : Nat) : Nat := ([[0, 2, 0], [0, 0, 1, 1], [1, 3], [2, 3, 3, 3], [2, 0, 2, 0], [1, 0, 0, 1, 2, 0], [0, 0, 2, 2, 0, 0, 3], [0, 2, 0, 0, 3], [1, 0, 0, 1], [2, 2, 3], [0, 0, 2], [2, 2, 2, 2, 0, 0, 2, 0, 0, 0, 2, 0, 2, 2, 2, 2, 2, 0, 0], [0, 2, 2, 2, 2, 0, 2, 2, 2, 2, 2, 2, 2, 2, 2, 2, 0, 2, 2, 2, 0, 2, 0, 0, 0, 0, 0, 2, 2, 2, 0, 2, 2, 2, 2, 2, 2, 2, 2, 0, 0, 0, 0, 0, 2, 0, 2, 2, 2, 2, 2, 2, 2, 2, 2, 2, 2, 2, 2, 2, 0, 2, 1]].getD c []).getD k 0
def cnm (i : Nat) : String := ["java/util/ArrayList", "FamilyFields$Check", "FamilyFields$Constant", "FamilyFields$Enumeration", "FamilyFields$Family", "FamilyFields$KeptPart", "FamilyFields$Line", "FamilyFields$Made", "FamilyFields$Part", "FamilyFields$RecordType", "FamilyFields$Row", "FamilyFields", "FamilyFieldsModel", "FamilyFields$Bits", "FamilyFieldsLaw", "java/lang/Double", "java/lang/Float", "java/lang/Integer", "java/lang/Long", "java/lang/Math", "java/util/AbstractCollection", "java/util/AbstractList", "java/util/Arrays", "java/util/Objects", "jdk/internal/util/ArraysSupport", "jdk/internal/util/Preconditions"].getD i ""
abbrev Mi : Type := MethodName × ByteArray × Nat × Option FieldType × Nat × Nat × Nat × Nat
/-- name, code, locals, type of the answer, owner, kind (0 static, 1 of an object, 2 a constructor), frames, words -/
def mi (y : Nat) : Mi :=
 bif Nat.ble 116 y then
  bif Nat.ble 174 y then
   bif Nat.ble 203 y then
    bif Nat.ble 217 y then
     bif Nat.ble 224 y then
      bif Nat.ble 228 y then
       bif Nat.ble 230 y then
        bif Nat.ble 231 y then
         (⟨"FamilyFieldsLaw", "law", "([I)Z"⟩, code, 4, some .boolean, 14, 0, 13, 334)
        else
         (⟨"FamilyFieldsModel", "about", "(II)I"⟩, prog_14_method_76_code, 3, some .int, 12, 1, 2, 46)
       else
        bif Nat.ble 229 y then
         (⟨"FamilyFieldsModel", "count", "(I)I"⟩, prog_14_method_75_code, 2, some .int, 12, 1, 0, 0)
        else
         (⟨"FamilyFieldsModel", "range", "(JIIII)I"⟩, prog_14_method_74_code, 7, some .int, 12, 1, 3, 88)
      else
       bif Nat.ble 226 y then
        bif Nat.ble 227 y then
         (⟨"FamilyFieldsModel", "word", "(JJI)I"⟩, prog_14_method_73_code, 6, some .int, 12, 1, 3, 88)
        else
         (⟨"FamilyFieldsModel", "found", "(JJIIII)I"⟩, prog_14_method_72_code, 11, some .int, 12, 1, 2, 58)
       else
        bif Nat.ble 225 y then
         (⟨"FamilyFieldsModel", "has", "(IJJIII)Z"⟩, prog_14_method_71_code, 14, some .boolean, 12, 1, 1, 25)
        else
         (⟨"FamilyFieldsModel", "line", "(II)I"⟩, prog_14_method_70_code, 3, some .int, 12, 1, 1, 25)
     else
      bif Nat.ble 220 y then
       bif Nat.ble 222 y then
        bif Nat.ble 223 y then
         (⟨"FamilyFieldsModel", "comes", "(II)I"⟩, prog_14_method_69_code, 4, some .int, 12, 1, 4, 133)
        else
         (⟨"FamilyFieldsModel", "load", "(I)I"⟩, prog_14_method_68_code, 10, some .int, 12, 1, 5, 156)
       else
        bif Nat.ble 221 y then
         (⟨"FamilyFieldsModel", "bringRow", "(I)V"⟩, prog_14_method_67_code, 3, none, 12, 1, 2, 45)
        else
         (⟨"FamilyFieldsModel", "bringSet", "(II)V"⟩, prog_14_method_66_code, 5, none, 12, 1, 1, 24)
      else
       bif Nat.ble 218 y then
        bif Nat.ble 219 y then
         (⟨"FamilyFieldsModel", "brings", "(II)I"⟩, prog_14_method_65_code, 10, some .int, 12, 1, 3, 104)
        else
         (⟨"FamilyFieldsModel", "keptPart", "(IJ)I"⟩, prog_14_method_64_code, 5, some .int, 12, 1, 0, 0)
       else
        (⟨"FamilyFieldsModel", "widened", "(IIJ)J"⟩, prog_14_method_63_code, 4, some .long, 12, 0, 2, 81)
    else
     bif Nat.ble 210 y then
      bif Nat.ble 213 y then
       bif Nat.ble 215 y then
        bif Nat.ble 216 y then
         (⟨"FamilyFieldsModel", "goes", "(II)Z"⟩, prog_14_method_62_code, 2, some .boolean, 12, 0, 1, 25)
        else
         (⟨"FamilyFieldsModel", "writeValue", "(IIIJ)V"⟩, prog_14_method_61_code, 7, none, 12, 1, 0, 0)
       else
        bif Nat.ble 214 y then
         (⟨"FamilyFieldsModel", "write", "(I)V"⟩, prog_14_method_60_code, 6, none, 12, 1, 1, 26)
        else
         (⟨"FamilyFieldsModel", "keep", "(I)I"⟩, prog_14_method_59_code, 8, some .int, 12, 1, 2, 51)
      else
       bif Nat.ble 211 y then
        bif Nat.ble 212 y then
         (⟨"FamilyFieldsModel", "unkept", "(I)I"⟩, prog_14_method_58_code, 7, some .int, 12, 1, 0, 0)
        else
         (⟨"FamilyFieldsModel", "work", "(IIII)J"⟩, prog_14_method_57_code, 8, some .long, 12, 1, 3, 68)
       else
        (⟨"FamilyFieldsModel", "once", "(III)I"⟩, prog_14_method_56_code, 4, some .int, 12, 1, 0, 0)
     else
      bif Nat.ble 206 y then
       bif Nat.ble 208 y then
        bif Nat.ble 209 y then
         (⟨"FamilyFieldsModel", "named", "(IJ)I"⟩, prog_14_method_55_code, 6, some .int, 12, 1, 2, 46)
        else
         (⟨"FamilyFieldsModel", "same", "(II)I"⟩, prog_14_method_54_code, 6, some .int, 12, 1, 2, 47)
       else
        bif Nat.ble 207 y then
         (⟨"FamilyFieldsModel", "areLike", "(II)Z"⟩, prog_14_method_53_code, 10, some .boolean, 12, 1, 0, 0)
        else
         (⟨"FamilyFieldsModel", "tag", "(II)I"⟩, prog_14_method_52_code, 3, some .int, 12, 1, 2, 47)
      else
       bif Nat.ble 204 y then
        bif Nat.ble 205 y then
         (⟨"FamilyFieldsModel", "of", "(I)I"⟩, prog_14_method_51_code, 2, some .int, 12, 1, 2, 47)
        else
         (⟨"FamilyFieldsModel", "told", "(II)J"⟩, prog_14_method_50_code, 3, some .long, 12, 1, 2, 47)
       else
        (⟨"FamilyFieldsModel", "cause", "(I)I"⟩, prog_14_method_49_code, 2, some .int, 12, 1, 0, 0)
   else
    bif Nat.ble 188 y then
     bif Nat.ble 195 y then
      bif Nat.ble 199 y then
       bif Nat.ble 201 y then
        bif Nat.ble 202 y then
         (⟨"FamilyFieldsModel", "make", "(I)I"⟩, prog_14_method_48_code, 4, some .int, 12, 1, 4, 143)
        else
         (⟨"FamilyFieldsModel", "isBetween", "(IJJJ)Z"⟩, prog_14_method_47_code, 9, some .boolean, 12, 0, 1, 60)
       else
        bif Nat.ble 200 y then
         (⟨"FamilyFieldsModel", "checked", "(II)I"⟩, prog_14_method_46_code, 9, some .int, 12, 1, 2, 88)
        else
         (⟨"FamilyFieldsModel", "made", "(II)I"⟩, prog_14_method_45_code, 8, some .int, 12, 1, 3, 116)
      else
       bif Nat.ble 197 y then
        bif Nat.ble 198 y then
         (⟨"FamilyFieldsModel", "caused", "(IIIII)I"⟩, prog_14_method_44_code, 6, some .int, 12, 1, 0, 0)
        else
         (⟨"FamilyFieldsModel", "isGood", "(IJ)Z"⟩, prog_14_method_43_code, 4, some .boolean, 12, 1, 3, 68)
       else
        bif Nat.ble 196 y then
         (⟨"FamilyFieldsModel", "isObject", "(J)Z"⟩, prog_14_method_42_code, 3, some .boolean, 12, 1, 1, 25)
        else
         (⟨"FamilyFieldsModel", "give", "(IJ)I"⟩, prog_14_method_41_code, 4, some .int, 12, 1, 1, 25)
     else
      bif Nat.ble 191 y then
       bif Nat.ble 193 y then
        bif Nat.ble 194 y then
         (⟨"FamilyFieldsModel", "size", "(I)I"⟩, prog_14_method_40_code, 2, some .int, 12, 1, 2, 46)
        else
         (⟨"FamilyFieldsModel", "item", "(II)J"⟩, prog_14_method_39_code, 3, some .long, 12, 1, 2, 46)
       else
        bif Nat.ble 192 y then
         (⟨"FamilyFieldsModel", "put", "(IIJ)I"⟩, prog_14_method_38_code, 5, some .int, 12, 1, 2, 46)
        else
         (⟨"FamilyFieldsModel", "isRow", "(I)Z"⟩, prog_14_method_37_code, 2, some .boolean, 12, 1, 1, 25)
      else
       bif Nat.ble 189 y then
        bif Nat.ble 190 y then
         (⟨"FamilyFieldsModel", "row", "(II)I"⟩, prog_14_method_36_code, 3, some .int, 12, 1, 2, 45)
        else
         (⟨"FamilyFieldsModel", "newRow", "(II)I"⟩, prog_14_method_35_code, 4, some .int, 12, 1, 1, 22)
       else
        (⟨"FamilyFieldsModel", "started", "(I)I"⟩, prog_14_method_34_code, 2, some .int, 12, 1, 1, 25)
    else
     bif Nat.ble 181 y then
      bif Nat.ble 184 y then
       bif Nat.ble 186 y then
        bif Nat.ble 187 y then
         (⟨"FamilyFieldsModel", "start", "(I)I"⟩, prog_14_method_33_code, 2, some .int, 12, 1, 0, 0)
        else
         (⟨"FamilyFieldsModel", "build", "()I"⟩, prog_14_method_32_code, 3, some .int, 12, 1, 0, 0)
       else
        bif Nat.ble 185 y then
         (⟨"FamilyFieldsModel", "check", "(IIIJJ)I"⟩, prog_14_method_31_code, 9, some .int, 12, 1, 3, 68)
        else
         (⟨"FamilyFieldsModel", "isCheck", "(II)Z"⟩, prog_14_method_30_code, 2, some .boolean, 12, 0, 1, 25)
      else
       bif Nat.ble 182 y then
        bif Nat.ble 183 y then
         (⟨"FamilyFieldsModel", "becomes", "(IIII)I"⟩, prog_14_method_29_code, 6, some .int, 12, 1, 3, 68)
        else
         (⟨"FamilyFieldsModel", "without", "(II)I"⟩, prog_14_method_28_code, 5, some .int, 12, 1, 3, 68)
       else
        (⟨"FamilyFieldsModel", "dropChecks", "(IIZ)V"⟩, prog_14_method_27_code, 8, none, 12, 1, 0, 0)
     else
      bif Nat.ble 177 y then
       bif Nat.ble 179 y then
        bif Nat.ble 180 y then
         (⟨"FamilyFieldsModel", "setSort", "(III)V"⟩, prog_14_method_26_code, 4, none, 12, 1, 1, 22)
        else
         (⟨"FamilyFieldsModel", "part", "(IJIIJ)I"⟩, prog_14_method_25_code, 9, some .int, 12, 1, 3, 68)
       else
        bif Nat.ble 178 y then
         (⟨"FamilyFieldsModel", "partNamed", "(IJ)I"⟩, prog_14_method_24_code, 5, some .int, 12, 1, 0, 0)
        else
         (⟨"FamilyFieldsModel", "fromBits", "(IJ)J"⟩, prog_14_method_23_code, 3, some .long, 12, 0, 0, 0)
      else
       bif Nat.ble 175 y then
        bif Nat.ble 176 y then
         (⟨"FamilyFieldsModel", "isSort", "(II)Z"⟩, prog_14_method_22_code, 3, some .boolean, 12, 1, 2, 46)
        else
         (⟨"FamilyFieldsModel", "record", "()I"⟩, prog_14_method_21_code, 1, some .int, 12, 1, 0, 0)
       else
        (⟨"FamilyFieldsModel", "isOfFamily", "(II)Z"⟩, prog_14_method_20_code, 3, some .boolean, 12, 1, 2, 46)
  else
   bif Nat.ble 145 y then
    bif Nat.ble 159 y then
     bif Nat.ble 166 y then
      bif Nat.ble 170 y then
       bif Nat.ble 172 y then
        bif Nat.ble 173 y then
         (⟨"FamilyFieldsModel", "tagOf", "(I)I"⟩, prog_14_method_19_code, 3, some .int, 12, 1, 0, 0)
        else
         (⟨"FamilyFieldsModel", "findLeaves", "(I)V"⟩, prog_14_method_18_code, 5, none, 12, 1, 1, 22)
       else
        bif Nat.ble 171 y then
         (⟨"FamilyFieldsModel", "permit", "(IZI)I"⟩, prog_14_method_17_code, 6, some .int, 12, 1, 2, 46)
        else
         (⟨"FamilyFieldsModel", "family", "()I"⟩, prog_14_method_16_code, 1, some .int, 12, 1, 0, 0)
      else
       bif Nat.ble 168 y then
        bif Nat.ble 169 y then
         (⟨"FamilyFieldsModel", "fails", "(IZ)I"⟩, prog_14_method_15_code, 4, some .int, 12, 1, 2, 46)
        else
         (⟨"FamilyFieldsModel", "forget", "(II)I"⟩, prog_14_method_14_code, 4, some .int, 12, 1, 3, 68)
       else
        bif Nat.ble 167 y then
         (⟨"FamilyFieldsModel", "exchange", "(III)I"⟩, prog_14_method_13_code, 7, some .int, 12, 1, 3, 68)
        else
         (⟨"FamilyFieldsModel", "constant", "(IJZ)I"⟩, prog_14_method_12_code, 5, some .int, 12, 1, 2, 51)
     else
      bif Nat.ble 162 y then
       bif Nat.ble 164 y then
        bif Nat.ble 165 y then
         (⟨"FamilyFieldsModel", "ordinal", "(IJ)I"⟩, prog_14_method_11_code, 5, some .int, 12, 1, 0, 0)
        else
         (⟨"FamilyFieldsModel", "enumeration", "()I"⟩, prog_14_method_10_code, 1, some .int, 12, 1, 0, 0)
       else
        bif Nat.ble 163 y then
         (⟨"FamilyFieldsModel", "isFamily", "(I)Z"⟩, prog_14_method_9_code, 2, some .boolean, 12, 1, 1, 25)
        else
         (⟨"FamilyFieldsModel", "isPart", "(II)Z"⟩, prog_14_method_8_code, 3, some .boolean, 12, 1, 2, 46)
      else
       bif Nat.ble 160 y then
        bif Nat.ble 161 y then
         (⟨"FamilyFieldsModel", "isRecord", "(I)Z"⟩, prog_14_method_7_code, 2, some .boolean, 12, 1, 1, 25)
        else
         (⟨"FamilyFieldsModel", "isConstant", "(II)Z"⟩, prog_14_method_6_code, 3, some .boolean, 12, 1, 2, 46)
       else
        (⟨"FamilyFieldsModel", "isEnum", "(I)Z"⟩, prog_14_method_5_code, 2, some .boolean, 12, 1, 1, 25)
    else
     bif Nat.ble 152 y then
      bif Nat.ble 155 y then
       bif Nat.ble 157 y then
        bif Nat.ble 158 y then
         (⟨"FamilyFieldsModel", "isName", "(J)Z"⟩, prog_14_method_4_code, 7, some .boolean, 12, 0, 1, 25)
        else
         (⟨"FamilyFieldsModel", "in", "(JJJ)Z"⟩, prog_14_method_3_code, 6, some .boolean, 12, 0, 0, 0)
       else
        bif Nat.ble 156 y then
         (⟨"FamilyFieldsModel", "<init>", "()V"⟩, prog_14_method_1_code, 1, none, 12, 2, 1, 60)
        else
         (⟨"FamilyFields", "foundLine", "(I)I"⟩, prog_1_method_84_code, 4, some .int, 11, 1, 3, 64)
      else
       bif Nat.ble 153 y then
        bif Nat.ble 154 y then
         (⟨"FamilyFields", "objectNow", "(LFamilyFields$KeptPart;)J"⟩, prog_1_method_83_code, 3, some .long, 11, 1, 4, 86)
        else
         (⟨"FamilyFields", "rowNow", "(LFamilyFields$KeptPart;)J"⟩, prog_1_method_82_code, 2, some .long, 11, 1, 8, 213)
       else
        (⟨"FamilyFields", "setNow", "(LFamilyFields$KeptPart;I)J"⟩, prog_1_method_81_code, 8, some .long, 11, 1, 4, 87)
     else
      bif Nat.ble 148 y then
       bif Nat.ble 150 y then
        bif Nat.ble 151 y then
         (⟨"FamilyFields", "ordinalNow", "(LFamilyFields$KeptPart;I)J"⟩, prog_1_method_80_code, 4, some .long, 11, 1, 4, 87)
        else
         (⟨"FamilyFields", "thrownByFilling", "(LFamilyFields$KeptPart;LFamilyFields$Part;J)I"⟩, prog_1_method_79_code, 6, some .int, 11, 1, 5, 108)
       else
        bif Nat.ble 149 y then
         (⟨"FamilyFields", "valueNow", "(LFamilyFields$KeptPart;LFamilyFields$Part;)J"⟩, prog_1_method_78_code, 3, some .long, 11, 1, 9, 234)
        else
         (⟨"FamilyFields", "fillPart", "(ILFamilyFields$Line;LFamilyFields$Part;)I"⟩, prog_1_method_77_code, 7, some .int, 11, 1, 10, 256)
      else
       bif Nat.ble 146 y then
        bif Nat.ble 147 y then
         (⟨"FamilyFields", "lineAhead", "(LFamilyFields$Line;LFamilyFields$Part;)I"⟩, prog_1_method_76_code, 5, some .int, 11, 1, 4, 86)
        else
         (⟨"FamilyFields", "loadInOrder", "(I)I"⟩, prog_1_method_75_code, 11, some .int, 11, 1, 11, 282)
       else
        (⟨"FamilyFields", "namesOf", "(IJ)[J"⟩, prog_1_method_74_code, 8, some (.array .long), 11, 1, 4, 85)
   else
    bif Nat.ble 130 y then
     bif Nat.ble 137 y then
      bif Nat.ble 141 y then
       bif Nat.ble 143 y then
        bif Nat.ble 144 y then
         (⟨"FamilyFields", "lineOf", "(LFamilyFields$Made;)I"⟩, prog_1_method_73_code, 1, some .int, 11, 0, 0, 0)
        else
         (⟨"FamilyFields", "keptRow", "(LFamilyFields$Part;LFamilyFields$Row;)LFamilyFields$KeptPart;"⟩, prog_1_method_72_code, 2, some (.object "FamilyFields$KeptPart"), 11, 0, 2, 84)
       else
        bif Nat.ble 142 y then
         (⟨"FamilyFields", "keptPart", "(LFamilyFields$Part;J)LFamilyFields$KeptPart;"⟩, prog_1_method_71_code, 4, some (.object "FamilyFields$KeptPart"), 11, 1, 5, 112)
        else
         (⟨"FamilyFields", "addLine", "(LFamilyFields$Made;)V"⟩, prog_1_method_70_code, 5, none, 11, 1, 7, 191)
      else
       bif Nat.ble 139 y then
        bif Nat.ble 140 y then
         (⟨"FamilyFields", "firstPartToKeep", "(LFamilyFields$Made;)I"⟩, prog_1_method_69_code, 5, some .int, 11, 1, 4, 86)
        else
         (⟨"FamilyFields", "keepInOrder", "(I)V"⟩, prog_1_method_68_code, 6, none, 11, 1, 8, 215)
       else
        bif Nat.ble 138 y then
         (⟨"FamilyFields", "wantParts", "(LFamilyFields$Made;)V"⟩, prog_1_method_67_code, 5, none, 11, 1, 4, 86)
        else
         (⟨"FamilyFields", "countToKeep", "(I)I"⟩, prog_1_method_66_code, 5, some .int, 11, 1, 5, 110)
     else
      bif Nat.ble 133 y then
       bif Nat.ble 135 y then
        bif Nat.ble 136 y then
         (⟨"FamilyFields", "twinOf", "(J)J"⟩, prog_1_method_65_code, 4, some .long, 11, 1, 4, 86)
        else
         (⟨"FamilyFields", "areAlike", "(LFamilyFields$Made;LFamilyFields$Made;)Z"⟩, prog_1_method_64_code, 10, some .boolean, 11, 1, 5, 109)
       else
        bif Nat.ble 134 y then
         (⟨"FamilyFields", "firstAlike", "(I)I"⟩, prog_1_method_63_code, 5, some .int, 11, 1, 6, 138)
        else
         (⟨"FamilyFields", "findTwins", "()V"⟩, prog_1_method_62_code, 2, none, 11, 1, 7, 162)
      else
       bif Nat.ble 131 y then
        bif Nat.ble 132 y then
         (⟨"FamilyFields", "addObject", "(I[J)I"⟩, prog_1_method_61_code, 4, some .int, 11, 1, 7, 191)
        else
         (⟨"FamilyFields", "thrownByLaying", "(IJ)I"⟩, prog_1_method_60_code, 6, some .int, 11, 1, 4, 86)
       else
        (⟨"FamilyFields", "thrownByCast", "(LFamilyFields$Made;J)I"⟩, prog_1_method_59_code, 3, some .int, 11, 0, 0, 0)
    else
     bif Nat.ble 123 y then
      bif Nat.ble 126 y then
       bif Nat.ble 128 y then
        bif Nat.ble 129 y then
         (⟨"FamilyFields", "thrownByItem", "(LFamilyFields$Row;J)I"⟩, prog_1_method_58_code, 3, some .int, 11, 0, 1, 22)
        else
         (⟨"FamilyFields", "thrownBy", "(LFamilyFields$Check;LFamilyFields$Part;J)I"⟩, prog_1_method_57_code, 5, some .int, 11, 1, 5, 122)
       else
        bif Nat.ble 127 y then
         (⟨"FamilyFields", "failed", "(IIIII)I"⟩, prog_1_method_56_code, 6, some .int, 11, 1, 1, 20)
        else
         (⟨"FamilyFields", "construct", "(I[JI)I"⟩, prog_1_method_55_code, 9, some .int, 11, 1, 8, 214)
      else
       bif Nat.ble 124 y then
        bif Nat.ble 125 y then
         (⟨"FamilyFields", "isOfFamily", "(LFamilyFields$Made;I)Z"⟩, prog_1_method_54_code, 4, some .boolean, 11, 1, 4, 85)
        else
         (⟨"FamilyFields", "enumerationHolds", "(IJ)Z"⟩, prog_1_method_53_code, 5, some .boolean, 11, 1, 4, 85)
       else
        (⟨"FamilyFields", "isOrdinal", "(IJ)Z"⟩, prog_1_method_52_code, 5, some .boolean, 11, 1, 4, 85)
     else
      bif Nat.ble 119 y then
       bif Nat.ble 121 y then
        bif Nat.ble 122 y then
         (⟨"FamilyFields", "fits", "(LFamilyFields$Part;J)Z"⟩, prog_1_method_51_code, 5, some .boolean, 11, 1, 5, 109)
        else
         (⟨"FamilyFields", "draftFits", "(LFamilyFields$RecordType;)Z"⟩, prog_1_method_50_code, 3, some .boolean, 11, 1, 6, 133)
       else
        bif Nat.ble 120 y then
         (⟨"FamilyFields", "addRow", "(II)I"⟩, prog_1_method_49_code, 3, some .int, 11, 1, 7, 191)
        else
         (⟨"FamilyFields", "startFor", "(LFamilyFields$Part;J)I"⟩, prog_1_method_48_code, 5, some .int, 11, 1, 5, 107)
      else
       bif Nat.ble 117 y then
        bif Nat.ble 118 y then
         (⟨"FamilyFields", "noteStart", "(I)V"⟩, prog_1_method_47_code, 2, none, 11, 1, 0, 0)
        else
         (⟨"FamilyFields", "startEnumeration", "(I)I"⟩, prog_1_method_46_code, 3, some .int, 11, 1, 4, 85)
       else
        (⟨"FamilyFields", "startRecord", "(ILFamilyFields$RecordType;)V"⟩, prog_1_method_45_code, 3, none, 11, 1, 1, 21)
 else
  bif Nat.ble 58 y then
   bif Nat.ble 87 y then
    bif Nat.ble 101 y then
     bif Nat.ble 108 y then
      bif Nat.ble 112 y then
       bif Nat.ble 114 y then
        bif Nat.ble 115 y then
         (⟨"FamilyFields", "gatherLeaves", "()V"⟩, prog_1_method_44_code, 5, none, 11, 1, 4, 85)
        else
         (⟨"FamilyFields", "isSort", "(II)Z"⟩, prog_1_method_43_code, 3, some .boolean, 11, 1, 4, 85)
       else
        bif Nat.ble 113 y then
         (⟨"FamilyFields", "answerOf", "(I)I"⟩, prog_1_method_42_code, 1, some .int, 11, 0, 0, 0)
        else
         (⟨"FamilyFields", "lineAt", "(J)LFamilyFields$Line;"⟩, prog_1_method_41_code, 3, some (.object "FamilyFields$Line"), 11, 1, 3, 64)
      else
       bif Nat.ble 110 y then
        bif Nat.ble 111 y then
         (⟨"FamilyFields", "objectAt", "(J)LFamilyFields$Made;"⟩, prog_1_method_40_code, 3, some (.object "FamilyFields$Made"), 11, 1, 3, 64)
        else
         (⟨"FamilyFields", "rowAt", "(J)LFamilyFields$Row;"⟩, prog_1_method_39_code, 3, some (.object "FamilyFields$Row"), 11, 1, 3, 64)
       else
        bif Nat.ble 109 y then
         (⟨"FamilyFields", "familyAt", "(I)LFamilyFields$Family;"⟩, prog_1_method_38_code, 2, some (.object "FamilyFields$Family"), 11, 1, 3, 64)
        else
         (⟨"FamilyFields", "recordAt", "(I)LFamilyFields$RecordType;"⟩, prog_1_method_37_code, 2, some (.object "FamilyFields$RecordType"), 11, 1, 3, 64)
     else
      bif Nat.ble 104 y then
       bif Nat.ble 106 y then
        bif Nat.ble 107 y then
         (⟨"FamilyFields", "enumerationAt", "(I)LFamilyFields$Enumeration;"⟩, prog_1_method_36_code, 2, some (.object "FamilyFields$Enumeration"), 11, 1, 3, 64)
        else
         (⟨"FamilyFields", "about", "(II)I"⟩, prog_1_method_35_code, 4, some .int, 11, 1, 4, 85)
       else
        bif Nat.ble 105 y then
         (⟨"FamilyFields", "count", "(I)I"⟩, prog_1_method_34_code, 2, some .int, 11, 1, 1, 20)
        else
         (⟨"FamilyFields", "range", "(JIIII)I"⟩, prog_1_method_33_code, 10, some .int, 11, 1, 5, 112)
      else
       bif Nat.ble 102 y then
        bif Nat.ble 103 y then
         (⟨"FamilyFields", "word", "(JJI)I"⟩, prog_1_method_32_code, 8, some .int, 11, 1, 4, 87)
        else
         (⟨"FamilyFields", "line", "(II)I"⟩, prog_1_method_31_code, 4, some .int, 11, 1, 4, 86)
       else
        (⟨"FamilyFields", "load", "(I)I"⟩, prog_1_method_30_code, 3, some .int, 11, 1, 12, 312)
    else
     bif Nat.ble 94 y then
      bif Nat.ble 97 y then
       bif Nat.ble 99 y then
        bif Nat.ble 100 y then
         (⟨"FamilyFields", "keep", "(I)I"⟩, prog_1_method_29_code, 3, some .int, 11, 1, 9, 240)
        else
         (⟨"FamilyFields", "started", "(I)I"⟩, prog_1_method_28_code, 2, some .int, 11, 1, 0, 0)
       else
        bif Nat.ble 98 y then
         (⟨"FamilyFields", "work", "(IIII)J"⟩, prog_1_method_27_code, 8, some .long, 11, 1, 5, 107)
        else
         (⟨"FamilyFields", "named", "(IJ)I"⟩, prog_1_method_26_code, 7, some .int, 11, 1, 5, 107)
      else
       bif Nat.ble 95 y then
        bif Nat.ble 96 y then
         (⟨"FamilyFields", "same", "(II)I"⟩, prog_1_method_25_code, 5, some .int, 11, 1, 8, 183)
        else
         (⟨"FamilyFields", "tag", "(II)I"⟩, prog_1_method_24_code, 5, some .int, 11, 1, 4, 86)
       else
        (⟨"FamilyFields", "of", "(I)I"⟩, prog_1_method_23_code, 3, some .int, 11, 1, 4, 86)
     else
      bif Nat.ble 90 y then
       bif Nat.ble 92 y then
        bif Nat.ble 93 y then
         (⟨"FamilyFields", "told", "(II)J"⟩, prog_1_method_22_code, 5, some .long, 11, 1, 4, 86)
        else
         (⟨"FamilyFields", "cause", "(I)I"⟩, prog_1_method_21_code, 2, some .int, 11, 1, 0, 0)
       else
        bif Nat.ble 91 y then
         (⟨"FamilyFields", "make", "(I)I"⟩, prog_1_method_20_code, 4, some .int, 11, 1, 9, 242)
        else
         (⟨"FamilyFields", "give", "(IJ)I"⟩, prog_1_method_19_code, 4, some .int, 11, 1, 0, 0)
      else
       bif Nat.ble 88 y then
        bif Nat.ble 89 y then
         (⟨"FamilyFields", "size", "(I)I"⟩, prog_1_method_18_code, 3, some .int, 11, 1, 4, 86)
        else
         (⟨"FamilyFields", "item", "(II)J"⟩, prog_1_method_17_code, 4, some .long, 11, 1, 4, 86)
       else
        (⟨"FamilyFields", "put", "(IIJ)I"⟩, prog_1_method_16_code, 6, some .int, 11, 1, 4, 86)
   else
    bif Nat.ble 72 y then
     bif Nat.ble 79 y then
      bif Nat.ble 83 y then
       bif Nat.ble 85 y then
        bif Nat.ble 86 y then
         (⟨"FamilyFields", "row", "(II)I"⟩, prog_1_method_15_code, 3, some .int, 11, 1, 8, 213)
        else
         (⟨"FamilyFields", "build", "()I"⟩, prog_1_method_14_code, 3, some .int, 11, 1, 3, 64)
       else
        bif Nat.ble 84 y then
         (⟨"FamilyFields", "check", "(IIIJJ)I"⟩, prog_1_method_13_code, 10, some .int, 11, 1, 7, 191)
        else
         (⟨"FamilyFields", "becomes", "(IIII)I"⟩, prog_1_method_12_code, 7, some .int, 11, 1, 5, 128)
      else
       bif Nat.ble 81 y then
        bif Nat.ble 82 y then
         (⟨"FamilyFields", "without", "(II)I"⟩, prog_1_method_11_code, 4, some .int, 11, 1, 4, 128)
        else
         (⟨"FamilyFields", "part", "(IJIIJ)I"⟩, prog_1_method_10_code, 9, some .int, 11, 1, 7, 191)
       else
        bif Nat.ble 80 y then
         (⟨"FamilyFields", "record", "()I"⟩, prog_1_method_9_code, 1, some .int, 11, 1, 7, 191)
        else
         (⟨"FamilyFields", "permit", "(IZI)I"⟩, prog_1_method_8_code, 6, some .int, 11, 1, 5, 109)
     else
      bif Nat.ble 75 y then
       bif Nat.ble 77 y then
        bif Nat.ble 78 y then
         (⟨"FamilyFields", "family", "()I"⟩, prog_1_method_7_code, 1, some .int, 11, 1, 7, 191)
        else
         (⟨"FamilyFields", "fails", "(IZ)I"⟩, prog_1_method_6_code, 5, some .int, 11, 1, 4, 85)
       else
        bif Nat.ble 76 y then
         (⟨"FamilyFields", "forget", "(II)I"⟩, prog_1_method_5_code, 4, some .int, 11, 1, 4, 106)
        else
         (⟨"FamilyFields", "exchange", "(III)I"⟩, prog_1_method_4_code, 7, some .int, 11, 1, 4, 86)
      else
       bif Nat.ble 73 y then
        bif Nat.ble 74 y then
         (⟨"FamilyFields", "constant", "(IJZ)I"⟩, prog_1_method_3_code, 6, some .int, 11, 1, 7, 191)
        else
         (⟨"FamilyFields", "enumeration", "()I"⟩, prog_1_method_2_code, 1, some .int, 11, 1, 7, 191)
       else
        (⟨"FamilyFields", "<init>", "()V"⟩, prog_1_method_1_code, 1, none, 11, 2, 4, 120)
    else
     bif Nat.ble 65 y then
      bif Nat.ble 68 y then
       bif Nat.ble 70 y then
        bif Nat.ble 71 y then
         (⟨"FamilyFields$Row", "hasItem", "(J)Z"⟩, prog_12_method_3_code, 3, some .boolean, 10, 1, 0, 0)
        else
         (⟨"FamilyFields$Row", "reuse", "(II)V"⟩, prog_12_method_2_code, 3, none, 10, 1, 1, 24)
       else
        bif Nat.ble 69 y then
         (⟨"FamilyFields$Row", "<init>", "()V"⟩, prog_12_method_1_code, 1, none, 10, 2, 1, 60)
        else
         (⟨"FamilyFields$RecordType", "moveChecks", "(I)V"⟩, prog_11_method_5_code, 3, none, 9, 1, 3, 64)
      else
       bif Nat.ble 66 y then
        bif Nat.ble 67 y then
         (⟨"FamilyFields$RecordType", "dropChecks", "(I)V"⟩, prog_11_method_4_code, 3, none, 9, 1, 3, 106)
        else
         (⟨"FamilyFields$RecordType", "hasPart", "(J)Z"⟩, prog_11_method_3_code, 4, some .boolean, 9, 1, 3, 64)
       else
        (⟨"FamilyFields$RecordType", "partAt", "(I)LFamilyFields$Part;"⟩, prog_11_method_2_code, 2, some (.object "FamilyFields$Part"), 9, 1, 3, 64)
     else
      bif Nat.ble 61 y then
       bif Nat.ble 63 y then
        bif Nat.ble 64 y then
         (⟨"FamilyFields$RecordType", "<init>", "()V"⟩, prog_11_method_1_code, 1, none, 9, 2, 4, 120)
        else
         (⟨"FamilyFields$Part", "<init>", "(JIIJ)V"⟩, prog_10_method_1_code, 7, none, 8, 2, 2, 60)
       else
        bif Nat.ble 62 y then
         (⟨"FamilyFields$Made", "<init>", "()V"⟩, prog_9_method_1_code, 1, none, 7, 2, 1, 60)
        else
         (⟨"FamilyFields$Line", "unload", "()V"⟩, prog_8_method_3_code, 2, none, 6, 1, 0, 0)
      else
       bif Nat.ble 59 y then
        bif Nat.ble 60 y then
         (⟨"FamilyFields$Line", "keptAs", "(J)LFamilyFields$KeptPart;"⟩, prog_8_method_2_code, 4, some (.object "FamilyFields$KeptPart"), 6, 1, 0, 0)
        else
         (⟨"FamilyFields$Line", "<init>", "(II[LFamilyFields$KeptPart;)V"⟩, prog_8_method_1_code, 4, none, 6, 2, 1, 60)
       else
        (⟨"FamilyFields$KeptPart", "goesTo", "(LFamilyFields$Part;)Z"⟩, prog_7_method_5_code, 3, some .boolean, 5, 1, 0, 0)
  else
   bif Nat.ble 29 y then
    bif Nat.ble 43 y then
     bif Nat.ble 50 y then
      bif Nat.ble 54 y then
       bif Nat.ble 56 y then
        bif Nat.ble 57 y then
         (⟨"FamilyFields$KeptPart", "hasOrdinal", "(LFamilyFields$Enumeration;II)Z"⟩, prog_7_method_4_code, 6, some .boolean, 5, 1, 4, 87)
        else
         (⟨"FamilyFields$KeptPart", "hasWord", "(J)Z"⟩, prog_7_method_3_code, 4, some .boolean, 5, 1, 1, 20)
       else
        bif Nat.ble 55 y then
         (⟨"FamilyFields$KeptPart", "hasNames", "()Z"⟩, prog_7_method_2_code, 1, some .boolean, 5, 1, 0, 0)
        else
         (⟨"FamilyFields$KeptPart", "<init>", "(LFamilyFields$Part;J[J)V"⟩, prog_7_method_1_code, 5, none, 5, 2, 1, 60)
      else
       bif Nat.ble 52 y then
        bif Nat.ble 53 y then
         (⟨"FamilyFields$Family", "addLeavesOf", "(LFamilyFields$Family;)V"⟩, prog_6_method_5_code, 3, none, 4, 1, 2, 43)
        else
         (⟨"FamilyFields$Family", "addLeaf", "(I)V"⟩, prog_6_method_4_code, 2, none, 4, 1, 1, 22)
       else
        bif Nat.ble 51 y then
         (⟨"FamilyFields$Family", "tagOf", "(I)I"⟩, prog_6_method_3_code, 3, some .int, 4, 1, 0, 0)
        else
         (⟨"FamilyFields$Family", "hasMember", "(I)Z"⟩, prog_6_method_2_code, 3, some .boolean, 4, 1, 0, 0)
     else
      bif Nat.ble 46 y then
       bif Nat.ble 48 y then
        bif Nat.ble 49 y then
         (⟨"FamilyFields$Family", "<init>", "()V"⟩, prog_6_method_1_code, 1, none, 4, 2, 1, 60)
        else
         (⟨"FamilyFields$Enumeration", "rest", "()V"⟩, prog_5_method_4_code, 1, none, 3, 1, 0, 0)
       else
        bif Nat.ble 47 y then
         (⟨"FamilyFields$Enumeration", "ordinalOf", "(J)I"⟩, prog_5_method_3_code, 4, some .int, 3, 1, 3, 64)
        else
         (⟨"FamilyFields$Enumeration", "constantAt", "(J)LFamilyFields$Constant;"⟩, prog_5_method_2_code, 3, some (.object "FamilyFields$Constant"), 3, 1, 3, 64)
      else
       bif Nat.ble 44 y then
        bif Nat.ble 45 y then
         (⟨"FamilyFields$Enumeration", "<init>", "()V"⟩, prog_5_method_1_code, 1, none, 3, 2, 4, 120)
        else
         (⟨"FamilyFields$Constant", "twice", "(II)I"⟩, prog_4_method_3_code, 4, some .int, 2, 1, 1, 22)
       else
        (⟨"FamilyFields$Constant", "once", "(II)I"⟩, prog_4_method_2_code, 3, some .int, 2, 1, 0, 0)
    else
     bif Nat.ble 36 y then
      bif Nat.ble 39 y then
       bif Nat.ble 41 y then
        bif Nat.ble 42 y then
         (⟨"FamilyFields$Constant", "<init>", "(JZ)V"⟩, prog_4_method_1_code, 4, none, 2, 2, 1, 60)
        else
         (⟨"FamilyFields$Check", "<init>", "(IIJJ)V"⟩, prog_3_method_1_code, 7, none, 1, 2, 1, 60)
       else
        bif Nat.ble 40 y then
         (⟨"FamilyFields$Bits", "doubleOfFloat", "(I)J"⟩, prog_2_method_12_code, 9, some .long, 13, 0, 2, 43)
        else
         (⟨"FamilyFields$Bits", "nearestEven", "(JI)J"⟩, prog_2_method_11_code, 10, some .long, 13, 0, 0, 0)
      else
       bif Nat.ble 37 y then
        bif Nat.ble 38 y then
         (⟨"FamilyFields$Bits", "sizeOfWhole", "(JII)J"⟩, prog_2_method_10_code, 9, some .long, 13, 0, 2, 43)
        else
         (⟨"FamilyFields$Bits", "doubleOfWhole", "(J)J"⟩, prog_2_method_9_code, 4, some .long, 13, 0, 3, 71)
       else
        (⟨"FamilyFields$Bits", "floatOfWhole", "(J)J"⟩, prog_2_method_8_code, 3, some .long, 13, 0, 3, 71)
     else
      bif Nat.ble 32 y then
       bif Nat.ble 34 y then
        bif Nat.ble 35 y then
         (⟨"FamilyFields$Bits", "place", "(J)J"⟩, prog_2_method_7_code, 2, some .long, 13, 0, 0, 0)
        else
         (⟨"FamilyFields$Bits", "isBetween", "(IJJJ)Z"⟩, prog_2_method_6_code, 9, some .boolean, 13, 0, 4, 94)
       else
        bif Nat.ble 33 y then
         (⟨"FamilyFields$Bits", "widened", "(IIJ)J"⟩, prog_2_method_5_code, 4, some .long, 13, 0, 4, 94)
        else
         (⟨"FamilyFields$Bits", "isNumber", "(J)Z"⟩, prog_2_method_4_code, 2, some .boolean, 13, 0, 0, 0)
      else
       bif Nat.ble 30 y then
        bif Nat.ble 31 y then
         (⟨"FamilyFields$Bits", "shaped", "(IJ)J"⟩, prog_2_method_3_code, 3, some .long, 13, 0, 1, 21)
        else
         (⟨"FamilyFields$Bits", "isName", "(J)Z"⟩, prog_2_method_2_code, 6, some .boolean, 13, 0, 0, 0)
       else
        (⟨"jdk/internal/util/Preconditions", "checkIndex", "(IILjava/util/function/BiFunction;)I"⟩, prog_35_method_11_code, 3, some .int, 25, 0, 0, 0)
   else
    bif Nat.ble 14 y then
     bif Nat.ble 21 y then
      bif Nat.ble 25 y then
       bif Nat.ble 27 y then
        bif Nat.ble 28 y then
         (⟨"jdk/internal/util/ArraysSupport", "hugeLength", "(II)I"⟩, prog_34_method_28_code, 3, some .int, 24, 0, 0, 0)
        else
         (⟨"jdk/internal/util/ArraysSupport", "newLength", "(III)I"⟩, prog_34_method_27_code, 4, some .int, 24, 0, 1, 22)
       else
        bif Nat.ble 26 y then
         (⟨"java/util/Objects", "checkIndex", "(II)I"⟩, prog_31_method_17_code, 2, some .int, 23, 0, 1, 22)
        else
         (⟨"java/util/Arrays", "copyOf", "([JI)[J"⟩, prog_28_method_124_code, 3, some (.array .long), 22, 0, 1, 60)
      else
       bif Nat.ble 23 y then
        bif Nat.ble 24 y then
         (⟨"java/util/Arrays", "copyOf", "([Ljava/lang/Object;ILjava/lang/Class;)[Ljava/lang/Object;"⟩, prog_28_method_120_code, 4, some (.array (.object "java/lang/Object")), 22, 0, 1, 60)
        else
         (⟨"java/util/Arrays", "copyOf", "([Ljava/lang/Object;I)[Ljava/lang/Object;"⟩, prog_28_method_119_code, 2, some (.array (.object "java/lang/Object")), 22, 0, 2, 83)
       else
        bif Nat.ble 22 y then
         (⟨"java/util/Arrays", "fill", "([JJ)V"⟩, prog_28_method_101_code, 5, none, 22, 0, 0, 0)
        else
         (⟨"java/util/ArrayList", "fastRemove", "([Ljava/lang/Object;I)V"⟩, prog_27_method_39_code, 4, none, 0, 1, 1, 60)
     else
      bif Nat.ble 17 y then
       bif Nat.ble 19 y then
        bif Nat.ble 20 y then
         (⟨"java/util/ArrayList", "remove", "(I)Ljava/lang/Object;"⟩, prog_27_method_29_code, 4, some (.object "java/lang/Object"), 0, 1, 2, 83)
        else
         (⟨"java/util/ArrayList", "add", "(Ljava/lang/Object;)Z"⟩, prog_27_method_25_code, 2, some .boolean, 0, 1, 6, 170)
       else
        bif Nat.ble 18 y then
         (⟨"java/util/ArrayList", "add", "(Ljava/lang/Object;[Ljava/lang/Object;I)V"⟩, prog_27_method_24_code, 4, none, 0, 1, 5, 147)
        else
         (⟨"java/util/ArrayList", "set", "(ILjava/lang/Object;)Ljava/lang/Object;"⟩, prog_27_method_23_code, 4, some (.object "java/lang/Object"), 0, 1, 2, 43)
      else
       bif Nat.ble 15 y then
        bif Nat.ble 16 y then
         (⟨"java/util/ArrayList", "get", "(I)Ljava/lang/Object;"⟩, prog_27_method_20_code, 2, some (.object "java/lang/Object"), 0, 1, 2, 43)
        else
         (⟨"java/util/ArrayList", "elementData", "(I)Ljava/lang/Object;"⟩, prog_27_method_18_code, 2, some (.object "java/lang/Object"), 0, 1, 0, 0)
       else
        (⟨"java/util/ArrayList", "size", "()I"⟩, prog_27_method_8_code, 1, some .int, 0, 1, 0, 0)
    else
     bif Nat.ble 7 y then
      bif Nat.ble 10 y then
       bif Nat.ble 12 y then
        bif Nat.ble 13 y then
         (⟨"java/util/ArrayList", "grow", "()[Ljava/lang/Object;"⟩, prog_27_method_7_code, 1, some (.array (.object "java/lang/Object")), 0, 1, 4, 127)
        else
         (⟨"java/util/ArrayList", "grow", "(I)[Ljava/lang/Object;"⟩, prog_27_method_6_code, 4, some (.array (.object "java/lang/Object")), 0, 1, 3, 104)
       else
        bif Nat.ble 11 y then
         (⟨"java/util/ArrayList", "<init>", "()V"⟩, prog_27_method_2_code, 1, none, 0, 2, 3, 100)
        else
         (⟨"java/util/AbstractList", "<init>", "()V"⟩, prog_26_method_1_code, 1, none, 21, 2, 2, 80)
      else
       bif Nat.ble 8 y then
        bif Nat.ble 9 y then
         (⟨"java/util/AbstractCollection", "<init>", "()V"⟩, prog_25_method_1_code, 1, none, 20, 2, 1, 60)
        else
         (⟨"java/lang/Math", "min", "(II)I"⟩, prog_22_method_69_code, 2, some .int, 19, 0, 0, 0)
       else
        (⟨"java/lang/Math", "max", "(II)I"⟩, prog_22_method_65_code, 2, some .int, 19, 0, 0, 0)
     else
      bif Nat.ble 3 y then
       bif Nat.ble 5 y then
        bif Nat.ble 6 y then
         (⟨"java/lang/Long", "bitCount", "(J)I"⟩, prog_21_method_50_code, 2, some .int, 18, 0, 0, 0)
        else
         (⟨"java/lang/Long", "numberOfLeadingZeros", "(J)I"⟩, prog_21_method_48_code, 3, some .int, 18, 0, 1, 21)
       else
        bif Nat.ble 4 y then
         (⟨"java/lang/Integer", "numberOfLeadingZeros", "(I)I"⟩, prog_19_method_47_code, 2, some .int, 17, 0, 0, 0)
        else
         (⟨"java/lang/Float", "floatToIntBits", "(F)I"⟩, prog_18_method_24_code, 1, some .int, 16, 0, 1, 60)
      else
       bif Nat.ble 1 y then
        bif Nat.ble 2 y then
         (⟨"java/lang/Float", "isNaN", "(F)Z"⟩, prog_18_method_6_code, 1, some .boolean, 16, 0, 0, 0)
        else
         (⟨"java/lang/Double", "doubleToLongBits", "(D)J"⟩, prog_17_method_23_code, 2, some .long, 15, 0, 1, 60)
       else
        (⟨"java/lang/Double", "isNaN", "(D)Z"⟩, prog_17_method_6_code, 2, some .boolean, 15, 0, 0, 0)
abbrev mN (y : Nat) : MethodName := (mi y).1
abbrev mB (y : Nat) : ByteArray := (mi y).2.1
abbrev mL (y : Nat) : Nat := (mi y).2.2.1
abbrev mR (y : Nat) : Option FieldType := (mi y).2.2.2.1
abbrev mC (y : Nat) : Nat := (mi y).2.2.2.2.1
abbrev mK (y : Nat) : Nat := (mi y).2.2.2.2.2.1
abbrev rF (y : Nat) : Nat := (mi y).2.2.2.2.2.2.1
abbrev rL (y : Nat) : Nat := (mi y).2.2.2.2.2.2.2
/-- field links: owner, index, class, field, place -/
def flk : List (Nat × Nat × Nat × Nat × Nat) := [(0, 9, 0, 1, 131), (0, 48, 0, 2, 132), (0, 63, 0, 0, 134), (1, 7, 1, 0, 547), (1, 13, 1, 1, 550), (1, 16, 1, 2, 552), (1, 20, 1, 3, 554), (2, 7, 2, 0, 336), (2, 13, 2, 1, 339), (3, 12, 3, 0, 219), (3, 28, 2, 0, 337), (3, 32, 3, 2, 222), (3, 36, 3, 3, 224), (4, 9, 4, 0, 385), (4, 15, 4, 2, 389), (4, 18, 4, 1, 387), (4, 22, 4, 3, 390), (5, 9, 5, 5, 879), (5, 15, 8, 0, 493), (5, 21, 5, 0, 869), (5, 22, 8, 1, 497), (5, 25, 5, 1, 871), (5, 26, 8, 2, 500), (5, 29, 5, 2, 873), (5, 30, 5, 3, 875), (5, 33, 5, 4, 877), (6, 9, 6, 3, 924), (6, 15, 6, 5, 927), (6, 19, 6, 0, 918), (6, 22, 6, 1, 920), (6, 25, 6, 2, 922), (6, 29, 5, 0, 870), (6, 35, 5, 5, 880), (7, 9, 7, 1, 748), (8, 9, 8, 0, 492), (8, 15, 8, 1, 496), (8, 19, 8, 2, 499), (8, 30, 8, 3, 502), (9, 10, 9, 0, 442), (9, 16, 9, 1, 444), (9, 29, 8, 0, 494), (9, 35, 1, 0, 548), (10, 9, 10, 2, 599), (10, 15, 10, 0, 595), (10, 19, 10, 1, 597), (11, 10, 11, 0, 143), (11, 16, 11, 1, 144), (11, 19, 11, 2, 145), (11, 22, 11, 3, 146), (11, 25, 11, 6, 149), (11, 28, 11, 10, 153), (11, 32, 11, 12, 155), (11, 36, 11, 13, 156), (11, 39, 11, 14, 157), (11, 42, 11, 15, 158), (11, 45, 11, 16, 159), (11, 48, 11, 7, 150), (11, 77, 3, 0, 220), (11, 97, 3, 1, 221), (11, 112, 4, 1, 388), (11, 115, 4, 0, 386), (11, 135, 9, 0, 443), (11, 154, 8, 0, 495), (11, 158, 8, 1, 498), (11, 164, 9, 1, 445), (11, 172, 11, 17, 160), (11, 175, 11, 8, 151), (11, 178, 11, 9, 152), (11, 181, 11, 4, 147), (11, 184, 11, 5, 148), (11, 187, 11, 11, 154), (11, 196, 9, 2, 446), (11, 221, 10, 2, 600), (11, 224, 10, 0, 596), (11, 231, 10, 1, 598), (11, 253, 7, 0, 747), (11, 258, 7, 1, 749), (11, 267, 7, 2, 750), (11, 282, 7, 3, 751), (11, 292, 6, 5, 928), (11, 298, 6, 0, 919), (11, 299, 6, 1, 921), (11, 302, 6, 2, 923), (11, 314, 6, 6, 929), (11, 320, 5, 2, 874), (11, 327, 11, 18, 161), (11, 330, 4, 3, 391), (11, 343, 3, 2, 223), (11, 344, 3, 3, 225), (11, 349, 8, 2, 501), (11, 382, 1, 0, 549), (11, 393, 1, 1, 551), (11, 396, 1, 2, 553), (11, 399, 1, 3, 555), (11, 420, 2, 1, 340), (11, 441, 7, 4, 752), (11, 488, 2, 0, 338), (11, 489, 6, 4, 926), (11, 496, 6, 3, 925), (11, 501, 5, 1, 872), (11, 502, 5, 3, 876), (11, 505, 8, 3, 503), (11, 538, 5, 4, 878), (11, 541, 5, 5, 881), (12, 7, 12, 1, 1050), (12, 13, 12, 2, 1051), (12, 17, 12, 3, 1052), (12, 21, 12, 4, 1053), (12, 24, 12, 6, 1055), (12, 27, 12, 7, 1056), (12, 30, 12, 8, 1057), (12, 33, 12, 9, 1058), (12, 36, 12, 10, 1059), (12, 39, 12, 11, 1060), (12, 42, 12, 12, 1061), (12, 45, 12, 13, 1062), (12, 48, 12, 14, 1063), (12, 51, 12, 15, 1064), (12, 54, 12, 17, 1066), (12, 57, 12, 18, 1067), (12, 60, 12, 19, 1068), (12, 63, 12, 21, 1070), (12, 66, 12, 27, 1076), (12, 69, 12, 28, 1077), (12, 72, 12, 29, 1078), (12, 75, 12, 31, 1080), (12, 78, 12, 32, 1081), (12, 81, 12, 33, 1082), (12, 84, 12, 34, 1083), (12, 87, 12, 35, 1084), (12, 90, 12, 36, 1085), (12, 93, 12, 37, 1086), (12, 96, 12, 38, 1087), (12, 99, 12, 40, 1089), (12, 103, 12, 41, 1090), (12, 106, 12, 42, 1091), (12, 109, 12, 43, 1092), (12, 112, 12, 44, 1093), (12, 115, 12, 46, 1095), (12, 118, 12, 47, 1096), (12, 121, 12, 48, 1097), (12, 124, 12, 49, 1098), (12, 127, 12, 50, 1099), (12, 130, 12, 51, 1100), (12, 133, 12, 52, 1101), (12, 136, 12, 53, 1102), (12, 139, 12, 54, 1103), (12, 142, 12, 55, 1104), (12, 145, 12, 56, 1105), (12, 148, 12, 57, 1106), (12, 151, 12, 58, 1107), (12, 154, 12, 59, 1108), (12, 157, 12, 61, 1110), (12, 160, 12, 22, 1071), (12, 173, 12, 0, 1049), (12, 180, 12, 5, 1054), (12, 186, 12, 16, 1065), (12, 189, 12, 23, 1072), (12, 207, 12, 20, 1069), (12, 262, 12, 24, 1073), (12, 265, 12, 25, 1074), (12, 268, 12, 26, 1075), (12, 271, 12, 30, 1079), (12, 287, 12, 39, 1088), (12, 340, 12, 45, 1094), (12, 369, 12, 62, 1111), (12, 373, 12, 60, 1109), (21, 7, 0, 0, 133)]
def refOf (o c k : Nat) : String := if o = 0 then (if c = 0 ∧ k = 0 then "java/util/ArrayList" else (fT c k).1) else (fT c k).1
theorem flk_ok : flk.all (fun r => decide (lw_tbl[r.2.2.2.2]? = some (.fieldLink (cnm r.1) r.2.1 (refOf r.1 r.2.2.1 r.2.2.2.1) (fT r.2.2.1 r.2.2.2.1).2.1 (fT r.2.2.1 r.2.2.2.1).2.2.1)) && decide (r.2.2.1 < 13) && decide (r.2.2.2.1 < nfl r.2.2.1)) = true := by decide +kernel
def stN (j : Nat) : String × String × String := [("FamilyFields", "CHECKED_SORTS", "[I"), ("FamilyFields", "WIDER_SORTS", "[I"), ("FamilyFields", "NOTHING", "[J"), ("java/util/ArrayList", "DEFAULTCAPACITY_EMPTY_ELEMENTDATA", "[Ljava/lang/Object;")].getD j ("", "", "")
/-- statics: owner, index, number, place -/
def slk : List (Nat × Nat × Nat × Nat) := [(0, 39, 3, 129), (11, 161, 0, 539), (11, 476, 2, 898)]
theorem slk_ok : slk.all (fun r => decide (lw_tbl[r.2.2.2]? = some (.fieldLink (cnm r.1) r.2.1 (stN r.2.2.1).1 (stN r.2.2.1).2.1 (stN r.2.2.1).2.2)) && decide (r.2.2.1 < 4)) = true := by decide +kernel
def nlk : List (Nat × Nat × Nat × Nat) := [(5, 47, 1, 973)]
theorem nlk_ok : nlk.all (fun r => decide (lw_tbl[r.2.2.2]? = some (.fieldLinkNest (cnm r.1) r.2.1 (stN r.2.2.1).1 (stN r.2.2.1).2.1 (stN r.2.2.1).2.2 "FamilyFields")) && decide (r.2.2.1 < 4)) = true := by decide +kernel
def anm (c : Nat) : String := if c < 13 then cnm c else if c = 21 then "[J" else if c = 23 then "[Ljava/lang/Object;" else "java/lang/Object"
/-- class links: owner, index, kind, place -/
def clk : List (Nat × Nat × Nat × Nat) := [(0, 7, 33, 294), (3, 9, 0, 217), (3, 26, 2, 329), (9, 7, 0, 440), (9, 27, 8, 468), (9, 33, 1, 525), (11, 7, 0, 117), (11, 56, 3, 211), (11, 80, 2, 330), (11, 101, 4, 379), (11, 121, 9, 434), (11, 138, 8, 473), (11, 167, 1, 541), (11, 199, 6, 573), (11, 217, 10, 589), (11, 254, 7, 665), (11, 310, 5, 848), (14, 7, 11, 109), (14, 10, 12, 1043), (22, 2, 33, 286), (22, 110, 23, 284), (22, 320, 21, 909)]
theorem clk_ok : clk.all (fun r => decide (lw_tbl[r.2.2.2]? = some (.classLink (cnm r.1) r.2.1 (anm r.2.2.1)))) = true := by decide +kernel
def ilk : List (Nat × Nat × Int32 × Nat) := [(11, 244, (-2147483648), 769), (12, 222, 2147483647, 1322), (12, 223, 2139095040, 1323), (12, 325, (-2147483648), 1444), (13, 17, 2147483647, 482), (13, 20, 2139095040, 483), (13, 53, (-2147483648), 1001), (13, 64, 8388607, 706), (16, 77, 2143289344, 1538), (17, 264, 65536, 713), (24, 200, 2147483639, 257)]
theorem ilk_ok : ilk.all (fun r => decide (lw_tbl[r.2.2.2]? = some (.constant (cnm r.1) r.2.1 r.2.2.1))) = true := by decide +kernel
def jlk : List (Nat × Nat × Int64 × Nat) := [(8, 28, (-1), 491), (11, 251, (-9223372036854775808), 774), (11, 347, (-1), 656), (11, 406, 8, 727), (12, 163, 255, 1258), (12, 165, 97, 1259), (12, 167, 122, 1260), (12, 218, 11, 1313), (12, 220, 7, 1314), (12, 224, 2143289344, 1324), (12, 226, 9223372036854775807, 1325), (12, 228, 9218868437227405312, 1326), (12, 230, 9221120237041090560, 1327), (12, 246, (-1), 1328), (12, 255, 5, 1352), (12, 257, 4, 1353), (12, 304, 8, 1439), (12, 326, (-9223372036854775808), 1449), (12, 331, 2, 1474), (12, 350, 3, 1514), (12, 352, 6, 1515), (13, 9, 255, 320), (13, 11, 97, 321), (13, 13, 122, 322), (13, 21, 2143289344, 484), (13, 27, 9221120237041090560, 490), (13, 31, 9223372036854775807, 488), (13, 33, 9218868437227405312, 489), (13, 54, (-9223372036854775808), 705), (13, 65, 8388608, 714), (14, 18, 4294967295, 1575), (15, 137, 9221120237041090560, 1528), (18, 314, 6148914691236517205, 862), (18, 316, 3689348814741910323, 863), (18, 318, 1085102592571150095, 864)]
theorem jlk_ok : jlk.all (fun r => decide (lw_tbl[r.2.2.2]? = some (.constantLong (cnm r.1) r.2.1 r.2.2.1))) = true := by decide +kernel
/-- method links: owner, index, method, place -/
def mlk : List (Nat × Nat × Nat × Nat) := [(0, 1, 10, 122), (0, 66, 23, 261), (0, 69, 12, 247), (0, 73, 27, 251), (0, 79, 7, 293), (0, 118, 26, 307), (0, 123, 15, 313), (0, 129, 13, 243), (0, 131, 18, 239), (0, 144, 21, 366), (2, 17, 43, 819), (3, 11, 11, 218), (3, 18, 14, 327), (3, 22, 16, 328), (4, 25, 51, 425), (4, 29, 52, 421), (5, 37, 55, 1018), (5, 41, 47, 1034), (8, 22, 31, 479), (9, 9, 11, 441), (9, 19, 14, 466), (9, 23, 16, 467), (9, 39, 20, 526), (10, 22, 22, 612), (11, 9, 11, 119), (11, 52, 14, 207), (11, 58, 45, 213), (11, 59, 19, 235), (11, 63, 107, 299), (11, 67, 30, 317), (11, 73, 47, 323), (11, 82, 42, 332), (11, 85, 46, 350), (11, 89, 17, 354), (11, 93, 20, 362), (11, 103, 49, 381), (11, 104, 109, 405), (11, 108, 50, 409), (11, 118, 115, 413), (11, 123, 64, 436), (11, 124, 108, 458), (11, 128, 66, 462), (11, 131, 114, 469), (11, 140, 63, 475), (11, 143, 65, 517), (11, 147, 67, 521), (11, 151, 68, 527), (11, 169, 41, 543), (11, 190, 16, 303), (11, 193, 48, 569), (11, 201, 61, 574), (11, 204, 113, 582), (11, 208, 120, 585), (11, 212, 110, 619), (11, 216, 71, 623), (11, 227, 31, 627), (11, 234, 121, 644), (11, 238, 126, 671), (11, 245, 111, 661), (11, 261, 51, 670), (11, 264, 133, 787), (11, 270, 117, 687), (11, 273, 43, 811), (11, 276, 44, 815), (11, 279, 137, 828), (11, 285, 139, 836), (11, 288, 112, 949), (11, 295, 146, 953), (11, 305, 60, 961), (11, 309, 56, 1014), (11, 317, 155, 1022), (11, 323, 57, 1030), (11, 333, 53, 417), (11, 337, 52, 429), (11, 340, 118, 679), (11, 350, 69, 591), (11, 351, 70, 608), (11, 355, 122, 648), (11, 359, 124, 652), (11, 363, 123, 657), (11, 366, 125, 666), (11, 370, 116, 675), (11, 374, 119, 683), (11, 378, 127, 691), (11, 385, 128, 695), (11, 389, 132, 738), (11, 402, 34, 699), (11, 408, 129, 728), (11, 412, 130, 731), (11, 416, 131, 734), (11, 423, 62, 743), (11, 430, 134, 791), (11, 433, 135, 795), (11, 437, 136, 799), (11, 444, 138, 832), (11, 448, 140, 840), (11, 452, 141, 844), (11, 455, 142, 850), (11, 459, 59, 914), (11, 462, 145, 855), (11, 466, 54, 865), (11, 469, 143, 895), (11, 473, 144, 910), (11, 479, 25, 900), (11, 485, 6, 859), (11, 492, 147, 957), (11, 497, 148, 965), (11, 508, 58, 969), (11, 512, 149, 975), (11, 516, 150, 1002), (11, 520, 151, 979), (11, 524, 152, 983), (11, 527, 153, 987), (11, 531, 154, 991), (11, 534, 33, 995), (12, 169, 157, 1252), (12, 176, 159, 1248), (12, 183, 161, 1293), (12, 192, 158, 1255), (12, 196, 165, 1261), (12, 200, 160, 1269), (12, 204, 163, 1289), (12, 210, 173, 1410), (12, 214, 172, 1406), (12, 232, 178, 1305), (12, 235, 176, 1309), (12, 238, 180, 1315), (12, 242, 177, 1319), (12, 248, 162, 1333), (12, 251, 181, 1337), (12, 259, 184, 1349), (12, 274, 189, 1366), (12, 278, 191, 1374), (12, 281, 196, 1398), (12, 284, 174, 1402), (12, 290, 187, 1418), (12, 293, 198, 1422), (12, 297, 200, 1426), (12, 300, 201, 1430), (12, 318, 197, 1394), (12, 322, 199, 1414), (12, 328, 207, 1462), (12, 333, 210, 1475), (12, 337, 212, 1483), (12, 343, 214, 1487), (12, 346, 215, 1491), (12, 354, 1, 1519), (12, 358, 3, 1529), (12, 362, 216, 1511), (12, 365, 217, 1516), (12, 376, 220, 1539), (12, 380, 221, 1543), (12, 383, 218, 1499), (12, 386, 223, 1503), (12, 389, 219, 1507), (12, 392, 225, 1559), (12, 396, 226, 1555), (13, 23, 32, 485), (13, 35, 36, 998), (13, 39, 40, 702), (13, 43, 37, 718), (13, 46, 35, 715), (13, 49, 38, 721), (13, 56, 5, 707), (13, 60, 39, 724), (14, 9, 72, 111), (14, 12, 156, 1045), (14, 13, 73, 203), (14, 17, 164, 1240), (14, 20, 74, 295), (14, 24, 166, 1244), (14, 25, 75, 346), (14, 29, 167, 1265), (14, 30, 76, 358), (14, 34, 168, 1273), (14, 35, 77, 371), (14, 39, 169, 1277), (14, 40, 78, 375), (14, 43, 170, 1281), (14, 44, 79, 401), (14, 48, 171, 1285), (14, 49, 80, 430), (14, 52, 175, 1297), (14, 53, 81, 454), (14, 57, 179, 1301), (14, 58, 82, 513), (14, 61, 182, 1329), (14, 62, 83, 531), (14, 66, 183, 1341), (14, 67, 84, 535), (14, 71, 185, 1345), (14, 72, 85, 565), (14, 75, 186, 1354), (14, 76, 86, 578), (14, 79, 190, 1362), (14, 80, 87, 615), (14, 84, 192, 1370), (14, 85, 88, 628), (14, 89, 193, 1378), (14, 90, 89, 632), (14, 94, 194, 1382), (14, 95, 90, 636), (14, 99, 195, 1386), (14, 100, 91, 640), (14, 103, 202, 1390), (14, 104, 92, 765), (14, 107, 203, 1440), (14, 108, 93, 770), (14, 111, 204, 1445), (14, 112, 94, 775), (14, 115, 205, 1450), (14, 116, 95, 779), (14, 119, 206, 1454), (14, 120, 96, 783), (14, 123, 208, 1458), (14, 124, 97, 803), (14, 127, 209, 1466), (14, 128, 98, 807), (14, 132, 211, 1470), (14, 133, 99, 820), (14, 136, 188, 1358), (14, 137, 100, 824), (14, 140, 213, 1479), (14, 141, 101, 945), (14, 144, 222, 1495), (14, 145, 102, 1006), (14, 148, 224, 1547), (14, 149, 103, 1010), (14, 153, 227, 1551), (14, 154, 104, 1026), (14, 158, 228, 1563), (14, 159, 105, 1035), (14, 162, 229, 1567), (14, 163, 106, 1039), (14, 166, 230, 1571), (15, 122, 0, 1522), (16, 59, 2, 1532), (18, 308, 4, 710), (21, 1, 9, 125), (22, 300, 24, 281), (22, 304, 8, 287), (23, 105, 29, 310), (24, 194, 7, 254), (24, 201, 28, 258)]
theorem mlk_ok : mlk.all (fun r => decide (lw_tbl[r.2.2.2]? = some (.methodLink (cnm r.1) r.2.1 (mN r.2.2.1)))) = true := by decide +kernel
def spN (z : Nat) : MethodName := [⟨"java/lang/Object", "<init>", "()V"⟩, ⟨"java/lang/System", "arraycopy", "(Ljava/lang/Object;ILjava/lang/Object;II)V"⟩, ⟨"java/lang/System", "arraycopy", "(Ljava/lang/Object;ILjava/lang/Object;II)V"⟩, ⟨"java/lang/Object", "getClass", "()Ljava/lang/Class;"⟩, ⟨"[J", "clone", "()Ljava/lang/Object;"⟩, ⟨"java/lang/Float", "intBitsToFloat", "(I)F"⟩, ⟨"java/lang/Double", "longBitsToDouble", "(J)D"⟩, ⟨"java/lang/Double", "doubleToRawLongBits", "(D)J"⟩, ⟨"java/lang/Float", "floatToRawIntBits", "(F)I"⟩].getD (z - 9000) ⟨"", "", ""⟩
/-- links to the machine's own: owner, index, number, place -/
def plk : List (Nat × Nat × Nat × Nat) := [(0, 112, 9002, 370), (1, 1, 9000, 546), (2, 1, 9000, 335), (3, 3, 9000, 216), (4, 3, 9000, 384), (5, 3, 9000, 868), (6, 3, 9000, 917), (7, 3, 9000, 746), (8, 3, 9000, 478), (9, 1, 9000, 439), (10, 3, 9000, 594), (11, 1, 9000, 114), (11, 424, 9001, 764), (12, 1, 9000, 1048), (12, 306, 9005, 1433), (12, 312, 9006, 1436), (15, 134, 9007, 1525), (16, 74, 9008, 1535), (20, 1, 9000, 128), (22, 86, 9003, 264), (22, 150, 9001, 290), (22, 150, 9002, 290), (22, 319, 9004, 903)]
theorem plk_ok : plk.all (fun r => decide (lw_tbl[r.2.2.2]? = some (.methodLink (cnm r.1) r.2.1 (spN r.2.2.1)))) = true := by decide +kernel
/-- methods that are called: number, places of code, of static or instanceMethod, of selects, of initialized -/
def mpl : List (Nat × Nat × Nat × Nat × Nat) := [(0, 1524, 1523, 0, 106), (1, 1521, 1520, 0, 106), (2, 1534, 1533, 0, 105), (3, 1531, 1530, 0, 105), (4, 712, 711, 0, 103), (5, 709, 708, 0, 102), (6, 861, 860, 0, 102), (7, 256, 255, 0, 89), (8, 289, 288, 0, 89), (9, 127, 126, 0, 83), (10, 124, 123, 0, 84), (11, 121, 120, 0, 85), (12, 250, 249, 2, 85), (13, 246, 245, 1, 85), (14, 210, 208, 209, 85), (15, 316, 314, 315, 85), (16, 306, 304, 305, 85), (17, 357, 355, 356, 85), (18, 242, 241, 0, 85), (19, 238, 236, 237, 85), (20, 365, 363, 364, 85), (21, 369, 368, 4, 85), (22, 614, 613, 0, 90), (23, 263, 262, 0, 90), (24, 283, 282, 0, 90), (25, 902, 901, 0, 90), (26, 309, 308, 0, 92), (27, 253, 252, 0, 88), (28, 260, 259, 0, 88), (29, 312, 311, 0, 93), (30, 319, 318, 0, 94), (31, 481, 480, 0, 94), (32, 487, 486, 0, 94), (33, 997, 996, 0, 94), (34, 701, 700, 0, 94), (35, 717, 716, 0, 94), (36, 1000, 999, 0, 94), (37, 720, 719, 0, 94), (38, 723, 722, 0, 94), (39, 726, 725, 0, 94), (40, 704, 703, 0, 94), (41, 545, 544, 0, 99), (42, 334, 333, 0, 95), (43, 814, 812, 813, 95), (44, 818, 816, 817, 95), (45, 215, 214, 0, 87), (46, 353, 351, 352, 87), (47, 326, 324, 325, 87), (48, 572, 570, 571, 87), (49, 383, 382, 0, 96), (50, 412, 410, 411, 96), (51, 428, 426, 427, 96), (52, 424, 422, 423, 96), (53, 420, 418, 419, 96), (54, 867, 866, 0, 107), (55, 1021, 1019, 1020, 107), (56, 1017, 1015, 1016, 107), (57, 1033, 1031, 1032, 107), (58, 972, 970, 971, 107), (59, 916, 915, 0, 108), (60, 964, 962, 963, 108), (61, 577, 575, 576, 108), (62, 745, 744, 0, 104), (63, 477, 476, 0, 98), (64, 438, 437, 0, 97), (65, 520, 518, 519, 97), (66, 465, 463, 464, 97), (67, 524, 522, 523, 97), (68, 530, 528, 529, 97), (69, 593, 592, 0, 100), (70, 611, 609, 610, 100), (71, 626, 624, 625, 100), (72, 113, 112, 0, 82), (73, 206, 204, 205, 82), (74, 298, 296, 297, 82), (75, 349, 347, 348, 82), (76, 361, 359, 360, 82), (77, 374, 372, 373, 82), (78, 378, 376, 377, 82), (79, 404, 402, 403, 82), (80, 433, 431, 432, 82), (81, 457, 455, 456, 82), (82, 516, 514, 515, 82), (83, 534, 532, 533, 82), (84, 538, 536, 537, 82), (85, 568, 566, 567, 82), (86, 581, 579, 580, 82), (87, 618, 616, 617, 82), (88, 631, 629, 630, 82), (89, 635, 633, 634, 82), (90, 639, 637, 638, 82), (91, 643, 641, 642, 82), (92, 768, 766, 767, 82), (93, 773, 771, 772, 82), (94, 778, 776, 777, 82), (95, 782, 780, 781, 82), (96, 786, 784, 785, 82), (97, 806, 804, 805, 82), (98, 810, 808, 809, 82), (99, 823, 821, 822, 82), (100, 827, 825, 826, 82), (101, 948, 946, 947, 82), (102, 1009, 1007, 1008, 82), (103, 1013, 1011, 1012, 82), (104, 1029, 1027, 1028, 82), (105, 1038, 1036, 1037, 82), (106, 1042, 1040, 1041, 82), (107, 302, 301, 3, 82), (108, 461, 460, 7, 82), (109, 408, 407, 5, 82), (110, 622, 621, 10, 82), (111, 664, 663, 15, 82), (112, 952, 951, 37, 82), (113, 584, 583, 0, 82), (114, 472, 471, 8, 82), (115, 416, 415, 6, 82), (116, 678, 677, 18, 82), (117, 690, 689, 21, 82), (118, 682, 681, 19, 82), (119, 686, 685, 20, 82), (120, 588, 587, 9, 82), (121, 647, 646, 11, 82), (122, 651, 650, 12, 82), (123, 660, 659, 14, 82), (124, 655, 654, 13, 82), (125, 669, 668, 16, 82), (126, 674, 673, 17, 82), (127, 694, 693, 22, 82), (128, 698, 697, 23, 82), (129, 730, 729, 0, 82), (130, 733, 732, 0, 82), (131, 737, 736, 24, 82), (132, 741, 740, 25, 82), (133, 790, 789, 26, 82), (134, 794, 793, 27, 82), (135, 798, 797, 28, 82), (136, 802, 801, 29, 82), (137, 831, 830, 30, 82), (138, 835, 834, 31, 82), (139, 839, 838, 32, 82), (140, 843, 842, 33, 82), (141, 847, 846, 34, 82), (142, 853, 852, 35, 82), (143, 897, 896, 0, 82), (144, 912, 911, 0, 82), (145, 858, 857, 36, 82), (146, 956, 955, 38, 82), (147, 960, 959, 39, 82), (148, 968, 967, 40, 82), (149, 978, 977, 41, 82), (150, 1005, 1004, 46, 82), (151, 982, 981, 42, 82), (152, 986, 985, 43, 82), (153, 990, 989, 44, 82), (154, 994, 993, 45, 82), (155, 1025, 1024, 47, 82), (156, 1047, 1046, 0, 86), (157, 1254, 1253, 0, 86), (158, 1257, 1256, 0, 86), (159, 1251, 1250, 48, 86), (160, 1272, 1271, 50, 86), (161, 1296, 1295, 52, 86), (162, 1336, 1335, 56, 86), (163, 1292, 1291, 51, 86), (164, 1243, 1241, 1242, 86), (165, 1264, 1263, 49, 86), (166, 1247, 1245, 1246, 86), (167, 1268, 1266, 1267, 86), (168, 1276, 1274, 1275, 86), (169, 1280, 1278, 1279, 86), (170, 1284, 1282, 1283, 86), (171, 1288, 1286, 1287, 86), (172, 1409, 1408, 63, 86), (173, 1413, 1412, 64, 86), (174, 1405, 1404, 62, 86), (175, 1300, 1298, 1299, 86), (176, 1312, 1311, 54, 86), (177, 1321, 1320, 0, 86), (178, 1308, 1307, 53, 86), (179, 1304, 1302, 1303, 86), (180, 1318, 1317, 55, 86), (181, 1340, 1339, 57, 86), (182, 1332, 1330, 1331, 86), (183, 1344, 1342, 1343, 86), (184, 1351, 1350, 0, 86), (185, 1348, 1346, 1347, 86), (186, 1357, 1355, 1356, 86), (187, 1421, 1420, 66, 86), (188, 1361, 1359, 1360, 86), (189, 1369, 1368, 58, 86), (190, 1365, 1363, 1364, 86), (191, 1377, 1376, 59, 86), (192, 1373, 1371, 1372, 86), (193, 1381, 1379, 1380, 86), (194, 1385, 1383, 1384, 86), (195, 1389, 1387, 1388, 86), (196, 1401, 1400, 61, 86), (197, 1397, 1396, 60, 86), (198, 1425, 1424, 67, 86), (199, 1417, 1416, 65, 86), (200, 1429, 1428, 68, 86), (201, 1432, 1431, 0, 86), (202, 1393, 1391, 1392, 86), (203, 1443, 1441, 1442, 86), (204, 1448, 1446, 1447, 86), (205, 1453, 1451, 1452, 86), (206, 1457, 1455, 1456, 86), (207, 1465, 1464, 69, 86), (208, 1461, 1459, 1460, 86), (209, 1469, 1467, 1468, 86), (210, 1478, 1477, 70, 86), (211, 1473, 1471, 1472, 86), (212, 1486, 1485, 71, 86), (213, 1482, 1480, 1481, 86), (214, 1490, 1489, 72, 86), (215, 1494, 1493, 73, 86), (216, 1513, 1512, 0, 86), (217, 1518, 1517, 0, 86), (218, 1502, 1501, 74, 86), (219, 1510, 1509, 76, 86), (220, 1542, 1541, 77, 86), (221, 1546, 1545, 78, 86), (222, 1498, 1496, 1497, 86), (223, 1506, 1505, 75, 86), (224, 1550, 1548, 1549, 86), (225, 1562, 1561, 80, 86), (226, 1558, 1557, 79, 86), (227, 1554, 1552, 1553, 86), (228, 1566, 1564, 1565, 86), (229, 1570, 1568, 1569, 86), (230, 1574, 1572, 1573, 86)]
def mplB (r : Nat × Nat × Nat × Nat × Nat) : Bool := decide (lw_tbl[r.2.2.1]? = some (if mK r.1 = 0 then .static (mN r.1) else .instanceMethod (mN r.1))) && (decide (mK r.1 ≠ 1) || decide (lw_tbl[r.2.2.2.1]? = some (.selects (mN r.1).cls (mN r.1) (mN r.1)))) && decide (lw_tbl[r.2.2.2.2]? = some (.initialized (mN r.1).cls)) && decide ((mN r.1).cls = cnm (mC r.1)) && decide ((mN r.1).cls ≠ "java/lang/invoke/MethodHandle") && decide ((mN r.1).cls ≠ "java/lang/invoke/VarHandle") && (decide (mK r.1 ≠ 2) || decide ((mN r.1).name = "<init>"))
theorem mpl_ok : mpl.all mplB = true := by decide +kernel
theorem mpl_all : mpl.map (fun r => r.1) = List.range 231 := by decide +kernel
theorem in_t {w : Cond} (h : w ∈ tables_1) : w ∈ lw_tbl := List.mem_append_right _ h
theorem in_t1 {w : Cond} (h : w ∈ tables_1_1) : w ∈ lw_tbl := in_t (List.mem_append_left _ h)
theorem in_t2 {w : Cond} (h : w ∈ tables_1_2) : w ∈ lw_tbl := in_t (List.mem_append_right _ (List.mem_append_left _ h))
theorem in_t3 {w : Cond} (h : w ∈ tables_1_3) : w ∈ lw_tbl := in_t (List.mem_append_right _ (List.mem_append_right _ (List.mem_append_left _ h)))
theorem in_t4 {w : Cond} (h : w ∈ tables_1_4) : w ∈ lw_tbl := in_t (List.mem_append_right _ (List.mem_append_right _ (List.mem_append_right _ (List.mem_append_left _ h))))
theorem in_t5 {w : Cond} (h : w ∈ tables_1_5) : w ∈ lw_tbl := in_t (List.mem_append_right _ (List.mem_append_right _ (List.mem_append_right _ (List.mem_append_right _ (List.mem_append_left _ h)))))
theorem in_t6 {w : Cond} (h : w ∈ tables_1_6) : w ∈ lw_tbl := in_t (List.mem_append_right _ (List.mem_append_right _ (List.mem_append_right _ (List.mem_append_right _ (List.mem_append_right _ (List.mem_append_left _ h))))))
theorem in_t7 {w : Cond} (h : w ∈ tables_1_7) : w ∈ lw_tbl := in_t (List.mem_append_right _ (List.mem_append_right _ (List.mem_append_right _ (List.mem_append_right _ (List.mem_append_right _ (List.mem_append_right _ h))))))
theorem mcd_0 : Cond.code (mN 0) (mB 0) (mL 0) (mR 0) ∈ lw_tbl := in_t7 (List.mem_of_getElem? (i := 3) rfl)
theorem mcd_1 : Cond.code (mN 1) (mB 1) (mL 1) (mR 1) ∈ lw_tbl := in_t7 (List.mem_of_getElem? (i := 0) rfl)
theorem mcd_2 : Cond.code (mN 2) (mB 2) (mL 2) (mR 2) ∈ lw_tbl := in_t7 (List.mem_of_getElem? (i := 13) rfl)
theorem mcd_3 : Cond.code (mN 3) (mB 3) (mL 3) (mR 3) ∈ lw_tbl := in_t7 (List.mem_of_getElem? (i := 10) rfl)
theorem mcd_4 : Cond.code (mN 4) (mB 4) (mL 4) (mR 4) ∈ lw_tbl := in_t3 (List.mem_of_getElem? (i := 151) rfl)
theorem mcd_5 : Cond.code (mN 5) (mB 5) (mL 5) (mR 5) ∈ lw_tbl := in_t3 (List.mem_of_getElem? (i := 148) rfl)
theorem mcd_6 : Cond.code (mN 6) (mB 6) (mL 6) (mR 6) ∈ lw_tbl := in_t4 (List.mem_of_getElem? (i := 60) rfl)
theorem mcd_7 : Cond.code (mN 7) (mB 7) (mL 7) (mR 7) ∈ lw_tbl := in_t1 (List.mem_of_getElem? (i := 175) rfl)
theorem mcd_8 : Cond.code (mN 8) (mB 8) (mL 8) (mR 8) ∈ lw_tbl := in_t1 (List.mem_of_getElem? (i := 208) rfl)
theorem mcd_9 : Cond.code (mN 9) (mB 9) (mL 9) (mR 9) ∈ lw_tbl := in_t1 (List.mem_of_getElem? (i := 46) rfl)
theorem mcd_10 : Cond.code (mN 10) (mB 10) (mL 10) (mR 10) ∈ lw_tbl := in_t1 (List.mem_of_getElem? (i := 43) rfl)
theorem mcd_11 : Cond.code (mN 11) (mB 11) (mL 11) (mR 11) ∈ lw_tbl := in_t1 (List.mem_of_getElem? (i := 40) rfl)
theorem mcd_12 : Cond.code (mN 12) (mB 12) (mL 12) (mR 12) ∈ lw_tbl := in_t1 (List.mem_of_getElem? (i := 169) rfl)
theorem mcd_13 : Cond.code (mN 13) (mB 13) (mL 13) (mR 13) ∈ lw_tbl := in_t1 (List.mem_of_getElem? (i := 165) rfl)
theorem mcd_14 : Cond.code (mN 14) (mB 14) (mL 14) (mR 14) ∈ lw_tbl := in_t1 (List.mem_of_getElem? (i := 129) rfl)
theorem mcd_15 : Cond.code (mN 15) (mB 15) (mL 15) (mR 15) ∈ lw_tbl := in_t1 (List.mem_of_getElem? (i := 235) rfl)
theorem mcd_16 : Cond.code (mN 16) (mB 16) (mL 16) (mR 16) ∈ lw_tbl := in_t1 (List.mem_of_getElem? (i := 225) rfl)
theorem mcd_17 : Cond.code (mN 17) (mB 17) (mL 17) (mR 17) ∈ lw_tbl := in_t2 (List.mem_of_getElem? (i := 36) rfl)
theorem mcd_18 : Cond.code (mN 18) (mB 18) (mL 18) (mR 18) ∈ lw_tbl := in_t1 (List.mem_of_getElem? (i := 161) rfl)
theorem mcd_19 : Cond.code (mN 19) (mB 19) (mL 19) (mR 19) ∈ lw_tbl := in_t1 (List.mem_of_getElem? (i := 157) rfl)
theorem mcd_20 : Cond.code (mN 20) (mB 20) (mL 20) (mR 20) ∈ lw_tbl := in_t2 (List.mem_of_getElem? (i := 44) rfl)
theorem mcd_21 : Cond.code (mN 21) (mB 21) (mL 21) (mR 21) ∈ lw_tbl := in_t2 (List.mem_of_getElem? (i := 48) rfl)
theorem mcd_22 : Cond.code (mN 22) (mB 22) (mL 22) (mR 22) ∈ lw_tbl := in_t3 (List.mem_of_getElem? (i := 53) rfl)
theorem mcd_23 : Cond.code (mN 23) (mB 23) (mL 23) (mR 23) ∈ lw_tbl := in_t1 (List.mem_of_getElem? (i := 182) rfl)
theorem mcd_24 : Cond.code (mN 24) (mB 24) (mL 24) (mR 24) ∈ lw_tbl := in_t1 (List.mem_of_getElem? (i := 202) rfl)
theorem mcd_25 : Cond.code (mN 25) (mB 25) (mL 25) (mR 25) ∈ lw_tbl := in_t4 (List.mem_of_getElem? (i := 101) rfl)
theorem mcd_26 : Cond.code (mN 26) (mB 26) (mL 26) (mR 26) ∈ lw_tbl := in_t1 (List.mem_of_getElem? (i := 228) rfl)
theorem mcd_27 : Cond.code (mN 27) (mB 27) (mL 27) (mR 27) ∈ lw_tbl := in_t1 (List.mem_of_getElem? (i := 172) rfl)
theorem mcd_28 : Cond.code (mN 28) (mB 28) (mL 28) (mR 28) ∈ lw_tbl := in_t1 (List.mem_of_getElem? (i := 179) rfl)
theorem mcd_29 : Cond.code (mN 29) (mB 29) (mL 29) (mR 29) ∈ lw_tbl := in_t1 (List.mem_of_getElem? (i := 231) rfl)
theorem mcd_30 : Cond.code (mN 30) (mB 30) (mL 30) (mR 30) ∈ lw_tbl := in_t1 (List.mem_of_getElem? (i := 238) rfl)
theorem mcd_31 : Cond.code (mN 31) (mB 31) (mL 31) (mR 31) ∈ lw_tbl := in_t2 (List.mem_of_getElem? (i := 160) rfl)
theorem mcd_32 : Cond.code (mN 32) (mB 32) (mL 32) (mR 32) ∈ lw_tbl := in_t2 (List.mem_of_getElem? (i := 166) rfl)
theorem mcd_33 : Cond.code (mN 33) (mB 33) (mL 33) (mR 33) ∈ lw_tbl := in_t4 (List.mem_of_getElem? (i := 196) rfl)
theorem mcd_34 : Cond.code (mN 34) (mB 34) (mL 34) (mR 34) ∈ lw_tbl := in_t3 (List.mem_of_getElem? (i := 140) rfl)
theorem mcd_35 : Cond.code (mN 35) (mB 35) (mL 35) (mR 35) ∈ lw_tbl := in_t3 (List.mem_of_getElem? (i := 156) rfl)
theorem mcd_36 : Cond.code (mN 36) (mB 36) (mL 36) (mR 36) ∈ lw_tbl := in_t4 (List.mem_of_getElem? (i := 199) rfl)
theorem mcd_37 : Cond.code (mN 37) (mB 37) (mL 37) (mR 37) ∈ lw_tbl := in_t3 (List.mem_of_getElem? (i := 159) rfl)
theorem mcd_38 : Cond.code (mN 38) (mB 38) (mL 38) (mR 38) ∈ lw_tbl := in_t3 (List.mem_of_getElem? (i := 162) rfl)
theorem mcd_39 : Cond.code (mN 39) (mB 39) (mL 39) (mR 39) ∈ lw_tbl := in_t3 (List.mem_of_getElem? (i := 165) rfl)
theorem mcd_40 : Cond.code (mN 40) (mB 40) (mL 40) (mR 40) ∈ lw_tbl := in_t3 (List.mem_of_getElem? (i := 143) rfl)
theorem mcd_41 : Cond.code (mN 41) (mB 41) (mL 41) (mR 41) ∈ lw_tbl := in_t2 (List.mem_of_getElem? (i := 224) rfl)
theorem mcd_42 : Cond.code (mN 42) (mB 42) (mL 42) (mR 42) ∈ lw_tbl := in_t2 (List.mem_of_getElem? (i := 13) rfl)
theorem mcd_43 : Cond.code (mN 43) (mB 43) (mL 43) (mR 43) ∈ lw_tbl := in_t4 (List.mem_of_getElem? (i := 13) rfl)
theorem mcd_44 : Cond.code (mN 44) (mB 44) (mL 44) (mR 44) ∈ lw_tbl := in_t4 (List.mem_of_getElem? (i := 17) rfl)
theorem mcd_45 : Cond.code (mN 45) (mB 45) (mL 45) (mR 45) ∈ lw_tbl := in_t1 (List.mem_of_getElem? (i := 134) rfl)
theorem mcd_46 : Cond.code (mN 46) (mB 46) (mL 46) (mR 46) ∈ lw_tbl := in_t2 (List.mem_of_getElem? (i := 32) rfl)
theorem mcd_47 : Cond.code (mN 47) (mB 47) (mL 47) (mR 47) ∈ lw_tbl := in_t2 (List.mem_of_getElem? (i := 5) rfl)
theorem mcd_48 : Cond.code (mN 48) (mB 48) (mL 48) (mR 48) ∈ lw_tbl := in_t3 (List.mem_of_getElem? (i := 11) rfl)
theorem mcd_49 : Cond.code (mN 49) (mB 49) (mL 49) (mR 49) ∈ lw_tbl := in_t2 (List.mem_of_getElem? (i := 62) rfl)
theorem mcd_50 : Cond.code (mN 50) (mB 50) (mL 50) (mR 50) ∈ lw_tbl := in_t2 (List.mem_of_getElem? (i := 91) rfl)
theorem mcd_51 : Cond.code (mN 51) (mB 51) (mL 51) (mR 51) ∈ lw_tbl := in_t2 (List.mem_of_getElem? (i := 107) rfl)
theorem mcd_52 : Cond.code (mN 52) (mB 52) (mL 52) (mR 52) ∈ lw_tbl := in_t2 (List.mem_of_getElem? (i := 103) rfl)
theorem mcd_53 : Cond.code (mN 53) (mB 53) (mL 53) (mR 53) ∈ lw_tbl := in_t2 (List.mem_of_getElem? (i := 99) rfl)
theorem mcd_54 : Cond.code (mN 54) (mB 54) (mL 54) (mR 54) ∈ lw_tbl := in_t4 (List.mem_of_getElem? (i := 66) rfl)
theorem mcd_55 : Cond.code (mN 55) (mB 55) (mL 55) (mR 55) ∈ lw_tbl := in_t4 (List.mem_of_getElem? (i := 220) rfl)
theorem mcd_56 : Cond.code (mN 56) (mB 56) (mL 56) (mR 56) ∈ lw_tbl := in_t4 (List.mem_of_getElem? (i := 216) rfl)
theorem mcd_57 : Cond.code (mN 57) (mB 57) (mL 57) (mR 57) ∈ lw_tbl := in_t4 (List.mem_of_getElem? (i := 232) rfl)
theorem mcd_58 : Cond.code (mN 58) (mB 58) (mL 58) (mR 58) ∈ lw_tbl := in_t4 (List.mem_of_getElem? (i := 171) rfl)
theorem mcd_59 : Cond.code (mN 59) (mB 59) (mL 59) (mR 59) ∈ lw_tbl := in_t4 (List.mem_of_getElem? (i := 115) rfl)
theorem mcd_60 : Cond.code (mN 60) (mB 60) (mL 60) (mR 60) ∈ lw_tbl := in_t4 (List.mem_of_getElem? (i := 163) rfl)
theorem mcd_61 : Cond.code (mN 61) (mB 61) (mL 61) (mR 61) ∈ lw_tbl := in_t3 (List.mem_of_getElem? (i := 16) rfl)
theorem mcd_62 : Cond.code (mN 62) (mB 62) (mL 62) (mR 62) ∈ lw_tbl := in_t3 (List.mem_of_getElem? (i := 184) rfl)
theorem mcd_63 : Cond.code (mN 63) (mB 63) (mL 63) (mR 63) ∈ lw_tbl := in_t2 (List.mem_of_getElem? (i := 156) rfl)
theorem mcd_64 : Cond.code (mN 64) (mB 64) (mL 64) (mR 64) ∈ lw_tbl := in_t2 (List.mem_of_getElem? (i := 117) rfl)
theorem mcd_65 : Cond.code (mN 65) (mB 65) (mL 65) (mR 65) ∈ lw_tbl := in_t2 (List.mem_of_getElem? (i := 199) rfl)
theorem mcd_66 : Cond.code (mN 66) (mB 66) (mL 66) (mR 66) ∈ lw_tbl := in_t2 (List.mem_of_getElem? (i := 144) rfl)
theorem mcd_67 : Cond.code (mN 67) (mB 67) (mL 67) (mR 67) ∈ lw_tbl := in_t2 (List.mem_of_getElem? (i := 203) rfl)
theorem mcd_68 : Cond.code (mN 68) (mB 68) (mL 68) (mR 68) ∈ lw_tbl := in_t2 (List.mem_of_getElem? (i := 209) rfl)
theorem mcd_69 : Cond.code (mN 69) (mB 69) (mL 69) (mR 69) ∈ lw_tbl := in_t3 (List.mem_of_getElem? (i := 32) rfl)
theorem mcd_70 : Cond.code (mN 70) (mB 70) (mL 70) (mR 70) ∈ lw_tbl := in_t3 (List.mem_of_getElem? (i := 50) rfl)
theorem mcd_71 : Cond.code (mN 71) (mB 71) (mL 71) (mR 71) ∈ lw_tbl := in_t3 (List.mem_of_getElem? (i := 65) rfl)
theorem mcd_72 : Cond.code (mN 72) (mB 72) (mL 72) (mR 72) ∈ lw_tbl := in_t1 (List.mem_of_getElem? (i := 32) rfl)
theorem mcd_73 : Cond.code (mN 73) (mB 73) (mL 73) (mR 73) ∈ lw_tbl := in_t1 (List.mem_of_getElem? (i := 125) rfl)
theorem mcd_74 : Cond.code (mN 74) (mB 74) (mL 74) (mR 74) ∈ lw_tbl := in_t1 (List.mem_of_getElem? (i := 217) rfl)
theorem mcd_75 : Cond.code (mN 75) (mB 75) (mL 75) (mR 75) ∈ lw_tbl := in_t2 (List.mem_of_getElem? (i := 28) rfl)
theorem mcd_76 : Cond.code (mN 76) (mB 76) (mL 76) (mR 76) ∈ lw_tbl := in_t2 (List.mem_of_getElem? (i := 40) rfl)
theorem mcd_77 : Cond.code (mN 77) (mB 77) (mL 77) (mR 77) ∈ lw_tbl := in_t2 (List.mem_of_getElem? (i := 53) rfl)
theorem mcd_78 : Cond.code (mN 78) (mB 78) (mL 78) (mR 78) ∈ lw_tbl := in_t2 (List.mem_of_getElem? (i := 57) rfl)
theorem mcd_79 : Cond.code (mN 79) (mB 79) (mL 79) (mR 79) ∈ lw_tbl := in_t2 (List.mem_of_getElem? (i := 83) rfl)
theorem mcd_80 : Cond.code (mN 80) (mB 80) (mL 80) (mR 80) ∈ lw_tbl := in_t2 (List.mem_of_getElem? (i := 112) rfl)
theorem mcd_81 : Cond.code (mN 81) (mB 81) (mL 81) (mR 81) ∈ lw_tbl := in_t2 (List.mem_of_getElem? (i := 136) rfl)
theorem mcd_82 : Cond.code (mN 82) (mB 82) (mL 82) (mR 82) ∈ lw_tbl := in_t2 (List.mem_of_getElem? (i := 195) rfl)
theorem mcd_83 : Cond.code (mN 83) (mB 83) (mL 83) (mR 83) ∈ lw_tbl := in_t2 (List.mem_of_getElem? (i := 213) rfl)
theorem mcd_84 : Cond.code (mN 84) (mB 84) (mL 84) (mR 84) ∈ lw_tbl := in_t2 (List.mem_of_getElem? (i := 217) rfl)
theorem mcd_85 : Cond.code (mN 85) (mB 85) (mL 85) (mR 85) ∈ lw_tbl := in_t3 (List.mem_of_getElem? (i := 7) rfl)
theorem mcd_86 : Cond.code (mN 86) (mB 86) (mL 86) (mR 86) ∈ lw_tbl := in_t3 (List.mem_of_getElem? (i := 20) rfl)
theorem mcd_87 : Cond.code (mN 87) (mB 87) (mL 87) (mR 87) ∈ lw_tbl := in_t3 (List.mem_of_getElem? (i := 57) rfl)
theorem mcd_88 : Cond.code (mN 88) (mB 88) (mL 88) (mR 88) ∈ lw_tbl := in_t3 (List.mem_of_getElem? (i := 70) rfl)
theorem mcd_89 : Cond.code (mN 89) (mB 89) (mL 89) (mR 89) ∈ lw_tbl := in_t3 (List.mem_of_getElem? (i := 74) rfl)
theorem mcd_90 : Cond.code (mN 90) (mB 90) (mL 90) (mR 90) ∈ lw_tbl := in_t3 (List.mem_of_getElem? (i := 78) rfl)
theorem mcd_91 : Cond.code (mN 91) (mB 91) (mL 91) (mR 91) ∈ lw_tbl := in_t3 (List.mem_of_getElem? (i := 82) rfl)
theorem mcd_92 : Cond.code (mN 92) (mB 92) (mL 92) (mR 92) ∈ lw_tbl := in_t3 (List.mem_of_getElem? (i := 207) rfl)
theorem mcd_93 : Cond.code (mN 93) (mB 93) (mL 93) (mR 93) ∈ lw_tbl := in_t3 (List.mem_of_getElem? (i := 212) rfl)
theorem mcd_94 : Cond.code (mN 94) (mB 94) (mL 94) (mR 94) ∈ lw_tbl := in_t3 (List.mem_of_getElem? (i := 217) rfl)
theorem mcd_95 : Cond.code (mN 95) (mB 95) (mL 95) (mR 95) ∈ lw_tbl := in_t3 (List.mem_of_getElem? (i := 221) rfl)
theorem mcd_96 : Cond.code (mN 96) (mB 96) (mL 96) (mR 96) ∈ lw_tbl := in_t3 (List.mem_of_getElem? (i := 225) rfl)
theorem mcd_97 : Cond.code (mN 97) (mB 97) (mL 97) (mR 97) ∈ lw_tbl := in_t4 (List.mem_of_getElem? (i := 5) rfl)
theorem mcd_98 : Cond.code (mN 98) (mB 98) (mL 98) (mR 98) ∈ lw_tbl := in_t4 (List.mem_of_getElem? (i := 9) rfl)
theorem mcd_99 : Cond.code (mN 99) (mB 99) (mL 99) (mR 99) ∈ lw_tbl := in_t4 (List.mem_of_getElem? (i := 22) rfl)
theorem mcd_100 : Cond.code (mN 100) (mB 100) (mL 100) (mR 100) ∈ lw_tbl := in_t4 (List.mem_of_getElem? (i := 26) rfl)
theorem mcd_101 : Cond.code (mN 101) (mB 101) (mL 101) (mR 101) ∈ lw_tbl := in_t4 (List.mem_of_getElem? (i := 147) rfl)
theorem mcd_102 : Cond.code (mN 102) (mB 102) (mL 102) (mR 102) ∈ lw_tbl := in_t4 (List.mem_of_getElem? (i := 208) rfl)
theorem mcd_103 : Cond.code (mN 103) (mB 103) (mL 103) (mR 103) ∈ lw_tbl := in_t4 (List.mem_of_getElem? (i := 212) rfl)
theorem mcd_104 : Cond.code (mN 104) (mB 104) (mL 104) (mR 104) ∈ lw_tbl := in_t4 (List.mem_of_getElem? (i := 228) rfl)
theorem mcd_105 : Cond.code (mN 105) (mB 105) (mL 105) (mR 105) ∈ lw_tbl := in_t4 (List.mem_of_getElem? (i := 237) rfl)
theorem mcd_106 : Cond.code (mN 106) (mB 106) (mL 106) (mR 106) ∈ lw_tbl := in_t5 (List.mem_of_getElem? (i := 1) rfl)
theorem mcd_107 : Cond.code (mN 107) (mB 107) (mL 107) (mR 107) ∈ lw_tbl := in_t1 (List.mem_of_getElem? (i := 221) rfl)
theorem mcd_108 : Cond.code (mN 108) (mB 108) (mL 108) (mR 108) ∈ lw_tbl := in_t2 (List.mem_of_getElem? (i := 140) rfl)
theorem mcd_109 : Cond.code (mN 109) (mB 109) (mL 109) (mR 109) ∈ lw_tbl := in_t2 (List.mem_of_getElem? (i := 87) rfl)
theorem mcd_110 : Cond.code (mN 110) (mB 110) (mL 110) (mR 110) ∈ lw_tbl := in_t3 (List.mem_of_getElem? (i := 61) rfl)
theorem mcd_111 : Cond.code (mN 111) (mB 111) (mL 111) (mR 111) ∈ lw_tbl := in_t3 (List.mem_of_getElem? (i := 103) rfl)
theorem mcd_112 : Cond.code (mN 112) (mB 112) (mL 112) (mR 112) ∈ lw_tbl := in_t4 (List.mem_of_getElem? (i := 151) rfl)
theorem mcd_113 : Cond.code (mN 113) (mB 113) (mL 113) (mR 113) ∈ lw_tbl := in_t3 (List.mem_of_getElem? (i := 23) rfl)
theorem mcd_114 : Cond.code (mN 114) (mB 114) (mL 114) (mR 114) ∈ lw_tbl := in_t2 (List.mem_of_getElem? (i := 151) rfl)
theorem mcd_115 : Cond.code (mN 115) (mB 115) (mL 115) (mR 115) ∈ lw_tbl := in_t2 (List.mem_of_getElem? (i := 95) rfl)
theorem mcd_116 : Cond.code (mN 116) (mB 116) (mL 116) (mR 116) ∈ lw_tbl := in_t3 (List.mem_of_getElem? (i := 117) rfl)
theorem mcd_117 : Cond.code (mN 117) (mB 117) (mL 117) (mR 117) ∈ lw_tbl := in_t3 (List.mem_of_getElem? (i := 129) rfl)
theorem mcd_118 : Cond.code (mN 118) (mB 118) (mL 118) (mR 118) ∈ lw_tbl := in_t3 (List.mem_of_getElem? (i := 121) rfl)
theorem mcd_119 : Cond.code (mN 119) (mB 119) (mL 119) (mR 119) ∈ lw_tbl := in_t3 (List.mem_of_getElem? (i := 125) rfl)
theorem mcd_120 : Cond.code (mN 120) (mB 120) (mL 120) (mR 120) ∈ lw_tbl := in_t3 (List.mem_of_getElem? (i := 27) rfl)
theorem mcd_121 : Cond.code (mN 121) (mB 121) (mL 121) (mR 121) ∈ lw_tbl := in_t3 (List.mem_of_getElem? (i := 86) rfl)
theorem mcd_122 : Cond.code (mN 122) (mB 122) (mL 122) (mR 122) ∈ lw_tbl := in_t3 (List.mem_of_getElem? (i := 90) rfl)
theorem mcd_123 : Cond.code (mN 123) (mB 123) (mL 123) (mR 123) ∈ lw_tbl := in_t3 (List.mem_of_getElem? (i := 99) rfl)
theorem mcd_124 : Cond.code (mN 124) (mB 124) (mL 124) (mR 124) ∈ lw_tbl := in_t3 (List.mem_of_getElem? (i := 94) rfl)
theorem mcd_125 : Cond.code (mN 125) (mB 125) (mL 125) (mR 125) ∈ lw_tbl := in_t3 (List.mem_of_getElem? (i := 108) rfl)
theorem mcd_126 : Cond.code (mN 126) (mB 126) (mL 126) (mR 126) ∈ lw_tbl := in_t3 (List.mem_of_getElem? (i := 113) rfl)
theorem mcd_127 : Cond.code (mN 127) (mB 127) (mL 127) (mR 127) ∈ lw_tbl := in_t3 (List.mem_of_getElem? (i := 133) rfl)
theorem mcd_128 : Cond.code (mN 128) (mB 128) (mL 128) (mR 128) ∈ lw_tbl := in_t3 (List.mem_of_getElem? (i := 137) rfl)
theorem mcd_129 : Cond.code (mN 129) (mB 129) (mL 129) (mR 129) ∈ lw_tbl := in_t3 (List.mem_of_getElem? (i := 169) rfl)
theorem mcd_130 : Cond.code (mN 130) (mB 130) (mL 130) (mR 130) ∈ lw_tbl := in_t3 (List.mem_of_getElem? (i := 172) rfl)
theorem mcd_131 : Cond.code (mN 131) (mB 131) (mL 131) (mR 131) ∈ lw_tbl := in_t3 (List.mem_of_getElem? (i := 176) rfl)
theorem mcd_132 : Cond.code (mN 132) (mB 132) (mL 132) (mR 132) ∈ lw_tbl := in_t3 (List.mem_of_getElem? (i := 180) rfl)
theorem mcd_133 : Cond.code (mN 133) (mB 133) (mL 133) (mR 133) ∈ lw_tbl := in_t3 (List.mem_of_getElem? (i := 229) rfl)
theorem mcd_134 : Cond.code (mN 134) (mB 134) (mL 134) (mR 134) ∈ lw_tbl := in_t3 (List.mem_of_getElem? (i := 233) rfl)
theorem mcd_135 : Cond.code (mN 135) (mB 135) (mL 135) (mR 135) ∈ lw_tbl := in_t3 (List.mem_of_getElem? (i := 237) rfl)
theorem mcd_136 : Cond.code (mN 136) (mB 136) (mL 136) (mR 136) ∈ lw_tbl := in_t4 (List.mem_of_getElem? (i := 1) rfl)
theorem mcd_137 : Cond.code (mN 137) (mB 137) (mL 137) (mR 137) ∈ lw_tbl := in_t4 (List.mem_of_getElem? (i := 30) rfl)
theorem mcd_138 : Cond.code (mN 138) (mB 138) (mL 138) (mR 138) ∈ lw_tbl := in_t4 (List.mem_of_getElem? (i := 34) rfl)
theorem mcd_139 : Cond.code (mN 139) (mB 139) (mL 139) (mR 139) ∈ lw_tbl := in_t4 (List.mem_of_getElem? (i := 38) rfl)
theorem mcd_140 : Cond.code (mN 140) (mB 140) (mL 140) (mR 140) ∈ lw_tbl := in_t4 (List.mem_of_getElem? (i := 42) rfl)
theorem mcd_141 : Cond.code (mN 141) (mB 141) (mL 141) (mR 141) ∈ lw_tbl := in_t4 (List.mem_of_getElem? (i := 46) rfl)
theorem mcd_142 : Cond.code (mN 142) (mB 142) (mL 142) (mR 142) ∈ lw_tbl := in_t4 (List.mem_of_getElem? (i := 52) rfl)
theorem mcd_143 : Cond.code (mN 143) (mB 143) (mL 143) (mR 143) ∈ lw_tbl := in_t4 (List.mem_of_getElem? (i := 96) rfl)
theorem mcd_144 : Cond.code (mN 144) (mB 144) (mL 144) (mR 144) ∈ lw_tbl := in_t4 (List.mem_of_getElem? (i := 111) rfl)
theorem mcd_145 : Cond.code (mN 145) (mB 145) (mL 145) (mR 145) ∈ lw_tbl := in_t4 (List.mem_of_getElem? (i := 57) rfl)
theorem mcd_146 : Cond.code (mN 146) (mB 146) (mL 146) (mR 146) ∈ lw_tbl := in_t4 (List.mem_of_getElem? (i := 155) rfl)
theorem mcd_147 : Cond.code (mN 147) (mB 147) (mL 147) (mR 147) ∈ lw_tbl := in_t4 (List.mem_of_getElem? (i := 159) rfl)
theorem mcd_148 : Cond.code (mN 148) (mB 148) (mL 148) (mR 148) ∈ lw_tbl := in_t4 (List.mem_of_getElem? (i := 167) rfl)
theorem mcd_149 : Cond.code (mN 149) (mB 149) (mL 149) (mR 149) ∈ lw_tbl := in_t4 (List.mem_of_getElem? (i := 177) rfl)
theorem mcd_150 : Cond.code (mN 150) (mB 150) (mL 150) (mR 150) ∈ lw_tbl := in_t4 (List.mem_of_getElem? (i := 204) rfl)
theorem mcd_151 : Cond.code (mN 151) (mB 151) (mL 151) (mR 151) ∈ lw_tbl := in_t4 (List.mem_of_getElem? (i := 181) rfl)
theorem mcd_152 : Cond.code (mN 152) (mB 152) (mL 152) (mR 152) ∈ lw_tbl := in_t4 (List.mem_of_getElem? (i := 185) rfl)
theorem mcd_153 : Cond.code (mN 153) (mB 153) (mL 153) (mR 153) ∈ lw_tbl := in_t4 (List.mem_of_getElem? (i := 189) rfl)
theorem mcd_154 : Cond.code (mN 154) (mB 154) (mL 154) (mR 154) ∈ lw_tbl := in_t4 (List.mem_of_getElem? (i := 193) rfl)
theorem mcd_155 : Cond.code (mN 155) (mB 155) (mL 155) (mR 155) ∈ lw_tbl := in_t4 (List.mem_of_getElem? (i := 224) rfl)
theorem mcd_156 : Cond.code (mN 156) (mB 156) (mL 156) (mR 156) ∈ lw_tbl := in_t5 (List.mem_of_getElem? (i := 6) rfl)
theorem mcd_157 : Cond.code (mN 157) (mB 157) (mL 157) (mR 157) ∈ lw_tbl := in_t5 (List.mem_of_getElem? (i := 213) rfl)
theorem mcd_158 : Cond.code (mN 158) (mB 158) (mL 158) (mR 158) ∈ lw_tbl := in_t5 (List.mem_of_getElem? (i := 216) rfl)
theorem mcd_159 : Cond.code (mN 159) (mB 159) (mL 159) (mR 159) ∈ lw_tbl := in_t5 (List.mem_of_getElem? (i := 210) rfl)
theorem mcd_160 : Cond.code (mN 160) (mB 160) (mL 160) (mR 160) ∈ lw_tbl := in_t5 (List.mem_of_getElem? (i := 231) rfl)
theorem mcd_161 : Cond.code (mN 161) (mB 161) (mL 161) (mR 161) ∈ lw_tbl := in_t6 (List.mem_of_getElem? (i := 15) rfl)
theorem mcd_162 : Cond.code (mN 162) (mB 162) (mL 162) (mR 162) ∈ lw_tbl := in_t6 (List.mem_of_getElem? (i := 55) rfl)
theorem mcd_163 : Cond.code (mN 163) (mB 163) (mL 163) (mR 163) ∈ lw_tbl := in_t6 (List.mem_of_getElem? (i := 11) rfl)
theorem mcd_164 : Cond.code (mN 164) (mB 164) (mL 164) (mR 164) ∈ lw_tbl := in_t5 (List.mem_of_getElem? (i := 202) rfl)
theorem mcd_165 : Cond.code (mN 165) (mB 165) (mL 165) (mR 165) ∈ lw_tbl := in_t5 (List.mem_of_getElem? (i := 223) rfl)
theorem mcd_166 : Cond.code (mN 166) (mB 166) (mL 166) (mR 166) ∈ lw_tbl := in_t5 (List.mem_of_getElem? (i := 206) rfl)
theorem mcd_167 : Cond.code (mN 167) (mB 167) (mL 167) (mR 167) ∈ lw_tbl := in_t5 (List.mem_of_getElem? (i := 227) rfl)
theorem mcd_168 : Cond.code (mN 168) (mB 168) (mL 168) (mR 168) ∈ lw_tbl := in_t5 (List.mem_of_getElem? (i := 235) rfl)
theorem mcd_169 : Cond.code (mN 169) (mB 169) (mL 169) (mR 169) ∈ lw_tbl := in_t5 (List.mem_of_getElem? (i := 239) rfl)
theorem mcd_170 : Cond.code (mN 170) (mB 170) (mL 170) (mR 170) ∈ lw_tbl := in_t6 (List.mem_of_getElem? (i := 3) rfl)
theorem mcd_171 : Cond.code (mN 171) (mB 171) (mL 171) (mR 171) ∈ lw_tbl := in_t6 (List.mem_of_getElem? (i := 7) rfl)
theorem mcd_172 : Cond.code (mN 172) (mB 172) (mL 172) (mR 172) ∈ lw_tbl := in_t6 (List.mem_of_getElem? (i := 128) rfl)
theorem mcd_173 : Cond.code (mN 173) (mB 173) (mL 173) (mR 173) ∈ lw_tbl := in_t6 (List.mem_of_getElem? (i := 132) rfl)
theorem mcd_174 : Cond.code (mN 174) (mB 174) (mL 174) (mR 174) ∈ lw_tbl := in_t6 (List.mem_of_getElem? (i := 124) rfl)
theorem mcd_175 : Cond.code (mN 175) (mB 175) (mL 175) (mR 175) ∈ lw_tbl := in_t6 (List.mem_of_getElem? (i := 19) rfl)
theorem mcd_176 : Cond.code (mN 176) (mB 176) (mL 176) (mR 176) ∈ lw_tbl := in_t6 (List.mem_of_getElem? (i := 31) rfl)
theorem mcd_177 : Cond.code (mN 177) (mB 177) (mL 177) (mR 177) ∈ lw_tbl := in_t6 (List.mem_of_getElem? (i := 40) rfl)
theorem mcd_178 : Cond.code (mN 178) (mB 178) (mL 178) (mR 178) ∈ lw_tbl := in_t6 (List.mem_of_getElem? (i := 27) rfl)
theorem mcd_179 : Cond.code (mN 179) (mB 179) (mL 179) (mR 179) ∈ lw_tbl := in_t6 (List.mem_of_getElem? (i := 23) rfl)
theorem mcd_180 : Cond.code (mN 180) (mB 180) (mL 180) (mR 180) ∈ lw_tbl := in_t6 (List.mem_of_getElem? (i := 37) rfl)
theorem mcd_181 : Cond.code (mN 181) (mB 181) (mL 181) (mR 181) ∈ lw_tbl := in_t6 (List.mem_of_getElem? (i := 59) rfl)
theorem mcd_182 : Cond.code (mN 182) (mB 182) (mL 182) (mR 182) ∈ lw_tbl := in_t6 (List.mem_of_getElem? (i := 51) rfl)
theorem mcd_183 : Cond.code (mN 183) (mB 183) (mL 183) (mR 183) ∈ lw_tbl := in_t6 (List.mem_of_getElem? (i := 63) rfl)
theorem mcd_184 : Cond.code (mN 184) (mB 184) (mL 184) (mR 184) ∈ lw_tbl := in_t6 (List.mem_of_getElem? (i := 70) rfl)
theorem mcd_185 : Cond.code (mN 185) (mB 185) (mL 185) (mR 185) ∈ lw_tbl := in_t6 (List.mem_of_getElem? (i := 67) rfl)
theorem mcd_186 : Cond.code (mN 186) (mB 186) (mL 186) (mR 186) ∈ lw_tbl := in_t6 (List.mem_of_getElem? (i := 76) rfl)
theorem mcd_187 : Cond.code (mN 187) (mB 187) (mL 187) (mR 187) ∈ lw_tbl := in_t6 (List.mem_of_getElem? (i := 140) rfl)
theorem mcd_188 : Cond.code (mN 188) (mB 188) (mL 188) (mR 188) ∈ lw_tbl := in_t6 (List.mem_of_getElem? (i := 80) rfl)
theorem mcd_189 : Cond.code (mN 189) (mB 189) (mL 189) (mR 189) ∈ lw_tbl := in_t6 (List.mem_of_getElem? (i := 88) rfl)
theorem mcd_190 : Cond.code (mN 190) (mB 190) (mL 190) (mR 190) ∈ lw_tbl := in_t6 (List.mem_of_getElem? (i := 84) rfl)
theorem mcd_191 : Cond.code (mN 191) (mB 191) (mL 191) (mR 191) ∈ lw_tbl := in_t6 (List.mem_of_getElem? (i := 96) rfl)
theorem mcd_192 : Cond.code (mN 192) (mB 192) (mL 192) (mR 192) ∈ lw_tbl := in_t6 (List.mem_of_getElem? (i := 92) rfl)
theorem mcd_193 : Cond.code (mN 193) (mB 193) (mL 193) (mR 193) ∈ lw_tbl := in_t6 (List.mem_of_getElem? (i := 100) rfl)
theorem mcd_194 : Cond.code (mN 194) (mB 194) (mL 194) (mR 194) ∈ lw_tbl := in_t6 (List.mem_of_getElem? (i := 104) rfl)
theorem mcd_195 : Cond.code (mN 195) (mB 195) (mL 195) (mR 195) ∈ lw_tbl := in_t6 (List.mem_of_getElem? (i := 108) rfl)
theorem mcd_196 : Cond.code (mN 196) (mB 196) (mL 196) (mR 196) ∈ lw_tbl := in_t6 (List.mem_of_getElem? (i := 120) rfl)
theorem mcd_197 : Cond.code (mN 197) (mB 197) (mL 197) (mR 197) ∈ lw_tbl := in_t6 (List.mem_of_getElem? (i := 116) rfl)
theorem mcd_198 : Cond.code (mN 198) (mB 198) (mL 198) (mR 198) ∈ lw_tbl := in_t6 (List.mem_of_getElem? (i := 144) rfl)
theorem mcd_199 : Cond.code (mN 199) (mB 199) (mL 199) (mR 199) ∈ lw_tbl := in_t6 (List.mem_of_getElem? (i := 136) rfl)
theorem mcd_200 : Cond.code (mN 200) (mB 200) (mL 200) (mR 200) ∈ lw_tbl := in_t6 (List.mem_of_getElem? (i := 148) rfl)
theorem mcd_201 : Cond.code (mN 201) (mB 201) (mL 201) (mR 201) ∈ lw_tbl := in_t6 (List.mem_of_getElem? (i := 151) rfl)
theorem mcd_202 : Cond.code (mN 202) (mB 202) (mL 202) (mR 202) ∈ lw_tbl := in_t6 (List.mem_of_getElem? (i := 112) rfl)
theorem mcd_203 : Cond.code (mN 203) (mB 203) (mL 203) (mR 203) ∈ lw_tbl := in_t6 (List.mem_of_getElem? (i := 162) rfl)
theorem mcd_204 : Cond.code (mN 204) (mB 204) (mL 204) (mR 204) ∈ lw_tbl := in_t6 (List.mem_of_getElem? (i := 167) rfl)
theorem mcd_205 : Cond.code (mN 205) (mB 205) (mL 205) (mR 205) ∈ lw_tbl := in_t6 (List.mem_of_getElem? (i := 172) rfl)
theorem mcd_206 : Cond.code (mN 206) (mB 206) (mL 206) (mR 206) ∈ lw_tbl := in_t6 (List.mem_of_getElem? (i := 176) rfl)
theorem mcd_207 : Cond.code (mN 207) (mB 207) (mL 207) (mR 207) ∈ lw_tbl := in_t6 (List.mem_of_getElem? (i := 184) rfl)
theorem mcd_208 : Cond.code (mN 208) (mB 208) (mL 208) (mR 208) ∈ lw_tbl := in_t6 (List.mem_of_getElem? (i := 180) rfl)
theorem mcd_209 : Cond.code (mN 209) (mB 209) (mL 209) (mR 209) ∈ lw_tbl := in_t6 (List.mem_of_getElem? (i := 188) rfl)
theorem mcd_210 : Cond.code (mN 210) (mB 210) (mL 210) (mR 210) ∈ lw_tbl := in_t6 (List.mem_of_getElem? (i := 197) rfl)
theorem mcd_211 : Cond.code (mN 211) (mB 211) (mL 211) (mR 211) ∈ lw_tbl := in_t6 (List.mem_of_getElem? (i := 192) rfl)
theorem mcd_212 : Cond.code (mN 212) (mB 212) (mL 212) (mR 212) ∈ lw_tbl := in_t6 (List.mem_of_getElem? (i := 205) rfl)
theorem mcd_213 : Cond.code (mN 213) (mB 213) (mL 213) (mR 213) ∈ lw_tbl := in_t6 (List.mem_of_getElem? (i := 201) rfl)
theorem mcd_214 : Cond.code (mN 214) (mB 214) (mL 214) (mR 214) ∈ lw_tbl := in_t6 (List.mem_of_getElem? (i := 209) rfl)
theorem mcd_215 : Cond.code (mN 215) (mB 215) (mL 215) (mR 215) ∈ lw_tbl := in_t6 (List.mem_of_getElem? (i := 213) rfl)
theorem mcd_216 : Cond.code (mN 216) (mB 216) (mL 216) (mR 216) ∈ lw_tbl := in_t6 (List.mem_of_getElem? (i := 232) rfl)
theorem mcd_217 : Cond.code (mN 217) (mB 217) (mL 217) (mR 217) ∈ lw_tbl := in_t6 (List.mem_of_getElem? (i := 237) rfl)
theorem mcd_218 : Cond.code (mN 218) (mB 218) (mL 218) (mR 218) ∈ lw_tbl := in_t6 (List.mem_of_getElem? (i := 221) rfl)
theorem mcd_219 : Cond.code (mN 219) (mB 219) (mL 219) (mR 219) ∈ lw_tbl := in_t6 (List.mem_of_getElem? (i := 229) rfl)
theorem mcd_220 : Cond.code (mN 220) (mB 220) (mL 220) (mR 220) ∈ lw_tbl := in_t7 (List.mem_of_getElem? (i := 21) rfl)
theorem mcd_221 : Cond.code (mN 221) (mB 221) (mL 221) (mR 221) ∈ lw_tbl := in_t7 (List.mem_of_getElem? (i := 25) rfl)
theorem mcd_222 : Cond.code (mN 222) (mB 222) (mL 222) (mR 222) ∈ lw_tbl := in_t6 (List.mem_of_getElem? (i := 217) rfl)
theorem mcd_223 : Cond.code (mN 223) (mB 223) (mL 223) (mR 223) ∈ lw_tbl := in_t6 (List.mem_of_getElem? (i := 225) rfl)
theorem mcd_224 : Cond.code (mN 224) (mB 224) (mL 224) (mR 224) ∈ lw_tbl := in_t7 (List.mem_of_getElem? (i := 29) rfl)
theorem mcd_225 : Cond.code (mN 225) (mB 225) (mL 225) (mR 225) ∈ lw_tbl := in_t7 (List.mem_of_getElem? (i := 41) rfl)
theorem mcd_226 : Cond.code (mN 226) (mB 226) (mL 226) (mR 226) ∈ lw_tbl := in_t7 (List.mem_of_getElem? (i := 37) rfl)
theorem mcd_227 : Cond.code (mN 227) (mB 227) (mL 227) (mR 227) ∈ lw_tbl := in_t7 (List.mem_of_getElem? (i := 33) rfl)
theorem mcd_228 : Cond.code (mN 228) (mB 228) (mL 228) (mR 228) ∈ lw_tbl := in_t7 (List.mem_of_getElem? (i := 45) rfl)
theorem mcd_229 : Cond.code (mN 229) (mB 229) (mL 229) (mR 229) ∈ lw_tbl := in_t7 (List.mem_of_getElem? (i := 49) rfl)
theorem mcd_230 : Cond.code (mN 230) (mB 230) (mL 230) (mR 230) ∈ lw_tbl := in_t7 (List.mem_of_getElem? (i := 53) rfl)
theorem mcd_all0 : ∀ z, z < 0 → Cond.code (mN z) (mB z) (mL z) (mR z) ∈ lw_tbl := fun z h => absurd h (Nat.not_lt_zero z)
theorem mcd_all1 : ∀ z, z < 1 → Cond.code (mN z) (mB z) (mL z) (mR z) ∈ lw_tbl := lt_s mcd_all0 mcd_0
theorem mcd_all2 : ∀ z, z < 2 → Cond.code (mN z) (mB z) (mL z) (mR z) ∈ lw_tbl := lt_s mcd_all1 mcd_1
theorem mcd_all3 : ∀ z, z < 3 → Cond.code (mN z) (mB z) (mL z) (mR z) ∈ lw_tbl := lt_s mcd_all2 mcd_2
theorem mcd_all4 : ∀ z, z < 4 → Cond.code (mN z) (mB z) (mL z) (mR z) ∈ lw_tbl := lt_s mcd_all3 mcd_3
theorem mcd_all5 : ∀ z, z < 5 → Cond.code (mN z) (mB z) (mL z) (mR z) ∈ lw_tbl := lt_s mcd_all4 mcd_4
theorem mcd_all6 : ∀ z, z < 6 → Cond.code (mN z) (mB z) (mL z) (mR z) ∈ lw_tbl := lt_s mcd_all5 mcd_5
theorem mcd_all7 : ∀ z, z < 7 → Cond.code (mN z) (mB z) (mL z) (mR z) ∈ lw_tbl := lt_s mcd_all6 mcd_6
theorem mcd_all8 : ∀ z, z < 8 → Cond.code (mN z) (mB z) (mL z) (mR z) ∈ lw_tbl := lt_s mcd_all7 mcd_7
theorem mcd_all9 : ∀ z, z < 9 → Cond.code (mN z) (mB z) (mL z) (mR z) ∈ lw_tbl := lt_s mcd_all8 mcd_8
theorem mcd_all10 : ∀ z, z < 10 → Cond.code (mN z) (mB z) (mL z) (mR z) ∈ lw_tbl := lt_s mcd_all9 mcd_9
theorem mcd_all11 : ∀ z, z < 11 → Cond.code (mN z) (mB z) (mL z) (mR z) ∈ lw_tbl := lt_s mcd_all10 mcd_10
theorem mcd_all12 : ∀ z, z < 12 → Cond.code (mN z) (mB z) (mL z) (mR z) ∈ lw_tbl := lt_s mcd_all11 mcd_11
theorem mcd_all13 : ∀ z, z < 13 → Cond.code (mN z) (mB z) (mL z) (mR z) ∈ lw_tbl := lt_s mcd_all12 mcd_12
theorem mcd_all14 : ∀ z, z < 14 → Cond.code (mN z) (mB z) (mL z) (mR z) ∈ lw_tbl := lt_s mcd_all13 mcd_13
theorem mcd_all15 : ∀ z, z < 15 → Cond.code (mN z) (mB z) (mL z) (mR z) ∈ lw_tbl := lt_s mcd_all14 mcd_14
theorem mcd_all16 : ∀ z, z < 16 → Cond.code (mN z) (mB z) (mL z) (mR z) ∈ lw_tbl := lt_s mcd_all15 mcd_15
theorem mcd_all17 : ∀ z, z < 17 → Cond.code (mN z) (mB z) (mL z) (mR z) ∈ lw_tbl := lt_s mcd_all16 mcd_16
theorem mcd_all18 : ∀ z, z < 18 → Cond.code (mN z) (mB z) (mL z) (mR z) ∈ lw_tbl := lt_s mcd_all17 mcd_17
theorem mcd_all19 : ∀ z, z < 19 → Cond.code (mN z) (mB z) (mL z) (mR z) ∈ lw_tbl := lt_s mcd_all18 mcd_18
theorem mcd_all20 : ∀ z, z < 20 → Cond.code (mN z) (mB z) (mL z) (mR z) ∈ lw_tbl := lt_s mcd_all19 mcd_19
theorem mcd_all21 : ∀ z, z < 21 → Cond.code (mN z) (mB z) (mL z) (mR z) ∈ lw_tbl := lt_s mcd_all20 mcd_20
theorem mcd_all22 : ∀ z, z < 22 → Cond.code (mN z) (mB z) (mL z) (mR z) ∈ lw_tbl := lt_s mcd_all21 mcd_21
theorem mcd_all23 : ∀ z, z < 23 → Cond.code (mN z) (mB z) (mL z) (mR z) ∈ lw_tbl := lt_s mcd_all22 mcd_22
theorem mcd_all24 : ∀ z, z < 24 → Cond.code (mN z) (mB z) (mL z) (mR z) ∈ lw_tbl := lt_s mcd_all23 mcd_23
theorem mcd_all25 : ∀ z, z < 25 → Cond.code (mN z) (mB z) (mL z) (mR z) ∈ lw_tbl := lt_s mcd_all24 mcd_24
theorem mcd_all26 : ∀ z, z < 26 → Cond.code (mN z) (mB z) (mL z) (mR z) ∈ lw_tbl := lt_s mcd_all25 mcd_25
theorem mcd_all27 : ∀ z, z < 27 → Cond.code (mN z) (mB z) (mL z) (mR z) ∈ lw_tbl := lt_s mcd_all26 mcd_26
theorem mcd_all28 : ∀ z, z < 28 → Cond.code (mN z) (mB z) (mL z) (mR z) ∈ lw_tbl := lt_s mcd_all27 mcd_27
theorem mcd_all29 : ∀ z, z < 29 → Cond.code (mN z) (mB z) (mL z) (mR z) ∈ lw_tbl := lt_s mcd_all28 mcd_28
theorem mcd_all30 : ∀ z, z < 30 → Cond.code (mN z) (mB z) (mL z) (mR z) ∈ lw_tbl := lt_s mcd_all29 mcd_29
theorem mcd_all31 : ∀ z, z < 31 → Cond.code (mN z) (mB z) (mL z) (mR z) ∈ lw_tbl := lt_s mcd_all30 mcd_30
theorem mcd_all32 : ∀ z, z < 32 → Cond.code (mN z) (mB z) (mL z) (mR z) ∈ lw_tbl := lt_s mcd_all31 mcd_31
theorem mcd_all33 : ∀ z, z < 33 → Cond.code (mN z) (mB z) (mL z) (mR z) ∈ lw_tbl := lt_s mcd_all32 mcd_32
theorem mcd_all34 : ∀ z, z < 34 → Cond.code (mN z) (mB z) (mL z) (mR z) ∈ lw_tbl := lt_s mcd_all33 mcd_33
theorem mcd_all35 : ∀ z, z < 35 → Cond.code (mN z) (mB z) (mL z) (mR z) ∈ lw_tbl := lt_s mcd_all34 mcd_34
theorem mcd_all36 : ∀ z, z < 36 → Cond.code (mN z) (mB z) (mL z) (mR z) ∈ lw_tbl := lt_s mcd_all35 mcd_35
theorem mcd_all37 : ∀ z, z < 37 → Cond.code (mN z) (mB z) (mL z) (mR z) ∈ lw_tbl := lt_s mcd_all36 mcd_36
theorem mcd_all38 : ∀ z, z < 38 → Cond.code (mN z) (mB z) (mL z) (mR z) ∈ lw_tbl := lt_s mcd_all37 mcd_37
theorem mcd_all39 : ∀ z, z < 39 → Cond.code (mN z) (mB z) (mL z) (mR z) ∈ lw_tbl := lt_s mcd_all38 mcd_38
theorem mcd_all40 : ∀ z, z < 40 → Cond.code (mN z) (mB z) (mL z) (mR z) ∈ lw_tbl := lt_s mcd_all39 mcd_39
theorem mcd_all41 : ∀ z, z < 41 → Cond.code (mN z) (mB z) (mL z) (mR z) ∈ lw_tbl := lt_s mcd_all40 mcd_40
theorem mcd_all42 : ∀ z, z < 42 → Cond.code (mN z) (mB z) (mL z) (mR z) ∈ lw_tbl := lt_s mcd_all41 mcd_41
theorem mcd_all43 : ∀ z, z < 43 → Cond.code (mN z) (mB z) (mL z) (mR z) ∈ lw_tbl := lt_s mcd_all42 mcd_42
theorem mcd_all44 : ∀ z, z < 44 → Cond.code (mN z) (mB z) (mL z) (mR z) ∈ lw_tbl := lt_s mcd_all43 mcd_43
theorem mcd_all45 : ∀ z, z < 45 → Cond.code (mN z) (mB z) (mL z) (mR z) ∈ lw_tbl := lt_s mcd_all44 mcd_44
theorem mcd_all46 : ∀ z, z < 46 → Cond.code (mN z) (mB z) (mL z) (mR z) ∈ lw_tbl := lt_s mcd_all45 mcd_45
theorem mcd_all47 : ∀ z, z < 47 → Cond.code (mN z) (mB z) (mL z) (mR z) ∈ lw_tbl := lt_s mcd_all46 mcd_46
theorem mcd_all48 : ∀ z, z < 48 → Cond.code (mN z) (mB z) (mL z) (mR z) ∈ lw_tbl := lt_s mcd_all47 mcd_47
theorem mcd_all49 : ∀ z, z < 49 → Cond.code (mN z) (mB z) (mL z) (mR z) ∈ lw_tbl := lt_s mcd_all48 mcd_48
theorem mcd_all50 : ∀ z, z < 50 → Cond.code (mN z) (mB z) (mL z) (mR z) ∈ lw_tbl := lt_s mcd_all49 mcd_49
theorem mcd_all51 : ∀ z, z < 51 → Cond.code (mN z) (mB z) (mL z) (mR z) ∈ lw_tbl := lt_s mcd_all50 mcd_50
theorem mcd_all52 : ∀ z, z < 52 → Cond.code (mN z) (mB z) (mL z) (mR z) ∈ lw_tbl := lt_s mcd_all51 mcd_51
theorem mcd_all53 : ∀ z, z < 53 → Cond.code (mN z) (mB z) (mL z) (mR z) ∈ lw_tbl := lt_s mcd_all52 mcd_52
theorem mcd_all54 : ∀ z, z < 54 → Cond.code (mN z) (mB z) (mL z) (mR z) ∈ lw_tbl := lt_s mcd_all53 mcd_53
theorem mcd_all55 : ∀ z, z < 55 → Cond.code (mN z) (mB z) (mL z) (mR z) ∈ lw_tbl := lt_s mcd_all54 mcd_54
theorem mcd_all56 : ∀ z, z < 56 → Cond.code (mN z) (mB z) (mL z) (mR z) ∈ lw_tbl := lt_s mcd_all55 mcd_55
theorem mcd_all57 : ∀ z, z < 57 → Cond.code (mN z) (mB z) (mL z) (mR z) ∈ lw_tbl := lt_s mcd_all56 mcd_56
theorem mcd_all58 : ∀ z, z < 58 → Cond.code (mN z) (mB z) (mL z) (mR z) ∈ lw_tbl := lt_s mcd_all57 mcd_57
theorem mcd_all59 : ∀ z, z < 59 → Cond.code (mN z) (mB z) (mL z) (mR z) ∈ lw_tbl := lt_s mcd_all58 mcd_58
theorem mcd_all60 : ∀ z, z < 60 → Cond.code (mN z) (mB z) (mL z) (mR z) ∈ lw_tbl := lt_s mcd_all59 mcd_59
theorem mcd_all61 : ∀ z, z < 61 → Cond.code (mN z) (mB z) (mL z) (mR z) ∈ lw_tbl := lt_s mcd_all60 mcd_60
theorem mcd_all62 : ∀ z, z < 62 → Cond.code (mN z) (mB z) (mL z) (mR z) ∈ lw_tbl := lt_s mcd_all61 mcd_61
theorem mcd_all63 : ∀ z, z < 63 → Cond.code (mN z) (mB z) (mL z) (mR z) ∈ lw_tbl := lt_s mcd_all62 mcd_62
theorem mcd_all64 : ∀ z, z < 64 → Cond.code (mN z) (mB z) (mL z) (mR z) ∈ lw_tbl := lt_s mcd_all63 mcd_63
theorem mcd_all65 : ∀ z, z < 65 → Cond.code (mN z) (mB z) (mL z) (mR z) ∈ lw_tbl := lt_s mcd_all64 mcd_64
theorem mcd_all66 : ∀ z, z < 66 → Cond.code (mN z) (mB z) (mL z) (mR z) ∈ lw_tbl := lt_s mcd_all65 mcd_65
theorem mcd_all67 : ∀ z, z < 67 → Cond.code (mN z) (mB z) (mL z) (mR z) ∈ lw_tbl := lt_s mcd_all66 mcd_66
theorem mcd_all68 : ∀ z, z < 68 → Cond.code (mN z) (mB z) (mL z) (mR z) ∈ lw_tbl := lt_s mcd_all67 mcd_67
theorem mcd_all69 : ∀ z, z < 69 → Cond.code (mN z) (mB z) (mL z) (mR z) ∈ lw_tbl := lt_s mcd_all68 mcd_68
theorem mcd_all70 : ∀ z, z < 70 → Cond.code (mN z) (mB z) (mL z) (mR z) ∈ lw_tbl := lt_s mcd_all69 mcd_69
theorem mcd_all71 : ∀ z, z < 71 → Cond.code (mN z) (mB z) (mL z) (mR z) ∈ lw_tbl := lt_s mcd_all70 mcd_70
theorem mcd_all72 : ∀ z, z < 72 → Cond.code (mN z) (mB z) (mL z) (mR z) ∈ lw_tbl := lt_s mcd_all71 mcd_71
theorem mcd_all73 : ∀ z, z < 73 → Cond.code (mN z) (mB z) (mL z) (mR z) ∈ lw_tbl := lt_s mcd_all72 mcd_72
theorem mcd_all74 : ∀ z, z < 74 → Cond.code (mN z) (mB z) (mL z) (mR z) ∈ lw_tbl := lt_s mcd_all73 mcd_73
theorem mcd_all75 : ∀ z, z < 75 → Cond.code (mN z) (mB z) (mL z) (mR z) ∈ lw_tbl := lt_s mcd_all74 mcd_74
theorem mcd_all76 : ∀ z, z < 76 → Cond.code (mN z) (mB z) (mL z) (mR z) ∈ lw_tbl := lt_s mcd_all75 mcd_75
theorem mcd_all77 : ∀ z, z < 77 → Cond.code (mN z) (mB z) (mL z) (mR z) ∈ lw_tbl := lt_s mcd_all76 mcd_76
theorem mcd_all78 : ∀ z, z < 78 → Cond.code (mN z) (mB z) (mL z) (mR z) ∈ lw_tbl := lt_s mcd_all77 mcd_77
theorem mcd_all79 : ∀ z, z < 79 → Cond.code (mN z) (mB z) (mL z) (mR z) ∈ lw_tbl := lt_s mcd_all78 mcd_78
theorem mcd_all80 : ∀ z, z < 80 → Cond.code (mN z) (mB z) (mL z) (mR z) ∈ lw_tbl := lt_s mcd_all79 mcd_79
theorem mcd_all81 : ∀ z, z < 81 → Cond.code (mN z) (mB z) (mL z) (mR z) ∈ lw_tbl := lt_s mcd_all80 mcd_80
theorem mcd_all82 : ∀ z, z < 82 → Cond.code (mN z) (mB z) (mL z) (mR z) ∈ lw_tbl := lt_s mcd_all81 mcd_81
theorem mcd_all83 : ∀ z, z < 83 → Cond.code (mN z) (mB z) (mL z) (mR z) ∈ lw_tbl := lt_s mcd_all82 mcd_82
theorem mcd_all84 : ∀ z, z < 84 → Cond.code (mN z) (mB z) (mL z) (mR z) ∈ lw_tbl := lt_s mcd_all83 mcd_83
theorem mcd_all85 : ∀ z, z < 85 → Cond.code (mN z) (mB z) (mL z) (mR z) ∈ lw_tbl := lt_s mcd_all84 mcd_84
theorem mcd_all86 : ∀ z, z < 86 → Cond.code (mN z) (mB z) (mL z) (mR z) ∈ lw_tbl := lt_s mcd_all85 mcd_85
theorem mcd_all87 : ∀ z, z < 87 → Cond.code (mN z) (mB z) (mL z) (mR z) ∈ lw_tbl := lt_s mcd_all86 mcd_86
theorem mcd_all88 : ∀ z, z < 88 → Cond.code (mN z) (mB z) (mL z) (mR z) ∈ lw_tbl := lt_s mcd_all87 mcd_87
theorem mcd_all89 : ∀ z, z < 89 → Cond.code (mN z) (mB z) (mL z) (mR z) ∈ lw_tbl := lt_s mcd_all88 mcd_88
theorem mcd_all90 : ∀ z, z < 90 → Cond.code (mN z) (mB z) (mL z) (mR z) ∈ lw_tbl := lt_s mcd_all89 mcd_89
theorem mcd_all91 : ∀ z, z < 91 → Cond.code (mN z) (mB z) (mL z) (mR z) ∈ lw_tbl := lt_s mcd_all90 mcd_90
theorem mcd_all92 : ∀ z, z < 92 → Cond.code (mN z) (mB z) (mL z) (mR z) ∈ lw_tbl := lt_s mcd_all91 mcd_91
theorem mcd_all93 : ∀ z, z < 93 → Cond.code (mN z) (mB z) (mL z) (mR z) ∈ lw_tbl := lt_s mcd_all92 mcd_92
theorem mcd_all94 : ∀ z, z < 94 → Cond.code (mN z) (mB z) (mL z) (mR z) ∈ lw_tbl := lt_s mcd_all93 mcd_93
theorem mcd_all95 : ∀ z, z < 95 → Cond.code (mN z) (mB z) (mL z) (mR z) ∈ lw_tbl := lt_s mcd_all94 mcd_94
theorem mcd_all96 : ∀ z, z < 96 → Cond.code (mN z) (mB z) (mL z) (mR z) ∈ lw_tbl := lt_s mcd_all95 mcd_95
theorem mcd_all97 : ∀ z, z < 97 → Cond.code (mN z) (mB z) (mL z) (mR z) ∈ lw_tbl := lt_s mcd_all96 mcd_96
theorem mcd_all98 : ∀ z, z < 98 → Cond.code (mN z) (mB z) (mL z) (mR z) ∈ lw_tbl := lt_s mcd_all97 mcd_97
theorem mcd_all99 : ∀ z, z < 99 → Cond.code (mN z) (mB z) (mL z) (mR z) ∈ lw_tbl := lt_s mcd_all98 mcd_98
theorem mcd_all100 : ∀ z, z < 100 → Cond.code (mN z) (mB z) (mL z) (mR z) ∈ lw_tbl := lt_s mcd_all99 mcd_99
theorem mcd_all101 : ∀ z, z < 101 → Cond.code (mN z) (mB z) (mL z) (mR z) ∈ lw_tbl := lt_s mcd_all100 mcd_100
theorem mcd_all102 : ∀ z, z < 102 → Cond.code (mN z) (mB z) (mL z) (mR z) ∈ lw_tbl := lt_s mcd_all101 mcd_101
theorem mcd_all103 : ∀ z, z < 103 → Cond.code (mN z) (mB z) (mL z) (mR z) ∈ lw_tbl := lt_s mcd_all102 mcd_102
theorem mcd_all104 : ∀ z, z < 104 → Cond.code (mN z) (mB z) (mL z) (mR z) ∈ lw_tbl := lt_s mcd_all103 mcd_103
theorem mcd_all105 : ∀ z, z < 105 → Cond.code (mN z) (mB z) (mL z) (mR z) ∈ lw_tbl := lt_s mcd_all104 mcd_104
theorem mcd_all106 : ∀ z, z < 106 → Cond.code (mN z) (mB z) (mL z) (mR z) ∈ lw_tbl := lt_s mcd_all105 mcd_105
theorem mcd_all107 : ∀ z, z < 107 → Cond.code (mN z) (mB z) (mL z) (mR z) ∈ lw_tbl := lt_s mcd_all106 mcd_106
theorem mcd_all108 : ∀ z, z < 108 → Cond.code (mN z) (mB z) (mL z) (mR z) ∈ lw_tbl := lt_s mcd_all107 mcd_107
theorem mcd_all109 : ∀ z, z < 109 → Cond.code (mN z) (mB z) (mL z) (mR z) ∈ lw_tbl := lt_s mcd_all108 mcd_108
theorem mcd_all110 : ∀ z, z < 110 → Cond.code (mN z) (mB z) (mL z) (mR z) ∈ lw_tbl := lt_s mcd_all109 mcd_109
theorem mcd_all111 : ∀ z, z < 111 → Cond.code (mN z) (mB z) (mL z) (mR z) ∈ lw_tbl := lt_s mcd_all110 mcd_110
theorem mcd_all112 : ∀ z, z < 112 → Cond.code (mN z) (mB z) (mL z) (mR z) ∈ lw_tbl := lt_s mcd_all111 mcd_111
theorem mcd_all113 : ∀ z, z < 113 → Cond.code (mN z) (mB z) (mL z) (mR z) ∈ lw_tbl := lt_s mcd_all112 mcd_112
theorem mcd_all114 : ∀ z, z < 114 → Cond.code (mN z) (mB z) (mL z) (mR z) ∈ lw_tbl := lt_s mcd_all113 mcd_113
theorem mcd_all115 : ∀ z, z < 115 → Cond.code (mN z) (mB z) (mL z) (mR z) ∈ lw_tbl := lt_s mcd_all114 mcd_114
theorem mcd_all116 : ∀ z, z < 116 → Cond.code (mN z) (mB z) (mL z) (mR z) ∈ lw_tbl := lt_s mcd_all115 mcd_115
theorem mcd_all117 : ∀ z, z < 117 → Cond.code (mN z) (mB z) (mL z) (mR z) ∈ lw_tbl := lt_s mcd_all116 mcd_116
theorem mcd_all118 : ∀ z, z < 118 → Cond.code (mN z) (mB z) (mL z) (mR z) ∈ lw_tbl := lt_s mcd_all117 mcd_117
theorem mcd_all119 : ∀ z, z < 119 → Cond.code (mN z) (mB z) (mL z) (mR z) ∈ lw_tbl := lt_s mcd_all118 mcd_118
theorem mcd_all120 : ∀ z, z < 120 → Cond.code (mN z) (mB z) (mL z) (mR z) ∈ lw_tbl := lt_s mcd_all119 mcd_119
theorem mcd_all121 : ∀ z, z < 121 → Cond.code (mN z) (mB z) (mL z) (mR z) ∈ lw_tbl := lt_s mcd_all120 mcd_120
theorem mcd_all122 : ∀ z, z < 122 → Cond.code (mN z) (mB z) (mL z) (mR z) ∈ lw_tbl := lt_s mcd_all121 mcd_121
theorem mcd_all123 : ∀ z, z < 123 → Cond.code (mN z) (mB z) (mL z) (mR z) ∈ lw_tbl := lt_s mcd_all122 mcd_122
theorem mcd_all124 : ∀ z, z < 124 → Cond.code (mN z) (mB z) (mL z) (mR z) ∈ lw_tbl := lt_s mcd_all123 mcd_123
theorem mcd_all125 : ∀ z, z < 125 → Cond.code (mN z) (mB z) (mL z) (mR z) ∈ lw_tbl := lt_s mcd_all124 mcd_124
theorem mcd_all126 : ∀ z, z < 126 → Cond.code (mN z) (mB z) (mL z) (mR z) ∈ lw_tbl := lt_s mcd_all125 mcd_125
theorem mcd_all127 : ∀ z, z < 127 → Cond.code (mN z) (mB z) (mL z) (mR z) ∈ lw_tbl := lt_s mcd_all126 mcd_126
theorem mcd_all128 : ∀ z, z < 128 → Cond.code (mN z) (mB z) (mL z) (mR z) ∈ lw_tbl := lt_s mcd_all127 mcd_127
theorem mcd_all129 : ∀ z, z < 129 → Cond.code (mN z) (mB z) (mL z) (mR z) ∈ lw_tbl := lt_s mcd_all128 mcd_128
theorem mcd_all130 : ∀ z, z < 130 → Cond.code (mN z) (mB z) (mL z) (mR z) ∈ lw_tbl := lt_s mcd_all129 mcd_129
theorem mcd_all131 : ∀ z, z < 131 → Cond.code (mN z) (mB z) (mL z) (mR z) ∈ lw_tbl := lt_s mcd_all130 mcd_130
theorem mcd_all132 : ∀ z, z < 132 → Cond.code (mN z) (mB z) (mL z) (mR z) ∈ lw_tbl := lt_s mcd_all131 mcd_131
theorem mcd_all133 : ∀ z, z < 133 → Cond.code (mN z) (mB z) (mL z) (mR z) ∈ lw_tbl := lt_s mcd_all132 mcd_132
theorem mcd_all134 : ∀ z, z < 134 → Cond.code (mN z) (mB z) (mL z) (mR z) ∈ lw_tbl := lt_s mcd_all133 mcd_133
theorem mcd_all135 : ∀ z, z < 135 → Cond.code (mN z) (mB z) (mL z) (mR z) ∈ lw_tbl := lt_s mcd_all134 mcd_134
theorem mcd_all136 : ∀ z, z < 136 → Cond.code (mN z) (mB z) (mL z) (mR z) ∈ lw_tbl := lt_s mcd_all135 mcd_135
theorem mcd_all137 : ∀ z, z < 137 → Cond.code (mN z) (mB z) (mL z) (mR z) ∈ lw_tbl := lt_s mcd_all136 mcd_136
theorem mcd_all138 : ∀ z, z < 138 → Cond.code (mN z) (mB z) (mL z) (mR z) ∈ lw_tbl := lt_s mcd_all137 mcd_137
theorem mcd_all139 : ∀ z, z < 139 → Cond.code (mN z) (mB z) (mL z) (mR z) ∈ lw_tbl := lt_s mcd_all138 mcd_138
theorem mcd_all140 : ∀ z, z < 140 → Cond.code (mN z) (mB z) (mL z) (mR z) ∈ lw_tbl := lt_s mcd_all139 mcd_139
theorem mcd_all141 : ∀ z, z < 141 → Cond.code (mN z) (mB z) (mL z) (mR z) ∈ lw_tbl := lt_s mcd_all140 mcd_140
theorem mcd_all142 : ∀ z, z < 142 → Cond.code (mN z) (mB z) (mL z) (mR z) ∈ lw_tbl := lt_s mcd_all141 mcd_141
theorem mcd_all143 : ∀ z, z < 143 → Cond.code (mN z) (mB z) (mL z) (mR z) ∈ lw_tbl := lt_s mcd_all142 mcd_142
theorem mcd_all144 : ∀ z, z < 144 → Cond.code (mN z) (mB z) (mL z) (mR z) ∈ lw_tbl := lt_s mcd_all143 mcd_143
theorem mcd_all145 : ∀ z, z < 145 → Cond.code (mN z) (mB z) (mL z) (mR z) ∈ lw_tbl := lt_s mcd_all144 mcd_144
theorem mcd_all146 : ∀ z, z < 146 → Cond.code (mN z) (mB z) (mL z) (mR z) ∈ lw_tbl := lt_s mcd_all145 mcd_145
theorem mcd_all147 : ∀ z, z < 147 → Cond.code (mN z) (mB z) (mL z) (mR z) ∈ lw_tbl := lt_s mcd_all146 mcd_146
theorem mcd_all148 : ∀ z, z < 148 → Cond.code (mN z) (mB z) (mL z) (mR z) ∈ lw_tbl := lt_s mcd_all147 mcd_147
theorem mcd_all149 : ∀ z, z < 149 → Cond.code (mN z) (mB z) (mL z) (mR z) ∈ lw_tbl := lt_s mcd_all148 mcd_148
theorem mcd_all150 : ∀ z, z < 150 → Cond.code (mN z) (mB z) (mL z) (mR z) ∈ lw_tbl := lt_s mcd_all149 mcd_149
theorem mcd_all151 : ∀ z, z < 151 → Cond.code (mN z) (mB z) (mL z) (mR z) ∈ lw_tbl := lt_s mcd_all150 mcd_150
theorem mcd_all152 : ∀ z, z < 152 → Cond.code (mN z) (mB z) (mL z) (mR z) ∈ lw_tbl := lt_s mcd_all151 mcd_151
theorem mcd_all153 : ∀ z, z < 153 → Cond.code (mN z) (mB z) (mL z) (mR z) ∈ lw_tbl := lt_s mcd_all152 mcd_152
theorem mcd_all154 : ∀ z, z < 154 → Cond.code (mN z) (mB z) (mL z) (mR z) ∈ lw_tbl := lt_s mcd_all153 mcd_153
theorem mcd_all155 : ∀ z, z < 155 → Cond.code (mN z) (mB z) (mL z) (mR z) ∈ lw_tbl := lt_s mcd_all154 mcd_154
theorem mcd_all156 : ∀ z, z < 156 → Cond.code (mN z) (mB z) (mL z) (mR z) ∈ lw_tbl := lt_s mcd_all155 mcd_155
theorem mcd_all157 : ∀ z, z < 157 → Cond.code (mN z) (mB z) (mL z) (mR z) ∈ lw_tbl := lt_s mcd_all156 mcd_156
theorem mcd_all158 : ∀ z, z < 158 → Cond.code (mN z) (mB z) (mL z) (mR z) ∈ lw_tbl := lt_s mcd_all157 mcd_157
theorem mcd_all159 : ∀ z, z < 159 → Cond.code (mN z) (mB z) (mL z) (mR z) ∈ lw_tbl := lt_s mcd_all158 mcd_158
theorem mcd_all160 : ∀ z, z < 160 → Cond.code (mN z) (mB z) (mL z) (mR z) ∈ lw_tbl := lt_s mcd_all159 mcd_159
theorem mcd_all161 : ∀ z, z < 161 → Cond.code (mN z) (mB z) (mL z) (mR z) ∈ lw_tbl := lt_s mcd_all160 mcd_160
theorem mcd_all162 : ∀ z, z < 162 → Cond.code (mN z) (mB z) (mL z) (mR z) ∈ lw_tbl := lt_s mcd_all161 mcd_161
theorem mcd_all163 : ∀ z, z < 163 → Cond.code (mN z) (mB z) (mL z) (mR z) ∈ lw_tbl := lt_s mcd_all162 mcd_162
theorem mcd_all164 : ∀ z, z < 164 → Cond.code (mN z) (mB z) (mL z) (mR z) ∈ lw_tbl := lt_s mcd_all163 mcd_163
theorem mcd_all165 : ∀ z, z < 165 → Cond.code (mN z) (mB z) (mL z) (mR z) ∈ lw_tbl := lt_s mcd_all164 mcd_164
theorem mcd_all166 : ∀ z, z < 166 → Cond.code (mN z) (mB z) (mL z) (mR z) ∈ lw_tbl := lt_s mcd_all165 mcd_165
theorem mcd_all167 : ∀ z, z < 167 → Cond.code (mN z) (mB z) (mL z) (mR z) ∈ lw_tbl := lt_s mcd_all166 mcd_166
theorem mcd_all168 : ∀ z, z < 168 → Cond.code (mN z) (mB z) (mL z) (mR z) ∈ lw_tbl := lt_s mcd_all167 mcd_167
theorem mcd_all169 : ∀ z, z < 169 → Cond.code (mN z) (mB z) (mL z) (mR z) ∈ lw_tbl := lt_s mcd_all168 mcd_168
theorem mcd_all170 : ∀ z, z < 170 → Cond.code (mN z) (mB z) (mL z) (mR z) ∈ lw_tbl := lt_s mcd_all169 mcd_169
theorem mcd_all171 : ∀ z, z < 171 → Cond.code (mN z) (mB z) (mL z) (mR z) ∈ lw_tbl := lt_s mcd_all170 mcd_170
theorem mcd_all172 : ∀ z, z < 172 → Cond.code (mN z) (mB z) (mL z) (mR z) ∈ lw_tbl := lt_s mcd_all171 mcd_171
theorem mcd_all173 : ∀ z, z < 173 → Cond.code (mN z) (mB z) (mL z) (mR z) ∈ lw_tbl := lt_s mcd_all172 mcd_172
theorem mcd_all174 : ∀ z, z < 174 → Cond.code (mN z) (mB z) (mL z) (mR z) ∈ lw_tbl := lt_s mcd_all173 mcd_173
theorem mcd_all175 : ∀ z, z < 175 → Cond.code (mN z) (mB z) (mL z) (mR z) ∈ lw_tbl := lt_s mcd_all174 mcd_174
theorem mcd_all176 : ∀ z, z < 176 → Cond.code (mN z) (mB z) (mL z) (mR z) ∈ lw_tbl := lt_s mcd_all175 mcd_175
theorem mcd_all177 : ∀ z, z < 177 → Cond.code (mN z) (mB z) (mL z) (mR z) ∈ lw_tbl := lt_s mcd_all176 mcd_176
theorem mcd_all178 : ∀ z, z < 178 → Cond.code (mN z) (mB z) (mL z) (mR z) ∈ lw_tbl := lt_s mcd_all177 mcd_177
theorem mcd_all179 : ∀ z, z < 179 → Cond.code (mN z) (mB z) (mL z) (mR z) ∈ lw_tbl := lt_s mcd_all178 mcd_178
theorem mcd_all180 : ∀ z, z < 180 → Cond.code (mN z) (mB z) (mL z) (mR z) ∈ lw_tbl := lt_s mcd_all179 mcd_179
theorem mcd_all181 : ∀ z, z < 181 → Cond.code (mN z) (mB z) (mL z) (mR z) ∈ lw_tbl := lt_s mcd_all180 mcd_180
theorem mcd_all182 : ∀ z, z < 182 → Cond.code (mN z) (mB z) (mL z) (mR z) ∈ lw_tbl := lt_s mcd_all181 mcd_181
theorem mcd_all183 : ∀ z, z < 183 → Cond.code (mN z) (mB z) (mL z) (mR z) ∈ lw_tbl := lt_s mcd_all182 mcd_182
theorem mcd_all184 : ∀ z, z < 184 → Cond.code (mN z) (mB z) (mL z) (mR z) ∈ lw_tbl := lt_s mcd_all183 mcd_183
theorem mcd_all185 : ∀ z, z < 185 → Cond.code (mN z) (mB z) (mL z) (mR z) ∈ lw_tbl := lt_s mcd_all184 mcd_184
theorem mcd_all186 : ∀ z, z < 186 → Cond.code (mN z) (mB z) (mL z) (mR z) ∈ lw_tbl := lt_s mcd_all185 mcd_185
theorem mcd_all187 : ∀ z, z < 187 → Cond.code (mN z) (mB z) (mL z) (mR z) ∈ lw_tbl := lt_s mcd_all186 mcd_186
theorem mcd_all188 : ∀ z, z < 188 → Cond.code (mN z) (mB z) (mL z) (mR z) ∈ lw_tbl := lt_s mcd_all187 mcd_187
theorem mcd_all189 : ∀ z, z < 189 → Cond.code (mN z) (mB z) (mL z) (mR z) ∈ lw_tbl := lt_s mcd_all188 mcd_188
theorem mcd_all190 : ∀ z, z < 190 → Cond.code (mN z) (mB z) (mL z) (mR z) ∈ lw_tbl := lt_s mcd_all189 mcd_189
theorem mcd_all191 : ∀ z, z < 191 → Cond.code (mN z) (mB z) (mL z) (mR z) ∈ lw_tbl := lt_s mcd_all190 mcd_190
theorem mcd_all192 : ∀ z, z < 192 → Cond.code (mN z) (mB z) (mL z) (mR z) ∈ lw_tbl := lt_s mcd_all191 mcd_191
theorem mcd_all193 : ∀ z, z < 193 → Cond.code (mN z) (mB z) (mL z) (mR z) ∈ lw_tbl := lt_s mcd_all192 mcd_192
theorem mcd_all194 : ∀ z, z < 194 → Cond.code (mN z) (mB z) (mL z) (mR z) ∈ lw_tbl := lt_s mcd_all193 mcd_193
theorem mcd_all195 : ∀ z, z < 195 → Cond.code (mN z) (mB z) (mL z) (mR z) ∈ lw_tbl := lt_s mcd_all194 mcd_194
theorem mcd_all196 : ∀ z, z < 196 → Cond.code (mN z) (mB z) (mL z) (mR z) ∈ lw_tbl := lt_s mcd_all195 mcd_195
theorem mcd_all197 : ∀ z, z < 197 → Cond.code (mN z) (mB z) (mL z) (mR z) ∈ lw_tbl := lt_s mcd_all196 mcd_196
theorem mcd_all198 : ∀ z, z < 198 → Cond.code (mN z) (mB z) (mL z) (mR z) ∈ lw_tbl := lt_s mcd_all197 mcd_197
theorem mcd_all199 : ∀ z, z < 199 → Cond.code (mN z) (mB z) (mL z) (mR z) ∈ lw_tbl := lt_s mcd_all198 mcd_198
theorem mcd_all200 : ∀ z, z < 200 → Cond.code (mN z) (mB z) (mL z) (mR z) ∈ lw_tbl := lt_s mcd_all199 mcd_199
theorem mcd_all201 : ∀ z, z < 201 → Cond.code (mN z) (mB z) (mL z) (mR z) ∈ lw_tbl := lt_s mcd_all200 mcd_200
theorem mcd_all202 : ∀ z, z < 202 → Cond.code (mN z) (mB z) (mL z) (mR z) ∈ lw_tbl := lt_s mcd_all201 mcd_201
theorem mcd_all203 : ∀ z, z < 203 → Cond.code (mN z) (mB z) (mL z) (mR z) ∈ lw_tbl := lt_s mcd_all202 mcd_202
theorem mcd_all204 : ∀ z, z < 204 → Cond.code (mN z) (mB z) (mL z) (mR z) ∈ lw_tbl := lt_s mcd_all203 mcd_203
theorem mcd_all205 : ∀ z, z < 205 → Cond.code (mN z) (mB z) (mL z) (mR z) ∈ lw_tbl := lt_s mcd_all204 mcd_204
theorem mcd_all206 : ∀ z, z < 206 → Cond.code (mN z) (mB z) (mL z) (mR z) ∈ lw_tbl := lt_s mcd_all205 mcd_205
theorem mcd_all207 : ∀ z, z < 207 → Cond.code (mN z) (mB z) (mL z) (mR z) ∈ lw_tbl := lt_s mcd_all206 mcd_206
theorem mcd_all208 : ∀ z, z < 208 → Cond.code (mN z) (mB z) (mL z) (mR z) ∈ lw_tbl := lt_s mcd_all207 mcd_207
theorem mcd_all209 : ∀ z, z < 209 → Cond.code (mN z) (mB z) (mL z) (mR z) ∈ lw_tbl := lt_s mcd_all208 mcd_208
theorem mcd_all210 : ∀ z, z < 210 → Cond.code (mN z) (mB z) (mL z) (mR z) ∈ lw_tbl := lt_s mcd_all209 mcd_209
theorem mcd_all211 : ∀ z, z < 211 → Cond.code (mN z) (mB z) (mL z) (mR z) ∈ lw_tbl := lt_s mcd_all210 mcd_210
theorem mcd_all212 : ∀ z, z < 212 → Cond.code (mN z) (mB z) (mL z) (mR z) ∈ lw_tbl := lt_s mcd_all211 mcd_211
theorem mcd_all213 : ∀ z, z < 213 → Cond.code (mN z) (mB z) (mL z) (mR z) ∈ lw_tbl := lt_s mcd_all212 mcd_212
theorem mcd_all214 : ∀ z, z < 214 → Cond.code (mN z) (mB z) (mL z) (mR z) ∈ lw_tbl := lt_s mcd_all213 mcd_213
theorem mcd_all215 : ∀ z, z < 215 → Cond.code (mN z) (mB z) (mL z) (mR z) ∈ lw_tbl := lt_s mcd_all214 mcd_214
theorem mcd_all216 : ∀ z, z < 216 → Cond.code (mN z) (mB z) (mL z) (mR z) ∈ lw_tbl := lt_s mcd_all215 mcd_215
theorem mcd_all217 : ∀ z, z < 217 → Cond.code (mN z) (mB z) (mL z) (mR z) ∈ lw_tbl := lt_s mcd_all216 mcd_216
theorem mcd_all218 : ∀ z, z < 218 → Cond.code (mN z) (mB z) (mL z) (mR z) ∈ lw_tbl := lt_s mcd_all217 mcd_217
theorem mcd_all219 : ∀ z, z < 219 → Cond.code (mN z) (mB z) (mL z) (mR z) ∈ lw_tbl := lt_s mcd_all218 mcd_218
theorem mcd_all220 : ∀ z, z < 220 → Cond.code (mN z) (mB z) (mL z) (mR z) ∈ lw_tbl := lt_s mcd_all219 mcd_219
theorem mcd_all221 : ∀ z, z < 221 → Cond.code (mN z) (mB z) (mL z) (mR z) ∈ lw_tbl := lt_s mcd_all220 mcd_220
theorem mcd_all222 : ∀ z, z < 222 → Cond.code (mN z) (mB z) (mL z) (mR z) ∈ lw_tbl := lt_s mcd_all221 mcd_221
theorem mcd_all223 : ∀ z, z < 223 → Cond.code (mN z) (mB z) (mL z) (mR z) ∈ lw_tbl := lt_s mcd_all222 mcd_222
theorem mcd_all224 : ∀ z, z < 224 → Cond.code (mN z) (mB z) (mL z) (mR z) ∈ lw_tbl := lt_s mcd_all223 mcd_223
theorem mcd_all225 : ∀ z, z < 225 → Cond.code (mN z) (mB z) (mL z) (mR z) ∈ lw_tbl := lt_s mcd_all224 mcd_224
theorem mcd_all226 : ∀ z, z < 226 → Cond.code (mN z) (mB z) (mL z) (mR z) ∈ lw_tbl := lt_s mcd_all225 mcd_225
theorem mcd_all227 : ∀ z, z < 227 → Cond.code (mN z) (mB z) (mL z) (mR z) ∈ lw_tbl := lt_s mcd_all226 mcd_226
theorem mcd_all228 : ∀ z, z < 228 → Cond.code (mN z) (mB z) (mL z) (mR z) ∈ lw_tbl := lt_s mcd_all227 mcd_227
theorem mcd_all229 : ∀ z, z < 229 → Cond.code (mN z) (mB z) (mL z) (mR z) ∈ lw_tbl := lt_s mcd_all228 mcd_228
theorem mcd_all230 : ∀ z, z < 230 → Cond.code (mN z) (mB z) (mL z) (mR z) ∈ lw_tbl := lt_s mcd_all229 mcd_229
theorem mcd_all231 : ∀ z, z < 231 → Cond.code (mN z) (mB z) (mL z) (mR z) ∈ lw_tbl := lt_s mcd_all230 mcd_230
theorem plain_all : (List.range 231).all (fun z => plainFor (mN z)) = true := by decide +kernel
/-- the words that stay as they are while tables grow warmer -/
def reqK : Cond → Bool
  | .fieldLink .. | .methodLink .. | .classLink .. | .code .. | .instanceMethod .. | .static .. | .selects .. | .initialized .. | .instantiable .. | .lays .. | .laysFinal .. | .constant .. | .constantLong .. | .arrayClass .. | .native .. | .sameField .. | .sameMethod .. => true
  | _ => false
theorem tbl_good : lw_tbl.all (fun w => !reqK w || goodWord w) = true := by decide +kernel
end
section
/-! THE TIE between the pure memory and the machine's heap -/
/-- a field's value -/
def fv (M : Mem) (c a k : Nat) : Value := match fS c k with
  | 1 => .long (gJ M (64 * c + k) a)
  | 2 => va_rf (gR M (64 * c + k) a)
  | _ => .int (gI M (64 * c + k) a)
def flds (M : Mem) (c a : Nat) : List Value := (List.range (nfl c)).map (fv M c a)
def arrc (M : Mem) (a : Nat) : vp_A := match kd M a with
  | 21 => (ln M a, .inr (.inl (aJ M a)))
  | 23 => (ln M a, .inr (.inr (.inr (.inr (aR M a)))))
  | 24 => (ln M a, .inr (.inr (.inr (.inr (aR M a)))))
  | _ => (ln M a, .inl (aI M a))
def cellOf (cA : Nat → ClassId) (M : Mem) (a : Nat) : va_E := if kd M a < 13 then .inr (kd M a, flds M (kd M a) a) else .inl (cA (kd M a), arrc M a)
def wsN (base : Nat) (cA : Nat → ClassId) (M : Mem) (n : Nat) : va_W := (List.range n).map (fun i => (base + i, cellOf cA M (base + i)))
abbrev wsOf (base : Nat) (cA : Nat → ClassId) (M : Mem) : va_W := wsN base cA M (mT M - base)
theorem wsN_get {base : Nat} {cA : Nat → ClassId} {M : Mem} {n i : Nat} (h : i < n) : (wsN base cA M n)[i]? = some (base + i, cellOf cA M (base + i)) := by
  unfold wsN
  rw [List.getElem?_map, List.getElem?_range h]
  rfl
theorem ws_get {base : Nat} {cA : Nat → ClassId} {M : Mem} {a : Nat} (h1 : base ≤ a) (h2 : a < mT M) : (wsOf base cA M)[a - base]? = some (a, cellOf cA M a) := by
  have h := wsN_get (base := base) (cA := cA) (M := M) (n := mT M - base) (i := a - base) (by omega)
  rw [show base + (a - base) = a by omega] at h
  exact h
theorem ws_D (base : Nat) (cA : Nat → ClassId) (M : Mem) : va_D (fun q => base ≤ q) (wsOf base cA M) := by
  have key : ∀ (i : Nat) (p : Nat × va_E), (wsOf base cA M)[i]? = some p → p.1 = base + i := by
    intro i p h
    have hl : i < mT M - base := by
      have := (List.getElem?_eq_some_iff.mp h).1
      simpa [wsOf, wsN] using this
    rw [wsN_get hl] at h
    cases h
    rfl
  refine ⟨fun i j p q hi hj he => ?_, fun k q h => ?_⟩
  · have h1 := key i p hi
    have h2 := key j q hj
    omega
  · have := key k q h
    show base ≤ q.1
    omega
/-- one cell has changed -/
theorem ws_set {base : Nat} {cA : Nat → ClassId} {M M' : Mem} {a : Nat} (h1 : base ≤ a) (h2 : a < mT M) (ht : mT M' = mT M) (hk : ∀ b, b ≠ a → cellOf cA M' b = cellOf cA M b) : wsOf base cA M' = (wsOf base cA M).set (a - base) (a, cellOf cA M' a) := by
  apply List.ext_getElem?
  intro i
  rw [List.getElem?_set]
  by_cases hi : i < mT M - base
  · rw [wsN_get (by rw [ht]; exact hi)]
    by_cases he : a - base = i
    · have hb : base + i = a := by omega
      simp [he, hb, wsN, hi]
    · rw [if_neg he, wsN_get hi, hk _ (by omega)]
  · have l1 : (wsOf base cA M')[i]? = none := by
      rw [List.getElem?_eq_none_iff]
      simp only [wsOf, wsN, List.length_map, List.length_range]
      omega
    have l2 : (wsOf base cA M)[i]? = none := by
      rw [List.getElem?_eq_none_iff]
      simp only [wsOf, wsN, List.length_map, List.length_range]
      omega
    rw [l1, l2]
    by_cases he : a - base = i
    · omega
    · rw [if_neg he]
/-- one cell more -/
theorem ws_push {base : Nat} {cA : Nat → ClassId} {M M' : Mem} (h1 : base ≤ mT M) (ht : mT M' = mT M + 1) (hk : ∀ b, b ≠ mT M → cellOf cA M' b = cellOf cA M b) : wsOf base cA M' = wsOf base cA M ++ [(mT M, cellOf cA M' (mT M))] := by
  have e : mT M' - base = (mT M - base) + 1 := by omega
  unfold wsOf wsN
  rw [e, List.range_succ, List.map_append]
  congr 1
  · apply List.map_congr_left
    intro i hi
    have := List.mem_range.mp hi
    rw [hk _ (by omega)]
  · simp only [List.map_cons, List.map_nil]
    rw [show base + (mT M - base) = mT M by omega]
/-- pure invariants: own kinds lie between base and top; what lists' arrays hold are objects -/
def PIv (base : Nat) (M : Mem) : Prop := base ≤ mT M ∧ (∀ a, kd M a ≤ 24 → base ≤ a ∧ a < mT M) ∧ (∀ a, kd M a = 23 → ∀ j y, aR M a j = some y → 1 ≤ kd M y ∧ kd M y ≤ 10)
/-- what grows, what stays -/
def Mo (M M' : Mem) : Prop := mT M ≤ mT M' ∧ mS M ≤ mS M' ∧ sR M' = sR M ∧ ∀ a, 25 ≤ kd M' a → kd M' a = kd M a ∧ ln M' a = ln M a ∧ aI M' a = aI M a ∧ aJ M' a = aJ M a
theorem Mo.rf (M : Mem) : Mo M M := ⟨Nat.le_refl _, Nat.le_refl _, rfl, fun _ _ => ⟨rfl, rfl, rfl, rfl⟩⟩
theorem Mo.tr {M M1 M2 : Mem} (h : Mo M M1) (g : Mo M1 M2) : Mo M M2 := by
  refine ⟨Nat.le_trans h.1 g.1, Nat.le_trans h.2.1 g.2.1, g.2.2.1.trans h.2.2.1, fun a ha => ?_⟩
  obtain ⟨e1, e2, e3, e4⟩ := g.2.2.2 a ha
  obtain ⟨f1, f2, f3, f4⟩ := h.2.2.2 a (by rw [← e1]; exact ha)
  exact ⟨e1.trans f1, e2.trans f2, e3.trans f3, e4.trans f4⟩
/-- both kept -/
def Kp2 (base : Nat) (M M' : Mem) : Prop := Mo M M' ∧ (PIv base M → PIv base M')
theorem Kp2.rf (base : Nat) (M : Mem) : Kp2 base M M := ⟨Mo.rf M, id⟩
theorem Kp2.tr {base : Nat} {M M1 M2 : Mem} (h : Kp2 base M M1) (g : Kp2 base M1 M2) : Kp2 base M M2 := ⟨h.1.tr g.1, fun x => g.2 (h.2 x)⟩
theorem k_sI (base : Nat) (M : Mem) (k a : Nat) (v : Int32) : Kp2 base M (sI M k a v) := Kp2.rf base M
theorem k_sJ (base : Nat) (M : Mem) (k a : Nat) (v : Int64) : Kp2 base M (sJ M k a v) := Kp2.rf base M
theorem k_sF (base : Nat) (M : Mem) (k a : Nat) (v : Option Nat) : Kp2 base M (sF M k a v) := Kp2.rf base M
theorem k_uI (base : Nat) (M : Mem) (a : Nat) (f : Nat → Int32) (h : kd M a ≤ 24) : Kp2 base M (uI M a f) :=
  ⟨⟨Nat.le_refl _, Nat.le_refl _, rfl, fun b hb => ⟨rfl, rfl, if_neg (fun e => by subst e; have : 25 ≤ kd M b := hb; omega), rfl⟩⟩, id⟩
theorem k_uJ (base : Nat) (M : Mem) (a : Nat) (f : Nat → Int64) (h : kd M a ≤ 24) : Kp2 base M (uJ M a f) :=
  ⟨⟨Nat.le_refl _, Nat.le_refl _, rfl, fun b hb => ⟨rfl, rfl, rfl, if_neg (fun e => by subst e; have : 25 ≤ kd M b := hb; omega)⟩⟩, id⟩
theorem k_uR (base : Nat) (M : Mem) (a : Nat) (f : Nat → Option Nat) (h : kd M a ≤ 24) (hf : PIv base M → kd M a = 23 → ∀ j y, f j = some y → 1 ≤ kd M y ∧ kd M y ≤ 10) : Kp2 base M (uR M a f) := by
  refine ⟨⟨Nat.le_refl _, Nat.le_refl _, rfl, fun b hb => ⟨rfl, rfl, rfl, rfl⟩⟩, fun g => ⟨g.1, g.2.1, fun b hb j y hy => ?_⟩⟩
  by_cases e : b = a
  · subst e
    have e2 : aR (uR M b f) b = f := if_pos rfl
    rw [e2] at hy
    exact hf g hb j y hy
  · have e2 : aR (uR M a f) b = aR M b := if_neg e
    rw [e2] at hy
    exact g.2.2 b hb j y hy
theorem k_nO (base : Nat) (M : Mem) (c n : Nat) (hc : c ≤ 12) : Kp2 base M (nO M c n) := by
  have hk : ∀ b, kd (nO M c n) b = if b = mT M then c else kd M b := fun b => rfl
  refine ⟨⟨Nat.le_succ _, Nat.le_add_right _ _, rfl, fun b hb => ?_⟩, fun g => ⟨Nat.le_trans g.1 (Nat.le_succ _), fun b hb => ?_, fun b hb j y hy => ?_⟩⟩
  · rw [hk] at hb
    split at hb
    · omega
    · rename_i h
      exact ⟨if_neg h, rfl, rfl, rfl⟩
  · rw [hk] at hb
    show base ≤ b ∧ b < mT M + 1
    split at hb
    · rename_i h; have := g.1; omega
    · have := g.2.1 b hb; omega
  · rw [hk] at hb
    split at hb
    · omega
    · have h1 := g.2.2 b hb j y hy
      have h2 := g.2.1 y (by omega)
      rw [hk, if_neg (by omega)]
      exact h1
theorem k_nA (base : Nat) (M : Mem) (c n : Nat) (hc : 20 ≤ c) (hc2 : c ≤ 24) : Kp2 base M (nA M c n) := by
  have hk : ∀ b, kd (nA M c n) b = if b = mT M then c else kd M b := fun b => rfl
  refine ⟨⟨Nat.le_succ _, Nat.le_add_right _ _, rfl, fun b hb => ?_⟩, fun g => ⟨Nat.le_trans g.1 (Nat.le_succ _), fun b hb => ?_, fun b hb j y hy => ?_⟩⟩
  · rw [hk] at hb
    split at hb
    · omega
    · rename_i h
      exact ⟨if_neg h, if_neg h, if_neg h, if_neg h⟩
  · rw [hk] at hb
    show base ≤ b ∧ b < mT M + 1
    split at hb
    · rename_i h; have := g.1; omega
    · have := g.2.1 b hb; omega
  · have hr : aR (nA M c n) b = if b = mT M then (fun _ => none) else aR M b := rfl
    rw [hr] at hy
    rw [hk] at hb
    split at hy
    · cases hy
    · rename_i h
      rw [if_neg h] at hb
      have h1 := g.2.2 b hb j y hy
      have h2 := g.2.1 y (by omega)
      rw [hk, if_neg (by omega)]
      exact h1
end
section
/-! EVERY RUN keeps the pure invariants -/
def Pr (base : Nat) (M : Mem) (F : Kp → Option Rt) : Prop := ∀ κ, (∀ q r, ask κ q = some r → Kp2 base q.2.2.2.2 r.2) → ∀ r, F κ = some r → Kp2 base M r.2
section PR
variable {base : Nat} {M : Mem}
theorem pr_none : Pr base M (fun _ => none) := fun _ _ _ h => by cases h
theorem pr_ret (v : Option PV) : Pr base M (fun _ => some (v, M)) := fun _ _ _ h => by cases h; exact Kp2.rf base M
theorem pr_to {M1 : Mem} {F : Kp → Option Rt} (h : Kp2 base M M1) (g : Pr base M1 F) : Pr base M F := fun κ hκ r hr => h.tr (g κ hκ r hr)
theorem pr_app (y pc : Nat) (ls : List (Option PV)) (st : List PV) : Pr base M (fun κ => κ y pc ls st M) := fun _ hκ r hr => hκ (y, pc, ls, st, M) r hr
theorem pr_ite {p : Prop} [Decidable p] {F G : Kp → Option Rt} (hF : p → Pr base M F) (hG : ¬ p → Pr base M G) : Pr base M (fun κ => if p then F κ else G κ) := by
  by_cases h : p
  · simpa only [if_pos h] using hF h
  · simpa only [if_neg h] using hG h
theorem pr_itd {p : Prop} {d : Decidable p} {F G : Kp → Option Rt} (hF : p → Pr base M F) (hG : ¬ p → Pr base M G) : Pr base M (fun κ => @ite _ p d (F κ) (G κ)) := pr_ite hF hG
theorem pr_rd {r : Option Nat} {c : Nat} {F : Nat → Kp → Option Rt} (h : ∀ a, kd M a = c → Pr base M (F a)) : Pr base M (fun κ => rd r c M fun a => F a κ) := by
  cases r with
  | none => exact pr_none
  | some a => exact pr_ite (h a) (fun _ => pr_none)
theorem pr_ix {c d : Nat} {r : Option Nat} {i : Int32} {F : Nat → Nat → Kp → Option Rt} (h : ∀ a j, (kd M a = c ∨ kd M a = d) → Pr base M (F a j)) : Pr base M (fun κ => ix c d r i M fun a j => F a j κ) := by
  cases r with
  | none => exact pr_none
  | some a => exact pr_ite (fun g => h a _ g.1) (fun _ => pr_none)
theorem pr_al {r : Option Nat} {F : Nat → Kp → Option Rt} (h : ∀ a, Pr base M (F a)) : Pr base M (fun κ => al r M fun a => F a κ) := by
  cases r with
  | none => exact pr_none
  | some a => exact pr_ite (fun _ => h a) (fun _ => pr_none)
theorem pr_ck {r : Option Nat} {c : Nat} {F : Kp → Option Rt} (h : Pr base M F) : Pr base M (fun κ => ck r c M (F κ)) := by
  cases r with
  | none => exact h
  | some a => exact pr_ite (fun _ => h) (fun _ => pr_none)
theorem pr_nn {r : Option Nat} {F : Kp → Option Rt} (h : Pr base M F) : Pr base M (fun κ => nn r (F κ)) := by
  cases r with
  | none => exact pr_none
  | some a => exact h
theorem pr_zo {x : Int32} {F : Kp → Option Rt} (h : Pr base M F) : Pr base M (fun κ => zo x (F κ)) := pr_ite (fun _ => h) (fun _ => pr_none)
theorem pr_gd {p : Prop} [Decidable p] {F : Kp → Option Rt} (h : Pr base M F) : Pr base M (fun κ => gd p (F κ)) := pr_ite (fun _ => h) (fun _ => pr_none)
theorem pr_bq {b : Bool} {F : Kp → Option Rt} (h : b = true → Pr base M F) : Pr base M (fun κ => bq b (F κ)) := by
  cases b with
  | false => exact pr_none
  | true => exact h rfl
theorem pr_cl {O : Kp → Option Rt} (hO : Pr base M O) {G : Rt → Kp → Option Rt} (hG : ∀ x, Pr base x.2 (G x)) : Pr base M (fun κ => match O κ with | some x => G x κ | none => none) := by
  intro κ hκ r h
  cases ho : O κ with
  | none => simp [ho] at h
  | some x =>
    simp only [ho] at h
    exact (hO κ hκ x ho).tr (hG x κ hκ r h)
theorem pr_clK (rk : Nat) {O : Kp → Option Rt} (hO : Pr base M O) (y pc : Nat) (ls : List (Option PV)) (st : List PV) : Pr base M (fun κ => clK rk (O κ) pc ls st (κ y)) := by
  have := pr_cl hO (G := fun x κ => clK rk (some x) pc ls st (κ y)) (fun x => by
    rcases rk with _ | _ | _ | n <;> rcases x with ⟨_ | x | x | x | x | x, M1⟩ <;> first | exact pr_app y pc _ _ | exact pr_none)
  refine cast (congrArg (Pr base M) (funext fun κ => ?_)) this
  cases O κ with
  | none => rcases rk with _ | _ | _ | n <;> rfl
  | some x => rfl
theorem pr_sw (y : Nat) (x : Int32) (pc : Nat) (ls : List (Option PV)) (st : List PV) (d : Int) (os : List Int) : ∀ lo : Int, Pr base M (fun κ => swK x pc ls st M (κ y) d lo os) := by
  induction os with
  | nil => intro lo; exact pr_app y _ ls st
  | cons o t ih => intro lo; exact pr_ite (fun _ => pr_app y _ ls st) (fun _ => ih (lo + 1))
theorem pr_mt (y pc : Nat) (o : Option (List (Option PV) × List PV)) : Pr base M (fun κ => match o with | some p => κ y pc p.1 p.2 M | none => none) := by
  cases o with
  | none => exact pr_none
  | some p => exact pr_app y pc p.1 p.2
theorem pr_inv (y pc len : Nat) (ns : List Nat) (ls : List (Option PV)) (st : List PV) : Pr base M (fun κ => invK (fun z mx as M => κ z 0 (ent as mx) [] M) (κ y) pc len ns ls st M) := by
  unfold invK
  split
  · split
    · exact pr_bq fun _ => pr_clK _ (pr_app _ _ _ _) y _ _ _
    · exact pr_none
  · split
    · exact pr_bq fun _ => pr_rd fun a _ => pr_clK _ (pr_app _ _ _ _) y _ _ _
    · exact pr_none
  all_goals try (split <;> try exact pr_none)
  all_goals try exact pr_none
  · exact pr_bq fun _ => pr_nn (pr_app y _ _ _)
  · rename_i a0 a1 yy a3 x a5
    refine pr_bq fun _ => ?_
    rcases x with _ | a <;> rcases yy with _ | b <;> first | exact pr_none | skip
    exact pr_ite (fun h => pr_to (k_uJ base M b _ (by omega)) (pr_app y _ _ _)) (fun _ => pr_none)
  · rename_i a0 a1 yy a3 x a5
    refine pr_bq fun _ => ?_
    rcases x with _ | a <;> rcases yy with _ | b <;> first | exact pr_none | skip
    refine pr_ite (fun h => pr_to (k_uR base M b _ (by omega) fun g hb j z hz => ?_) (pr_app y _ _ _)) (fun _ => pr_none)
    unfold va_cpy at hz
    split at hz
    · exact g.2.2 a h.1 _ _ hz
    · exact g.2.2 b hb _ _ hz
  · exact pr_bq fun _ => pr_rd fun a _ => pr_app y _ _ _
  · rename_i x _
    refine pr_bq fun _ => ?_
    rcases x with _ | a
    · exact pr_none
    · refine pr_ite (fun h => pr_to ((k_nA base M 21 (ln M a) (by omega) (by omega)).tr (k_uJ base _ (mT M) _ ?_)) (pr_app y _ _ _)) (fun _ => pr_none)
      show (if mT M = mT M then 21 else _) ≤ 24
      rw [if_pos rfl]
      omega
  · exact pr_bq fun _ => pr_gd (pr_app y _ _ _)
  · exact pr_bq fun _ => pr_gd (pr_app y _ _ _)
  · exact pr_bq fun _ => pr_app y _ _ _
  · exact pr_bq fun _ => pr_app y _ _ _
theorem pr_step (y : Nat) (ins : Instr) (len : Nat) (ns : List Nat) (cst : PV) (pc : Nat) (ls : List (Option PV)) (st : List PV) : Pr base M (fun κ => stepK (fun z mx as M => κ z 0 (ent as mx) [] M) (κ y) ins len ns cst pc ls st M) := by
  unfold stepK
  split
  all_goals try exact pr_inv y pc len ns ls st
  all_goals try exact pr_mt y (pc + len) _
  all_goals try (split <;> try exact pr_none)
  all_goals try split
  all_goals first
    | exact pr_none
    | exact pr_ret _
    | exact pr_app y _ _ _
    | exact pr_ite (fun _ => pr_app y _ _ _) (fun _ => pr_app y _ _ _)
    | exact pr_gd (pr_app y _ _ _)
    | exact pr_rd fun a _ => pr_app y _ _ _
    | exact pr_rd fun a _ => pr_to (k_sI base M _ a _) (pr_app y _ _ _)
    | exact pr_rd fun a _ => pr_to (k_sJ base M _ a _) (pr_app y _ _ _)
    | exact pr_rd fun a _ => pr_to (k_sF base M _ a _) (pr_app y _ _ _)
    | exact pr_rd fun a _ => pr_zo (pr_to (k_sI base M _ a _) (pr_app y _ _ _))
    | exact pr_ix fun a j _ => pr_app y _ _ _
    | exact pr_ix fun a j h => pr_to (k_uI base M a _ (by omega)) (pr_app y _ _ _)
    | exact pr_ix fun a j h => pr_to (k_uJ base M a _ (by omega)) (pr_app y _ _ _)
    | exact pr_ix fun a j h => pr_zo (pr_to (k_uI base M a _ (by omega)) (pr_app y _ _ _))
    | exact pr_al fun a => pr_app y _ _ _
    | exact pr_ck (pr_app y _ _ _)
    | exact pr_sw y _ pc ls _ _ _ _
    | exact pr_zo (pr_ret _)
    | exact pr_bq fun h => pr_to (k_nO base M _ _ (Nat.le_of_ble_eq_true h)) (pr_app y _ _ _)
    | exact pr_bq fun h => pr_bq fun h2 => pr_gd (pr_to (k_nA base M _ _ (Nat.le_of_ble_eq_true h) (Nat.le_of_ble_eq_true h2)) (pr_app y _ _ _))
    | skip
  · refine pr_ix fun a j h => pr_itd (fun g => pr_to (k_uR base M a _ (by omega) fun hP ha i z hz => ?_) (pr_app y _ _ _)) (fun _ => pr_none)
    unfold up1 at hz
    split at hz
    · subst hz
      rcases g with g | g
      · exact g.2
      · omega
    · exact hP.2.2 a ha _ _ hz
end PR
theorem rnF_kp (base : Nat) (P : Prg) : ∀ n q r, ask (rnF P n) q = some r → Kp2 base q.2.2.2.2 r.2
  | 0 => fun q r h => by cases h
  | n + 1 => by
    intro q r h
    obtain ⟨y, pc, ls, st, M⟩ := q
    have h : one P (rnF P n) y pc ls st M = some r := h
    unfold one at h
    cases he : P y pc with
    | none => rw [he] at h; cases h
    | some e =>
      rw [he] at h
      exact pr_step y e.1 e.2.1 e.2.2.1 e.2.2.2.1 pc _ st (rnF P n) (rnF_kp base P n) r h
end
