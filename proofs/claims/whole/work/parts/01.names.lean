-- ===== PART A: goes FIRST, ahead of the names: the tables' words, and 'selects' of the private methods out of them =====
/-- a private method of a class that the tables say can be made, by its rows of tables_1 -/
def lw_okq (q : MethodName × Nat) : Prop := (q.1.cls ≠ "java/lang/invoke/MethodHandle" ∧ q.1.cls ≠ "java/lang/invoke/VarHandle") ∧ Cond.instantiable q.1.cls q.2 ∈ tables_1 ∧ Cond.privateMethod q.1 ∈ tables_1 ∧ Cond.instanceMethod q.1 ∈ tables_1
theorem lw_p0 : lw_okq (⟨"VcdiffForms$Table", "laySingles", "()I"⟩, 3) := ⟨⟨by decide +kernel, by decide +kernel⟩, List.mem_of_getElem? (i := 46) (by decide +kernel), List.mem_of_getElem? (i := 221) (by decide +kernel), List.mem_of_getElem? (i := 222) (by decide +kernel)⟩
theorem lw_p1 : lw_okq (⟨"VcdiffForms$Table", "lay", "(IIIII)V"⟩, 3) := ⟨⟨by decide +kernel, by decide +kernel⟩, List.mem_of_getElem? (i := 46) (by decide +kernel), List.mem_of_getElem? (i := 225) (by decide +kernel), List.mem_of_getElem? (i := 226) (by decide +kernel)⟩
theorem lw_p2 : lw_okq (⟨"VcdiffForms$Table", "layPairs", "(I)V"⟩, 3) := ⟨⟨by decide +kernel, by decide +kernel⟩, List.mem_of_getElem? (i := 46) (by decide +kernel), List.mem_of_getElem? (i := 240) (by decide +kernel), List.mem_of_getElem? (i := 241) (by decide +kernel)⟩
theorem lw_p3 : lw_okq (⟨"VcdiffForms$Table", "isGoodHalf", "(II)Z"⟩, 3) := ⟨⟨by decide +kernel, by decide +kernel⟩, List.mem_of_getElem? (i := 46) (by decide +kernel), List.mem_of_getElem? (i := 518) (by decide +kernel), List.mem_of_getElem? (i := 519) (by decide +kernel)⟩
theorem lw_p4 : lw_okq (⟨"VcdiffForms$Maker", "makeWindow", "(LVcdiffForms$Row;ILVcdiffForms$Row;ILVcdiffForms$Table;LVcdiffForms$Row;)Z"⟩, 7) := ⟨⟨by decide +kernel, by decide +kernel⟩, List.mem_of_getElem? (i := 116) (by decide +kernel), List.mem_of_getElem? (i := 540) (by decide +kernel), List.mem_of_getElem? (i := 541) (by decide +kernel)⟩
theorem lw_p5 : lw_okq (⟨"VcdiffForms$Maker", "findMoves", "(I)V"⟩, 7) := ⟨⟨by decide +kernel, by decide +kernel⟩, List.mem_of_getElem? (i := 116) (by decide +kernel), List.mem_of_getElem? (i := 552) (by decide +kernel), List.mem_of_getElem? (i := 553) (by decide +kernel)⟩
theorem lw_p6 : lw_okq (⟨"VcdiffForms$Finder", "enterUpTo", "(I)V"⟩, 6) := ⟨⟨by decide +kernel, by decide +kernel⟩, List.mem_of_getElem? (i := 122) (by decide +kernel), List.mem_of_getElem? (i := 571) (by decide +kernel), List.mem_of_getElem? (i := 572) (by decide +kernel)⟩
theorem lw_p7 : lw_okq (⟨"VcdiffForms$Finder", "chainOf", "(I)I"⟩, 6) := ⟨⟨by decide +kernel, by decide +kernel⟩, List.mem_of_getElem? (i := 122) (by decide +kernel), List.mem_of_getElem? (i := 575) (by decide +kernel), List.mem_of_getElem? (i := 576) (by decide +kernel)⟩
theorem lw_p8 : lw_okq (⟨"VcdiffForms$Finder", "sameLength", "(II)I"⟩, 6) := ⟨⟨by decide +kernel, by decide +kernel⟩, List.mem_of_getElem? (i := 122) (by decide +kernel), List.mem_of_getElem? (i := 581) (by decide +kernel), List.mem_of_getElem? (i := 582) (by decide +kernel)⟩
theorem lw_p9 : lw_okq (⟨"VcdiffForms$Maker", "tellAddress", "(II)I"⟩, 7) := ⟨⟨by decide +kernel, by decide +kernel⟩, List.mem_of_getElem? (i := 116) (by decide +kernel), List.mem_of_getElem? (i := 598) (by decide +kernel), List.mem_of_getElem? (i := 599) (by decide +kernel)⟩
theorem lw_p10 : lw_okq (⟨"VcdiffForms$Maker", "tellCodes", "(LVcdiffForms$Table;)Z"⟩, 7) := ⟨⟨by decide +kernel, by decide +kernel⟩, List.mem_of_getElem? (i := 116) (by decide +kernel), List.mem_of_getElem? (i := 627) (by decide +kernel), List.mem_of_getElem? (i := 628) (by decide +kernel)⟩
theorem lw_p11 : lw_okq (⟨"VcdiffForms$CodeIndex", "head", "(I)I"⟩, 2) := ⟨⟨by decide +kernel, by decide +kernel⟩, List.mem_of_getElem? (i := 170) (by decide +kernel), List.mem_of_getElem? (i := 643) (by decide +kernel), List.mem_of_getElem? (i := 644) (by decide +kernel)⟩
theorem lw_p12 : lw_okq (⟨"VcdiffForms$Maker", "tellSizes", "(LVcdiffForms$Row;II)V"⟩, 7) := ⟨⟨by decide +kernel, by decide +kernel⟩, List.mem_of_getElem? (i := 116) (by decide +kernel), List.mem_of_getElem? (i := 657) (by decide +kernel), List.mem_of_getElem? (i := 658) (by decide +kernel)⟩
theorem lw_p13 : lw_okq (⟨"VcdiffForms", "tellTable", "()V"⟩, 13) := ⟨⟨by decide +kernel, by decide +kernel⟩, List.mem_of_getElem? (i := 18) (by decide +kernel), List.mem_of_getElem? (i := 670) (by decide +kernel), List.mem_of_getElem? (i := 671) (by decide +kernel)⟩
theorem lw_p14 : lw_okq (⟨"VcdiffForms", "letOut", "()V"⟩, 13) := ⟨⟨by decide +kernel, by decide +kernel⟩, List.mem_of_getElem? (i := 18) (by decide +kernel), List.mem_of_getElem? (i := 679) (by decide +kernel), List.mem_of_getElem? (i := 680) (by decide +kernel)⟩
theorem lw_p15 : lw_okq (⟨"VcdiffForms$Opener", "lacks", "(J)Z"⟩, 19) := ⟨⟨by decide +kernel, by decide +kernel⟩, List.mem_of_getElem? (i := 258) (by decide +kernel), List.mem_of_getElem? (i := 707) (by decide +kernel), List.mem_of_getElem? (i := 708) (by decide +kernel)⟩
def lw_privs_1 : List (MethodName × Nat) := [(⟨"VcdiffForms$Table", "laySingles", "()I"⟩, 3), (⟨"VcdiffForms$Table", "lay", "(IIIII)V"⟩, 3), (⟨"VcdiffForms$Table", "layPairs", "(I)V"⟩, 3), (⟨"VcdiffForms$Table", "isGoodHalf", "(II)Z"⟩, 3), (⟨"VcdiffForms$Maker", "makeWindow", "(LVcdiffForms$Row;ILVcdiffForms$Row;ILVcdiffForms$Table;LVcdiffForms$Row;)Z"⟩, 7), (⟨"VcdiffForms$Maker", "findMoves", "(I)V"⟩, 7), (⟨"VcdiffForms$Finder", "enterUpTo", "(I)V"⟩, 6), (⟨"VcdiffForms$Finder", "chainOf", "(I)I"⟩, 6), (⟨"VcdiffForms$Finder", "sameLength", "(II)I"⟩, 6), (⟨"VcdiffForms$Maker", "tellAddress", "(II)I"⟩, 7), (⟨"VcdiffForms$Maker", "tellCodes", "(LVcdiffForms$Table;)Z"⟩, 7), (⟨"VcdiffForms$CodeIndex", "head", "(I)I"⟩, 2), (⟨"VcdiffForms$Maker", "tellSizes", "(LVcdiffForms$Row;II)V"⟩, 7), (⟨"VcdiffForms", "tellTable", "()V"⟩, 13), (⟨"VcdiffForms", "letOut", "()V"⟩, 13), (⟨"VcdiffForms$Opener", "lacks", "(J)Z"⟩, 19)]
theorem lw_r1 : ∀ q ∈ lw_privs_1, lw_okq q := List.forall_mem_cons.mpr ⟨lw_p0, List.forall_mem_cons.mpr ⟨lw_p1, List.forall_mem_cons.mpr ⟨lw_p2, List.forall_mem_cons.mpr ⟨lw_p3, List.forall_mem_cons.mpr ⟨lw_p4, List.forall_mem_cons.mpr ⟨lw_p5, List.forall_mem_cons.mpr ⟨lw_p6, List.forall_mem_cons.mpr ⟨lw_p7, List.forall_mem_cons.mpr ⟨lw_p8, List.forall_mem_cons.mpr ⟨lw_p9, List.forall_mem_cons.mpr ⟨lw_p10, List.forall_mem_cons.mpr ⟨lw_p11, List.forall_mem_cons.mpr ⟨lw_p12, List.forall_mem_cons.mpr ⟨lw_p13, List.forall_mem_cons.mpr ⟨lw_p14, List.forall_mem_cons.mpr ⟨lw_p15, fun _ h => absurd h List.not_mem_nil⟩⟩⟩⟩⟩⟩⟩⟩⟩⟩⟩⟩⟩⟩⟩⟩
theorem lw_p16 : lw_okq (⟨"VcdiffForms$Opener", "fail", "(II)Z"⟩, 19) := ⟨⟨by decide +kernel, by decide +kernel⟩, List.mem_of_getElem? (i := 258) (by decide +kernel), List.mem_of_getElem? (i := 715) (by decide +kernel), List.mem_of_getElem? (i := 716) (by decide +kernel)⟩
theorem lw_p17 : lw_okq (⟨"VcdiffForms$Opener", "readTableHead", "()V"⟩, 19) := ⟨⟨by decide +kernel, by decide +kernel⟩, List.mem_of_getElem? (i := 258) (by decide +kernel), List.mem_of_getElem? (i := 726) (by decide +kernel), List.mem_of_getElem? (i := 727) (by decide +kernel)⟩
theorem lw_p18 : lw_okq (⟨"VcdiffForms$Opener", "readBig", "()J"⟩, 19) := ⟨⟨by decide +kernel, by decide +kernel⟩, List.mem_of_getElem? (i := 258) (by decide +kernel), List.mem_of_getElem? (i := 730) (by decide +kernel), List.mem_of_getElem? (i := 731) (by decide +kernel)⟩
theorem lw_p19 : lw_okq (⟨"VcdiffForms$Opener", "readSegment", "(I)Z"⟩, 19) := ⟨⟨by decide +kernel, by decide +kernel⟩, List.mem_of_getElem? (i := 258) (by decide +kernel), List.mem_of_getElem? (i := 773) (by decide +kernel), List.mem_of_getElem? (i := 774) (by decide +kernel)⟩
theorem lw_p20 : lw_okq (⟨"VcdiffForms$Opener", "readSizes", "(I)Z"⟩, 19) := ⟨⟨by decide +kernel, by decide +kernel⟩, List.mem_of_getElem? (i := 258) (by decide +kernel), List.mem_of_getElem? (i := 783) (by decide +kernel), List.mem_of_getElem? (i := 784) (by decide +kernel)⟩
theorem lw_p21 : lw_okq (⟨"VcdiffForms$Opener", "readTargetSize", "()Z"⟩, 19) := ⟨⟨by decide +kernel, by decide +kernel⟩, List.mem_of_getElem? (i := 258) (by decide +kernel), List.mem_of_getElem? (i := 787) (by decide +kernel), List.mem_of_getElem? (i := 788) (by decide +kernel)⟩
theorem lw_p22 : lw_okq (⟨"VcdiffForms$Opener", "layParts", "(III)V"⟩, 19) := ⟨⟨by decide +kernel, by decide +kernel⟩, List.mem_of_getElem? (i := 258) (by decide +kernel), List.mem_of_getElem? (i := 791) (by decide +kernel), List.mem_of_getElem? (i := 792) (by decide +kernel)⟩
theorem lw_p23 : lw_okq (⟨"VcdiffForms$Opener", "runWindow", "()V"⟩, 19) := ⟨⟨by decide +kernel, by decide +kernel⟩, List.mem_of_getElem? (i := 258) (by decide +kernel), List.mem_of_getElem? (i := 795) (by decide +kernel), List.mem_of_getElem? (i := 796) (by decide +kernel)⟩
theorem lw_p24 : lw_okq (⟨"VcdiffForms$Opener", "runHalf", "(II)Z"⟩, 19) := ⟨⟨by decide +kernel, by decide +kernel⟩, List.mem_of_getElem? (i := 258) (by decide +kernel), List.mem_of_getElem? (i := 801) (by decide +kernel), List.mem_of_getElem? (i := 802) (by decide +kernel)⟩
theorem lw_p25 : lw_okq (⟨"VcdiffForms$Opener", "runCopy", "(II)Z"⟩, 19) := ⟨⟨by decide +kernel, by decide +kernel⟩, List.mem_of_getElem? (i := 258) (by decide +kernel), List.mem_of_getElem? (i := 809) (by decide +kernel), List.mem_of_getElem? (i := 810) (by decide +kernel)⟩
theorem lw_p26 : lw_okq (⟨"VcdiffForms$Opener", "wantedAddress", "(II)J"⟩, 19) := ⟨⟨by decide +kernel, by decide +kernel⟩, List.mem_of_getElem? (i := 258) (by decide +kernel), List.mem_of_getElem? (i := 818) (by decide +kernel), List.mem_of_getElem? (i := 819) (by decide +kernel)⟩
theorem lw_p27 : lw_okq (⟨"VcdiffForms$Opener", "runAdd", "(I)Z"⟩, 19) := ⟨⟨by decide +kernel, by decide +kernel⟩, List.mem_of_getElem? (i := 258) (by decide +kernel), List.mem_of_getElem? (i := 836) (by decide +kernel), List.mem_of_getElem? (i := 837) (by decide +kernel)⟩
theorem lw_p28 : lw_okq (⟨"VcdiffForms$Opener", "runRun", "(I)Z"⟩, 19) := ⟨⟨by decide +kernel, by decide +kernel⟩, List.mem_of_getElem? (i := 258) (by decide +kernel), List.mem_of_getElem? (i := 840) (by decide +kernel), List.mem_of_getElem? (i := 841) (by decide +kernel)⟩
theorem lw_p29 : lw_okq (⟨"VcdiffForms$Opener", "judgeSum", "()V"⟩, 19) := ⟨⟨by decide +kernel, by decide +kernel⟩, List.mem_of_getElem? (i := 258) (by decide +kernel), List.mem_of_getElem? (i := 844) (by decide +kernel), List.mem_of_getElem? (i := 845) (by decide +kernel)⟩
theorem lw_p30 : lw_okq (⟨"VcdiffFormsModel", "code", "(IIIIIII)I"⟩, 61) := ⟨⟨by decide +kernel, by decide +kernel⟩, List.mem_of_getElem? (i := 904) (by decide +kernel), List.mem_of_getElem? (i := 911) (by decide +kernel), List.mem_of_getElem? (i := 912) (by decide +kernel)⟩
theorem lw_p31 : lw_okq (⟨"VcdiffFormsModel", "takeTable", "(II)V"⟩, 61) := ⟨⟨by decide +kernel, by decide +kernel⟩, List.mem_of_getElem? (i := 904) (by decide +kernel), List.mem_of_getElem? (i := 915) (by decide +kernel), List.mem_of_getElem? (i := 916) (by decide +kernel)⟩
def lw_privs_2 : List (MethodName × Nat) := [(⟨"VcdiffForms$Opener", "fail", "(II)Z"⟩, 19), (⟨"VcdiffForms$Opener", "readTableHead", "()V"⟩, 19), (⟨"VcdiffForms$Opener", "readBig", "()J"⟩, 19), (⟨"VcdiffForms$Opener", "readSegment", "(I)Z"⟩, 19), (⟨"VcdiffForms$Opener", "readSizes", "(I)Z"⟩, 19), (⟨"VcdiffForms$Opener", "readTargetSize", "()Z"⟩, 19), (⟨"VcdiffForms$Opener", "layParts", "(III)V"⟩, 19), (⟨"VcdiffForms$Opener", "runWindow", "()V"⟩, 19), (⟨"VcdiffForms$Opener", "runHalf", "(II)Z"⟩, 19), (⟨"VcdiffForms$Opener", "runCopy", "(II)Z"⟩, 19), (⟨"VcdiffForms$Opener", "wantedAddress", "(II)J"⟩, 19), (⟨"VcdiffForms$Opener", "runAdd", "(I)Z"⟩, 19), (⟨"VcdiffForms$Opener", "runRun", "(I)Z"⟩, 19), (⟨"VcdiffForms$Opener", "judgeSum", "()V"⟩, 19), (⟨"VcdiffFormsModel", "code", "(IIIIIII)I"⟩, 61), (⟨"VcdiffFormsModel", "takeTable", "(II)V"⟩, 61)]
theorem lw_r2 : ∀ q ∈ lw_privs_2, lw_okq q := List.forall_mem_cons.mpr ⟨lw_p16, List.forall_mem_cons.mpr ⟨lw_p17, List.forall_mem_cons.mpr ⟨lw_p18, List.forall_mem_cons.mpr ⟨lw_p19, List.forall_mem_cons.mpr ⟨lw_p20, List.forall_mem_cons.mpr ⟨lw_p21, List.forall_mem_cons.mpr ⟨lw_p22, List.forall_mem_cons.mpr ⟨lw_p23, List.forall_mem_cons.mpr ⟨lw_p24, List.forall_mem_cons.mpr ⟨lw_p25, List.forall_mem_cons.mpr ⟨lw_p26, List.forall_mem_cons.mpr ⟨lw_p27, List.forall_mem_cons.mpr ⟨lw_p28, List.forall_mem_cons.mpr ⟨lw_p29, List.forall_mem_cons.mpr ⟨lw_p30, List.forall_mem_cons.mpr ⟨lw_p31, fun _ h => absurd h List.not_mem_nil⟩⟩⟩⟩⟩⟩⟩⟩⟩⟩⟩⟩⟩⟩⟩⟩
theorem lw_p32 : lw_okq (⟨"VcdiffFormsModel", "asBytes", "(I[B)V"⟩, 61) := ⟨⟨by decide +kernel, by decide +kernel⟩, List.mem_of_getElem? (i := 904) (by decide +kernel), List.mem_of_getElem? (i := 919) (by decide +kernel), List.mem_of_getElem? (i := 920) (by decide +kernel)⟩
theorem lw_p33 : lw_okq (⟨"VcdiffFormsModel", "entryOf", "(III)I"⟩, 61) := ⟨⟨by decide +kernel, by decide +kernel⟩, List.mem_of_getElem? (i := 904) (by decide +kernel), List.mem_of_getElem? (i := 926) (by decide +kernel), List.mem_of_getElem? (i := 927) (by decide +kernel)⟩
theorem lw_p34 : lw_okq (⟨"VcdiffFormsModel", "noCaches", "()V"⟩, 61) := ⟨⟨by decide +kernel, by decide +kernel⟩, List.mem_of_getElem? (i := 904) (by decide +kernel), List.mem_of_getElem? (i := 1169) (by decide +kernel), List.mem_of_getElem? (i := 1170) (by decide +kernel)⟩
theorem lw_p35 : lw_okq (⟨"VcdiffFormsModel", "head", "(I)I"⟩, 61) := ⟨⟨by decide +kernel, by decide +kernel⟩, List.mem_of_getElem? (i := 904) (by decide +kernel), List.mem_of_getElem? (i := 1173) (by decide +kernel), List.mem_of_getElem? (i := 1174) (by decide +kernel)⟩
theorem lw_p36 : lw_okq (⟨"VcdiffFormsModel", "wants", "(J)Z"⟩, 61) := ⟨⟨by decide +kernel, by decide +kernel⟩, List.mem_of_getElem? (i := 904) (by decide +kernel), List.mem_of_getElem? (i := 1178) (by decide +kernel), List.mem_of_getElem? (i := 1179) (by decide +kernel)⟩
theorem lw_p37 : lw_okq (⟨"VcdiffFormsModel", "fails", "(II)Z"⟩, 61) := ⟨⟨by decide +kernel, by decide +kernel⟩, List.mem_of_getElem? (i := 904) (by decide +kernel), List.mem_of_getElem? (i := 1182) (by decide +kernel), List.mem_of_getElem? (i := 1183) (by decide +kernel)⟩
theorem lw_p38 : lw_okq (⟨"VcdiffFormsModel", "givenTable", "()V"⟩, 61) := ⟨⟨by decide +kernel, by decide +kernel⟩, List.mem_of_getElem? (i := 904) (by decide +kernel), List.mem_of_getElem? (i := 1186) (by decide +kernel), List.mem_of_getElem? (i := 1187) (by decide +kernel)⟩
theorem lw_p39 : lw_okq (⟨"VcdiffFormsModel", "headBig", "()J"⟩, 61) := ⟨⟨by decide +kernel, by decide +kernel⟩, List.mem_of_getElem? (i := 904) (by decide +kernel), List.mem_of_getElem? (i := 1190) (by decide +kernel), List.mem_of_getElem? (i := 1191) (by decide +kernel)⟩
theorem lw_p40 : lw_okq (⟨"VcdiffFormsModel", "big", "(I)J"⟩, 61) := ⟨⟨by decide +kernel, by decide +kernel⟩, List.mem_of_getElem? (i := 904) (by decide +kernel), List.mem_of_getElem? (i := 1194) (by decide +kernel), List.mem_of_getElem? (i := 1195) (by decide +kernel)⟩
theorem lw_p41 : lw_okq (⟨"VcdiffFormsModel", "appendix", "()V"⟩, 61) := ⟨⟨by decide +kernel, by decide +kernel⟩, List.mem_of_getElem? (i := 904) (by decide +kernel), List.mem_of_getElem? (i := 1200) (by decide +kernel), List.mem_of_getElem? (i := 1201) (by decide +kernel)⟩
theorem lw_p42 : lw_okq (⟨"VcdiffFormsModel", "window", "()V"⟩, 61) := ⟨⟨by decide +kernel, by decide +kernel⟩, List.mem_of_getElem? (i := 904) (by decide +kernel), List.mem_of_getElem? (i := 1204) (by decide +kernel), List.mem_of_getElem? (i := 1205) (by decide +kernel)⟩
theorem lw_p43 : lw_okq (⟨"VcdiffFormsModel", "target", "(IIIII)V"⟩, 61) := ⟨⟨by decide +kernel, by decide +kernel⟩, List.mem_of_getElem? (i := 904) (by decide +kernel), List.mem_of_getElem? (i := 1209) (by decide +kernel), List.mem_of_getElem? (i := 1210) (by decide +kernel)⟩
theorem lw_p44 : lw_okq (⟨"VcdiffFormsModel", "act", "(IIIIII)V"⟩, 61) := ⟨⟨by decide +kernel, by decide +kernel⟩, List.mem_of_getElem? (i := 904) (by decide +kernel), List.mem_of_getElem? (i := 1213) (by decide +kernel), List.mem_of_getElem? (i := 1214) (by decide +kernel)⟩
theorem lw_p45 : lw_okq (⟨"VcdiffFormsModel", "addressBy", "(I)J"⟩, 61) := ⟨⟨by decide +kernel, by decide +kernel⟩, List.mem_of_getElem? (i := 904) (by decide +kernel), List.mem_of_getElem? (i := 1217) (by decide +kernel), List.mem_of_getElem? (i := 1218) (by decide +kernel)⟩
theorem lw_p46 : lw_okq (⟨"VcdiffFormsModel", "remember", "(J)V"⟩, 61) := ⟨⟨by decide +kernel, by decide +kernel⟩, List.mem_of_getElem? (i := 904) (by decide +kernel), List.mem_of_getElem? (i := 1222) (by decide +kernel), List.mem_of_getElem? (i := 1223) (by decide +kernel)⟩
theorem lw_p47 : lw_okq (⟨"VcdiffFormsModel", "isGood", "(I)Z"⟩, 61) := ⟨⟨by decide +kernel, by decide +kernel⟩, List.mem_of_getElem? (i := 904) (by decide +kernel), List.mem_of_getElem? (i := 1231) (by decide +kernel), List.mem_of_getElem? (i := 1232) (by decide +kernel)⟩
def lw_privs_3 : List (MethodName × Nat) := [(⟨"VcdiffFormsModel", "asBytes", "(I[B)V"⟩, 61), (⟨"VcdiffFormsModel", "entryOf", "(III)I"⟩, 61), (⟨"VcdiffFormsModel", "noCaches", "()V"⟩, 61), (⟨"VcdiffFormsModel", "head", "(I)I"⟩, 61), (⟨"VcdiffFormsModel", "wants", "(J)Z"⟩, 61), (⟨"VcdiffFormsModel", "fails", "(II)Z"⟩, 61), (⟨"VcdiffFormsModel", "givenTable", "()V"⟩, 61), (⟨"VcdiffFormsModel", "headBig", "()J"⟩, 61), (⟨"VcdiffFormsModel", "big", "(I)J"⟩, 61), (⟨"VcdiffFormsModel", "appendix", "()V"⟩, 61), (⟨"VcdiffFormsModel", "window", "()V"⟩, 61), (⟨"VcdiffFormsModel", "target", "(IIIII)V"⟩, 61), (⟨"VcdiffFormsModel", "act", "(IIIIII)V"⟩, 61), (⟨"VcdiffFormsModel", "addressBy", "(I)J"⟩, 61), (⟨"VcdiffFormsModel", "remember", "(J)V"⟩, 61), (⟨"VcdiffFormsModel", "isGood", "(I)Z"⟩, 61)]
theorem lw_r3 : ∀ q ∈ lw_privs_3, lw_okq q := List.forall_mem_cons.mpr ⟨lw_p32, List.forall_mem_cons.mpr ⟨lw_p33, List.forall_mem_cons.mpr ⟨lw_p34, List.forall_mem_cons.mpr ⟨lw_p35, List.forall_mem_cons.mpr ⟨lw_p36, List.forall_mem_cons.mpr ⟨lw_p37, List.forall_mem_cons.mpr ⟨lw_p38, List.forall_mem_cons.mpr ⟨lw_p39, List.forall_mem_cons.mpr ⟨lw_p40, List.forall_mem_cons.mpr ⟨lw_p41, List.forall_mem_cons.mpr ⟨lw_p42, List.forall_mem_cons.mpr ⟨lw_p43, List.forall_mem_cons.mpr ⟨lw_p44, List.forall_mem_cons.mpr ⟨lw_p45, List.forall_mem_cons.mpr ⟨lw_p46, List.forall_mem_cons.mpr ⟨lw_p47, fun _ h => absurd h List.not_mem_nil⟩⟩⟩⟩⟩⟩⟩⟩⟩⟩⟩⟩⟩⟩⟩⟩
theorem lw_p48 : lw_okq (⟨"VcdiffFormsModel", "sayHead", "(I)V"⟩, 61) := ⟨⟨by decide +kernel, by decide +kernel⟩, List.mem_of_getElem? (i := 904) (by decide +kernel), List.mem_of_getElem? (i := 1259) (by decide +kernel), List.mem_of_getElem? (i := 1260) (by decide +kernel)⟩
theorem lw_p49 : lw_okq (⟨"VcdiffFormsModel", "say", "(I)V"⟩, 61) := ⟨⟨by decide +kernel, by decide +kernel⟩, List.mem_of_getElem? (i := 904) (by decide +kernel), List.mem_of_getElem? (i := 1263) (by decide +kernel), List.mem_of_getElem? (i := 1264) (by decide +kernel)⟩
theorem lw_p50 : lw_okq (⟨"VcdiffFormsModel", "windows", "([BI[BIII)V"⟩, 61) := ⟨⟨by decide +kernel, by decide +kernel⟩, List.mem_of_getElem? (i := 904) (by decide +kernel), List.mem_of_getElem? (i := 1267) (by decide +kernel), List.mem_of_getElem? (i := 1268) (by decide +kernel)⟩
theorem lw_p51 : lw_okq (⟨"VcdiffFormsModel", "findSteps", "(I)V"⟩, 61) := ⟨⟨by decide +kernel, by decide +kernel⟩, List.mem_of_getElem? (i := 904) (by decide +kernel), List.mem_of_getElem? (i := 1271) (by decide +kernel), List.mem_of_getElem? (i := 1272) (by decide +kernel)⟩
theorem lw_p52 : lw_okq (⟨"VcdiffFormsModel", "step", "(III)V"⟩, 61) := ⟨⟨by decide +kernel, by decide +kernel⟩, List.mem_of_getElem? (i := 904) (by decide +kernel), List.mem_of_getElem? (i := 1275) (by decide +kernel), List.mem_of_getElem? (i := 1276) (by decide +kernel)⟩
theorem lw_p53 : lw_okq (⟨"VcdiffFormsModel", "findModes", "(I)V"⟩, 61) := ⟨⟨by decide +kernel, by decide +kernel⟩, List.mem_of_getElem? (i := 904) (by decide +kernel), List.mem_of_getElem? (i := 1279) (by decide +kernel), List.mem_of_getElem? (i := 1280) (by decide +kernel)⟩
theorem lw_p54 : lw_okq (⟨"VcdiffFormsModel", "addAddress", "(I)V"⟩, 61) := ⟨⟨by decide +kernel, by decide +kernel⟩, List.mem_of_getElem? (i := 904) (by decide +kernel), List.mem_of_getElem? (i := 1286) (by decide +kernel), List.mem_of_getElem? (i := 1287) (by decide +kernel)⟩
theorem lw_p55 : lw_okq (⟨"VcdiffFormsModel", "sayParts", "(I)V"⟩, 61) := ⟨⟨by decide +kernel, by decide +kernel⟩, List.mem_of_getElem? (i := 904) (by decide +kernel), List.mem_of_getElem? (i := 1290) (by decide +kernel), List.mem_of_getElem? (i := 1291) (by decide +kernel)⟩
theorem lw_p56 : lw_okq (⟨"VcdiffFormsModel", "isFirst", "(IIII)Z"⟩, 61) := ⟨⟨by decide +kernel, by decide +kernel⟩, List.mem_of_getElem? (i := 904) (by decide +kernel), List.mem_of_getElem? (i := 1294) (by decide +kernel), List.mem_of_getElem? (i := 1295) (by decide +kernel)⟩
theorem lw_p57 : lw_okq (⟨"VcdiffFormsModel", "addCode", "(I)V"⟩, 61) := ⟨⟨by decide +kernel, by decide +kernel⟩, List.mem_of_getElem? (i := 904) (by decide +kernel), List.mem_of_getElem? (i := 1298) (by decide +kernel), List.mem_of_getElem? (i := 1299) (by decide +kernel)⟩
theorem lw_p58 : lw_okq (⟨"VcdiffFormsModel", "sayBig", "(J)V"⟩, 61) := ⟨⟨by decide +kernel, by decide +kernel⟩, List.mem_of_getElem? (i := 904) (by decide +kernel), List.mem_of_getElem? (i := 1302) (by decide +kernel), List.mem_of_getElem? (i := 1303) (by decide +kernel)⟩
def lw_privs_4 : List (MethodName × Nat) := [(⟨"VcdiffFormsModel", "sayHead", "(I)V"⟩, 61), (⟨"VcdiffFormsModel", "say", "(I)V"⟩, 61), (⟨"VcdiffFormsModel", "windows", "([BI[BIII)V"⟩, 61), (⟨"VcdiffFormsModel", "findSteps", "(I)V"⟩, 61), (⟨"VcdiffFormsModel", "step", "(III)V"⟩, 61), (⟨"VcdiffFormsModel", "findModes", "(I)V"⟩, 61), (⟨"VcdiffFormsModel", "addAddress", "(I)V"⟩, 61), (⟨"VcdiffFormsModel", "sayParts", "(I)V"⟩, 61), (⟨"VcdiffFormsModel", "isFirst", "(IIII)Z"⟩, 61), (⟨"VcdiffFormsModel", "addCode", "(I)V"⟩, 61), (⟨"VcdiffFormsModel", "sayBig", "(J)V"⟩, 61)]
theorem lw_r4 : ∀ q ∈ lw_privs_4, lw_okq q := List.forall_mem_cons.mpr ⟨lw_p48, List.forall_mem_cons.mpr ⟨lw_p49, List.forall_mem_cons.mpr ⟨lw_p50, List.forall_mem_cons.mpr ⟨lw_p51, List.forall_mem_cons.mpr ⟨lw_p52, List.forall_mem_cons.mpr ⟨lw_p53, List.forall_mem_cons.mpr ⟨lw_p54, List.forall_mem_cons.mpr ⟨lw_p55, List.forall_mem_cons.mpr ⟨lw_p56, List.forall_mem_cons.mpr ⟨lw_p57, List.forall_mem_cons.mpr ⟨lw_p58, fun _ h => absurd h List.not_mem_nil⟩⟩⟩⟩⟩⟩⟩⟩⟩⟩⟩
def lw_privs : List (MethodName × Nat) := lw_privs_1 ++ (lw_privs_2 ++ (lw_privs_3 ++ (lw_privs_4)))
def lw_tbl : List Cond := k2_sels lw_privs ++ tables_1
theorem lw_privs_ok : ∀ q ∈ lw_privs, lw_okq q := by
  show ∀ q ∈ lw_privs_1 ++ (lw_privs_2 ++ (lw_privs_3 ++ (lw_privs_4))), lw_okq q
  exact List.forall_mem_append.mpr ⟨lw_r1, List.forall_mem_append.mpr ⟨lw_r2, List.forall_mem_append.mpr ⟨lw_r3, lw_r4⟩⟩⟩
def RX0 : String := "VcdiffForms$Caches"
def TX0 : u_T := fun k => match k with
  | 0 => ("VcdiffForms$Caches", "near", "[I", true)
  | 1 => ("VcdiffForms$Caches", "same", "[I", true)
  | 2 => ("VcdiffForms$Caches", "nearCount", "I", false)
  | 3 => ("VcdiffForms$Caches", "sameCount", "I", false)
  | _ => ("VcdiffForms$Caches", "next", "I", false)
def tyX0 : Nat → FieldType := fun k => match k with
  | 0 => .array .int
  | 1 => .array .int
  | 2 => .int
  | 3 => .int
  | _ => .int
theorem nmX0 : ∀ a, a < 5 → ∀ b, b < 5 → a ≠ b → (TX0 a).2.1 ≠ (TX0 b).2.1 := by decide +kernel
theorem tyX0_ok : ∀ k, k < 5 → parseFieldDescriptor (TX0 k).2.2.1 = some (tyX0 k) := by decide +kernel
abbrev cX0_init : ByteArray := prog_2_method_1_code
def yX0_init : MethodName := ⟨RX0, "<init>", "(II)V"⟩
abbrev cX0_fit : ByteArray := prog_2_method_2_code
def yX0_fit : MethodName := ⟨RX0, "fit", "(II)V"⟩
abbrev cX0_wipe : ByteArray := prog_2_method_3_code
def yX0_wipe : MethodName := ⟨RX0, "wipe", "()V"⟩
abbrev cX0_nearAt : ByteArray := prog_2_method_4_code
def yX0_nearAt : MethodName := ⟨RX0, "nearAt", "(I)I"⟩
abbrev cX0_sameAt : ByteArray := prog_2_method_5_code
def yX0_sameAt : MethodName := ⟨RX0, "sameAt", "(I)I"⟩
abbrev cX0_keep : ByteArray := prog_2_method_6_code
def yX0_keep : MethodName := ⟨RX0, "keep", "(I)V"⟩
def RX1 : String := "VcdiffForms$CodeIndex"
def TX1 : u_T := fun k => match k with
  | 0 => ("VcdiffForms$CodeIndex", "heads", "[I", true)
  | _ => ("VcdiffForms$CodeIndex", "links", "[I", true)
def tyX1 : Nat → FieldType := fun k => match k with
  | 0 => .array .int
  | _ => .array .int
theorem nmX1 : ∀ a, a < 2 → ∀ b, b < 2 → a ≠ b → (TX1 a).2.1 ≠ (TX1 b).2.1 := by decide +kernel
theorem tyX1_ok : ∀ k, k < 2 → parseFieldDescriptor (TX1 k).2.2.1 = some (tyX1 k) := by decide +kernel
abbrev cX1_init : ByteArray := prog_3_method_1_code
def yX1_init : MethodName := ⟨RX1, "<init>", "()V"⟩
abbrev cX1_lay : ByteArray := prog_3_method_2_code
def yX1_lay : MethodName := ⟨RX1, "lay", "(LVcdiffForms$Table;)V"⟩
abbrev cX1_head : ByteArray := prog_3_method_3_code
def yX1_head : MethodName := ⟨RX1, "head", "(I)I"⟩
abbrev cX1_pairCode : ByteArray := prog_3_method_4_code
def yX1_pairCode : MethodName := ⟨RX1, "pairCode", "(LVcdiffForms$Table;LVcdiffForms$Moves;I)I"⟩
abbrev cX1_singleCode : ByteArray := prog_3_method_5_code
def yX1_singleCode : MethodName := ⟨RX1, "singleCode", "(LVcdiffForms$Table;LVcdiffForms$Moves;II)I"⟩
def RX2 : String := "VcdiffForms$Cursor"
def TX2 : u_T := fun k => match k with
  | 0 => ("VcdiffForms$Cursor", "bytes", "LVcdiffForms$Row;", false)
  | 1 => ("VcdiffForms$Cursor", "at", "I", false)
  | _ => ("VcdiffForms$Cursor", "end", "I", false)
def tyX2 : Nat → FieldType := fun k => match k with
  | 0 => .object "VcdiffForms$Row"
  | 1 => .int
  | _ => .int
theorem nmX2 : ∀ a, a < 3 → ∀ b, b < 3 → a ≠ b → (TX2 a).2.1 ≠ (TX2 b).2.1 := by decide +kernel
theorem tyX2_ok : ∀ k, k < 3 → parseFieldDescriptor (TX2 k).2.2.1 = some (tyX2 k) := by decide +kernel
abbrev cX2_init : ByteArray := prog_4_method_1_code
def yX2_init : MethodName := ⟨RX2, "<init>", "()V"⟩
abbrev cX2_lay : ByteArray := prog_4_method_2_code
def yX2_lay : MethodName := ⟨RX2, "lay", "(LVcdiffForms$Row;II)V"⟩
abbrev cX2_left : ByteArray := prog_4_method_3_code
def yX2_left : MethodName := ⟨RX2, "left", "()I"⟩
abbrev cX2_pass : ByteArray := prog_4_method_4_code
def yX2_pass : MethodName := ⟨RX2, "pass", "(I)V"⟩
abbrev cX2_next : ByteArray := prog_4_method_5_code
def yX2_next : MethodName := ⟨RX2, "next", "()I"⟩
abbrev cX2_nextBig : ByteArray := prog_4_method_6_code
def yX2_nextBig : MethodName := ⟨RX2, "nextBig", "()J"⟩
def RX3 : String := "VcdiffForms$Finder"
def TX3 : u_T := fun k => match k with
  | 0 => ("VcdiffForms$Finder", "space", "LVcdiffForms$Row;", true)
  | 1 => ("VcdiffForms$Finder", "heads", "[I", true)
  | 2 => ("VcdiffForms$Finder", "links", "[I", true)
  | 3 => ("VcdiffForms$Finder", "entered", "I", false)
  | 4 => ("VcdiffForms$Finder", "bestPlace", "I", false)
  | _ => ("VcdiffForms$Finder", "bestLength", "I", false)
def tyX3 : Nat → FieldType := fun k => match k with
  | 0 => .object "VcdiffForms$Row"
  | 1 => .array .int
  | 2 => .array .int
  | 3 => .int
  | 4 => .int
  | _ => .int
theorem nmX3 : ∀ a, a < 6 → ∀ b, b < 6 → a ≠ b → (TX3 a).2.1 ≠ (TX3 b).2.1 := by decide +kernel
theorem tyX3_ok : ∀ k, k < 6 → parseFieldDescriptor (TX3 k).2.2.1 = some (tyX3 k) := by decide +kernel
abbrev cX3_init : ByteArray := prog_5_method_1_code
def yX3_init : MethodName := ⟨RX3, "<init>", "()V"⟩
abbrev cX3_lay : ByteArray := prog_5_method_2_code
def yX3_lay : MethodName := ⟨RX3, "lay", "(LVcdiffForms$Row;IILVcdiffForms$Row;II)V"⟩
abbrev cX3_at : ByteArray := prog_5_method_3_code
def yX3_at : MethodName := ⟨RX3, "at", "(I)I"⟩
abbrev cX3_end : ByteArray := prog_5_method_4_code
def yX3_end : MethodName := ⟨RX3, "end", "()I"⟩
abbrev cX3_runLength : ByteArray := prog_5_method_5_code
def yX3_runLength : MethodName := ⟨RX3, "runLength", "(I)I"⟩
abbrev cX3_sameLength : ByteArray := prog_5_method_6_code
def yX3_sameLength : MethodName := ⟨RX3, "sameLength", "(II)I"⟩
abbrev cX3_chainOf : ByteArray := prog_5_method_7_code
def yX3_chainOf : MethodName := ⟨RX3, "chainOf", "(I)I"⟩
abbrev cX3_enterUpTo : ByteArray := prog_5_method_8_code
def yX3_enterUpTo : MethodName := ⟨RX3, "enterUpTo", "(I)V"⟩
abbrev cX3_search : ByteArray := prog_5_method_9_code
def yX3_search : MethodName := ⟨RX3, "search", "(I)V"⟩
def RX4 : String := "VcdiffForms$Log"
def TX4 : u_T := fun k => match k with
  | 0 => ("VcdiffForms$Log", "counts", "[I", true)
  | 1 => ("VcdiffForms$Log", "details", "[I", true)
  | _ => ("VcdiffForms$Log", "noted", "I", false)
def tyX4 : Nat → FieldType := fun k => match k with
  | 0 => .array .int
  | 1 => .array .int
  | _ => .int
theorem nmX4 : ∀ a, a < 3 → ∀ b, b < 3 → a ≠ b → (TX4 a).2.1 ≠ (TX4 b).2.1 := by decide +kernel
theorem tyX4_ok : ∀ k, k < 3 → parseFieldDescriptor (TX4 k).2.2.1 = some (tyX4 k) := by decide +kernel
abbrev cX4_init : ByteArray := prog_6_method_1_code
def yX4_init : MethodName := ⟨RX4, "<init>", "(I)V"⟩
abbrev cX4_clear : ByteArray := prog_6_method_2_code
def yX4_clear : MethodName := ⟨RX4, "clear", "()V"⟩
abbrev cX4_length : ByteArray := prog_6_method_3_code
def yX4_length : MethodName := ⟨RX4, "length", "()I"⟩
abbrev cX4_countOf : ByteArray := prog_6_method_4_code
def yX4_countOf : MethodName := ⟨RX4, "countOf", "(I)I"⟩
abbrev cX4_count : ByteArray := prog_6_method_5_code
def yX4_count : MethodName := ⟨RX4, "count", "(II)V"⟩
abbrev cX4_detail : ByteArray := prog_6_method_6_code
def yX4_detail : MethodName := ⟨RX4, "detail", "(II)I"⟩
abbrev cX4_through : ByteArray := prog_6_method_7_code
def yX4_through : MethodName := ⟨RX4, "through", "(IIII)V"⟩
def RX5 : String := "VcdiffForms$Maker"
def TX5 : u_T := fun k => match k with
  | 0 => ("VcdiffForms$Maker", "finder", "LVcdiffForms$Finder;", true)
  | 1 => ("VcdiffForms$Maker", "moves", "LVcdiffForms$Moves;", true)
  | 2 => ("VcdiffForms$Maker", "index", "LVcdiffForms$CodeIndex;", true)
  | 3 => ("VcdiffForms$Maker", "caches", "LVcdiffForms$Caches;", true)
  | 4 => ("VcdiffForms$Maker", "data", "LVcdiffForms$Row;", true)
  | 5 => ("VcdiffForms$Maker", "codes", "LVcdiffForms$Row;", true)
  | _ => ("VcdiffForms$Maker", "addresses", "LVcdiffForms$Row;", true)
def tyX5 : Nat → FieldType := fun k => match k with
  | 0 => .object "VcdiffForms$Finder"
  | 1 => .object "VcdiffForms$Moves"
  | 2 => .object "VcdiffForms$CodeIndex"
  | 3 => .object "VcdiffForms$Caches"
  | 4 => .object "VcdiffForms$Row"
  | 5 => .object "VcdiffForms$Row"
  | _ => .object "VcdiffForms$Row"
theorem nmX5 : ∀ a, a < 7 → ∀ b, b < 7 → a ≠ b → (TX5 a).2.1 ≠ (TX5 b).2.1 := by decide +kernel
theorem tyX5_ok : ∀ k, k < 7 → parseFieldDescriptor (TX5 k).2.2.1 = some (tyX5 k) := by decide +kernel
abbrev cX5_init : ByteArray := prog_7_method_1_code
def yX5_init : MethodName := ⟨RX5, "<init>", "()V"⟩
abbrev cX5_makeWindows : ByteArray := prog_7_method_2_code
def yX5_makeWindows : MethodName := ⟨RX5, "makeWindows", "(LVcdiffForms$Row;LVcdiffForms$Row;LVcdiffForms$Table;ILVcdiffForms$Row;)Z"⟩
abbrev cX5_makeWindow : ByteArray := prog_7_method_3_code
def yX5_makeWindow : MethodName := ⟨RX5, "makeWindow", "(LVcdiffForms$Row;ILVcdiffForms$Row;ILVcdiffForms$Table;LVcdiffForms$Row;)Z"⟩
abbrev cX5_findMoves : ByteArray := prog_7_method_4_code
def yX5_findMoves : MethodName := ⟨RX5, "findMoves", "(I)V"⟩
abbrev cX5_tellAddress : ByteArray := prog_7_method_5_code
def yX5_tellAddress : MethodName := ⟨RX5, "tellAddress", "(II)I"⟩
abbrev cX5_tellCodes : ByteArray := prog_7_method_6_code
def yX5_tellCodes : MethodName := ⟨RX5, "tellCodes", "(LVcdiffForms$Table;)Z"⟩
abbrev cX5_tellSizes : ByteArray := prog_7_method_7_code
def yX5_tellSizes : MethodName := ⟨RX5, "tellSizes", "(LVcdiffForms$Row;II)V"⟩
def RX6 : String := "VcdiffForms$Moves"
def TX6 : u_T := fun k => match k with
  | 0 => ("VcdiffForms$Moves", "kinds", "[I", true)
  | 1 => ("VcdiffForms$Moves", "sizes", "[I", true)
  | 2 => ("VcdiffForms$Moves", "modes", "[I", true)
  | _ => ("VcdiffForms$Moves", "count", "I", false)
def tyX6 : Nat → FieldType := fun k => match k with
  | 0 => .array .int
  | 1 => .array .int
  | 2 => .array .int
  | _ => .int
theorem nmX6 : ∀ a, a < 4 → ∀ b, b < 4 → a ≠ b → (TX6 a).2.1 ≠ (TX6 b).2.1 := by decide +kernel
theorem tyX6_ok : ∀ k, k < 4 → parseFieldDescriptor (TX6 k).2.2.1 = some (tyX6 k) := by decide +kernel
abbrev cX6_init : ByteArray := prog_8_method_1_code
def yX6_init : MethodName := ⟨RX6, "<init>", "()V"⟩
abbrev cX6_clear : ByteArray := prog_8_method_2_code
def yX6_clear : MethodName := ⟨RX6, "clear", "()V"⟩
abbrev cX6_length : ByteArray := prog_8_method_3_code
def yX6_length : MethodName := ⟨RX6, "length", "()I"⟩
abbrev cX6_push : ByteArray := prog_8_method_4_code
def yX6_push : MethodName := ⟨RX6, "push", "(III)V"⟩
abbrev cX6_pushAdded : ByteArray := prog_8_method_5_code
def yX6_pushAdded : MethodName := ⟨RX6, "pushAdded", "()V"⟩
abbrev cX6_sizeOf : ByteArray := prog_8_method_6_code
def yX6_sizeOf : MethodName := ⟨RX6, "sizeOf", "(I)I"⟩
abbrev cX6_isHalf : ByteArray := prog_8_method_7_code
def yX6_isHalf : MethodName := ⟨RX6, "isHalf", "(ILVcdiffForms$Table;III)Z"⟩
def RX7 : String := "VcdiffForms$Opener"
def TX7 : u_T := fun k => match k with
  | 0 => ("VcdiffForms$Opener", "table", "LVcdiffForms$Table;", true)
  | 1 => ("VcdiffForms$Opener", "caches", "LVcdiffForms$Caches;", true)
  | 2 => ("VcdiffForms$Opener", "log", "LVcdiffForms$Log;", true)
  | 3 => ("VcdiffForms$Opener", "headMost", "I", true)
  | 4 => ("VcdiffForms$Opener", "file", "LVcdiffForms$Cursor;", true)
  | 5 => ("VcdiffForms$Opener", "data", "LVcdiffForms$Cursor;", true)
  | 6 => ("VcdiffForms$Opener", "codes", "LVcdiffForms$Cursor;", true)
  | 7 => ("VcdiffForms$Opener", "addresses", "LVcdiffForms$Cursor;", true)
  | 8 => ("VcdiffForms$Opener", "sum", "LVcdiffForms$Cursor;", true)
  | 9 => ("VcdiffForms$Opener", "space", "LVcdiffForms$Space;", true)
  | 10 => ("VcdiffForms$Opener", "old", "LVcdiffForms$Row;", false)
  | 11 => ("VcdiffForms$Opener", "came", "LVcdiffForms$Row;", false)
  | 12 => ("VcdiffForms$Opener", "fault", "I", false)
  | 13 => ("VcdiffForms$Opener", "place", "I", false)
  | 14 => ("VcdiffForms$Opener", "headMarks", "I", false)
  | 15 => ("VcdiffForms$Opener", "tablePlace", "I", false)
  | 16 => ("VcdiffForms$Opener", "tableSize", "I", false)
  | 17 => ("VcdiffForms$Opener", "targetSize", "I", false)
  | _ => ("VcdiffForms$Opener", "codePlace", "I", false)
def tyX7 : Nat → FieldType := fun k => match k with
  | 0 => .object "VcdiffForms$Table"
  | 1 => .object "VcdiffForms$Caches"
  | 2 => .object "VcdiffForms$Log"
  | 3 => .int
  | 4 => .object "VcdiffForms$Cursor"
  | 5 => .object "VcdiffForms$Cursor"
  | 6 => .object "VcdiffForms$Cursor"
  | 7 => .object "VcdiffForms$Cursor"
  | 8 => .object "VcdiffForms$Cursor"
  | 9 => .object "VcdiffForms$Space"
  | 10 => .object "VcdiffForms$Row"
  | 11 => .object "VcdiffForms$Row"
  | 12 => .int
  | 13 => .int
  | 14 => .int
  | 15 => .int
  | 16 => .int
  | 17 => .int
  | _ => .int
theorem nmX7 : ∀ a, a < 19 → ∀ b, b < 19 → a ≠ b → (TX7 a).2.1 ≠ (TX7 b).2.1 := by decide +kernel
theorem tyX7_ok : ∀ k, k < 19 → parseFieldDescriptor (TX7 k).2.2.1 = some (tyX7 k) := by decide +kernel
abbrev cX7_init : ByteArray := prog_9_method_1_code
def yX7_init : MethodName := ⟨RX7, "<init>", "(LVcdiffForms$Table;LVcdiffForms$Caches;LVcdiffForms$Log;I)V"⟩
abbrev cX7_begin : ByteArray := prog_9_method_2_code
def yX7_begin : MethodName := ⟨RX7, "begin", "(LVcdiffForms$Row;IILVcdiffForms$Row;LVcdiffForms$Row;)V"⟩
abbrev cX7_faultFound : ByteArray := prog_9_method_3_code
def yX7_faultFound : MethodName := ⟨RX7, "faultFound", "()I"⟩
abbrev cX7_faultPlace : ByteArray := prog_9_method_4_code
def yX7_faultPlace : MethodName := ⟨RX7, "faultPlace", "()I"⟩
abbrev cX7_reached : ByteArray := prog_9_method_5_code
def yX7_reached : MethodName := ⟨RX7, "reached", "()I"⟩
abbrev cX7_tableEnd : ByteArray := prog_9_method_6_code
def yX7_tableEnd : MethodName := ⟨RX7, "tableEnd", "()I"⟩
abbrev cX7_fail : ByteArray := prog_9_method_7_code
def yX7_fail : MethodName := ⟨RX7, "fail", "(II)Z"⟩
abbrev cX7_lacks : ByteArray := prog_9_method_8_code
def yX7_lacks : MethodName := ⟨RX7, "lacks", "(J)Z"⟩
abbrev cX7_readBig : ByteArray := prog_9_method_9_code
def yX7_readBig : MethodName := ⟨RX7, "readBig", "()J"⟩
abbrev cX7_readHead : ByteArray := prog_9_method_10_code
def yX7_readHead : MethodName := ⟨RX7, "readHead", "()V"⟩
abbrev cX7_readTableHead : ByteArray := prog_9_method_11_code
def yX7_readTableHead : MethodName := ⟨RX7, "readTableHead", "()V"⟩
abbrev cX7_wantsTable : ByteArray := prog_9_method_12_code
def yX7_wantsTable : MethodName := ⟨RX7, "wantsTable", "()Z"⟩
abbrev cX7_takeTable : ByteArray := prog_9_method_13_code
def yX7_takeTable : MethodName := ⟨RX7, "takeTable", "(Z)V"⟩
abbrev cX7_readAppendix : ByteArray := prog_9_method_14_code
def yX7_readAppendix : MethodName := ⟨RX7, "readAppendix", "()V"⟩
abbrev cX7_readWindows : ByteArray := prog_9_method_15_code
def yX7_readWindows : MethodName := ⟨RX7, "readWindows", "()V"⟩
abbrev cX7_readSegment : ByteArray := prog_9_method_16_code
def yX7_readSegment : MethodName := ⟨RX7, "readSegment", "(I)Z"⟩
abbrev cX7_readSizes : ByteArray := prog_9_method_17_code
def yX7_readSizes : MethodName := ⟨RX7, "readSizes", "(I)Z"⟩
abbrev cX7_readTargetSize : ByteArray := prog_9_method_18_code
def yX7_readTargetSize : MethodName := ⟨RX7, "readTargetSize", "()Z"⟩
abbrev cX7_layParts : ByteArray := prog_9_method_19_code
def yX7_layParts : MethodName := ⟨RX7, "layParts", "(III)V"⟩
abbrev cX7_runWindow : ByteArray := prog_9_method_20_code
def yX7_runWindow : MethodName := ⟨RX7, "runWindow", "()V"⟩
abbrev cX7_judgeSum : ByteArray := prog_9_method_21_code
def yX7_judgeSum : MethodName := ⟨RX7, "judgeSum", "()V"⟩
abbrev cX7_runHalf : ByteArray := prog_9_method_22_code
def yX7_runHalf : MethodName := ⟨RX7, "runHalf", "(II)Z"⟩
abbrev cX7_runAdd : ByteArray := prog_9_method_23_code
def yX7_runAdd : MethodName := ⟨RX7, "runAdd", "(I)Z"⟩
abbrev cX7_runRun : ByteArray := prog_9_method_24_code
def yX7_runRun : MethodName := ⟨RX7, "runRun", "(I)Z"⟩
abbrev cX7_runCopy : ByteArray := prog_9_method_25_code
def yX7_runCopy : MethodName := ⟨RX7, "runCopy", "(II)Z"⟩
abbrev cX7_wantedAddress : ByteArray := prog_9_method_26_code
def yX7_wantedAddress : MethodName := ⟨RX7, "wantedAddress", "(II)J"⟩
def RX8 : String := "VcdiffForms$Row"
def TX8 : u_T := fun k => match k with
  | 0 => ("VcdiffForms$Row", "cells", "[B", true)
  | 1 => ("VcdiffForms$Row", "count", "I", false)
  | _ => ("VcdiffForms$Row", "lost", "Z", false)
def tyX8 : Nat → FieldType := fun k => match k with
  | 0 => .array .byte
  | 1 => .int
  | _ => .boolean
theorem nmX8 : ∀ a, a < 3 → ∀ b, b < 3 → a ≠ b → (TX8 a).2.1 ≠ (TX8 b).2.1 := by decide +kernel
theorem tyX8_ok : ∀ k, k < 3 → parseFieldDescriptor (TX8 k).2.2.1 = some (tyX8 k) := by decide +kernel
abbrev cX8_init : ByteArray := prog_10_method_1_code
def yX8_init : MethodName := ⟨RX8, "<init>", "(I)V"⟩
abbrev cX8_length : ByteArray := prog_10_method_2_code
def yX8_length : MethodName := ⟨RX8, "length", "()I"⟩
abbrev cX8_room : ByteArray := prog_10_method_3_code
def yX8_room : MethodName := ⟨RX8, "room", "()I"⟩
abbrev cX8_hasLost : ByteArray := prog_10_method_4_code
def yX8_hasLost : MethodName := ⟨RX8, "hasLost", "()Z"⟩
abbrev cX8_at : ByteArray := prog_10_method_5_code
def yX8_at : MethodName := ⟨RX8, "at", "(I)I"⟩
abbrev cX8_put : ByteArray := prog_10_method_6_code
def yX8_put : MethodName := ⟨RX8, "put", "(II)V"⟩
abbrev cX8_clear : ByteArray := prog_10_method_7_code
def yX8_clear : MethodName := ⟨RX8, "clear", "()V"⟩
abbrev cX8_shorten : ByteArray := prog_10_method_8_code
def yX8_shorten : MethodName := ⟨RX8, "shorten", "(I)V"⟩
abbrev cX8_push : ByteArray := prog_10_method_9_code
def yX8_push : MethodName := ⟨RX8, "push", "(I)V"⟩
abbrev cX8_pushLowest : ByteArray := prog_10_method_10_code
def yX8_pushLowest : MethodName := ⟨RX8, "pushLowest", "(JI)V"⟩
abbrev cX8_pushBig : ByteArray := prog_10_method_11_code
def yX8_pushBig : MethodName := ⟨RX8, "pushBig", "(J)V"⟩
abbrev cX8_append : ByteArray := prog_10_method_12_code
def yX8_append : MethodName := ⟨RX8, "append", "(LVcdiffForms$Row;II)V"⟩
abbrev cX8_sum : ByteArray := prog_10_method_13_code
def yX8_sum : MethodName := ⟨RX8, "sum", "(II)J"⟩
def RX9 : String := "VcdiffForms$Space"
def TX9 : u_T := fun k => match k with
  | 0 => ("VcdiffForms$Space", "segment", "LVcdiffForms$Row;", false)
  | 1 => ("VcdiffForms$Space", "segmentPlace", "I", false)
  | 2 => ("VcdiffForms$Space", "segmentSize", "I", false)
  | 3 => ("VcdiffForms$Space", "came", "LVcdiffForms$Row;", false)
  | _ => ("VcdiffForms$Space", "targetBegin", "I", false)
def tyX9 : Nat → FieldType := fun k => match k with
  | 0 => .object "VcdiffForms$Row"
  | 1 => .int
  | 2 => .int
  | 3 => .object "VcdiffForms$Row"
  | _ => .int
theorem nmX9 : ∀ a, a < 5 → ∀ b, b < 5 → a ≠ b → (TX9 a).2.1 ≠ (TX9 b).2.1 := by decide +kernel
theorem tyX9_ok : ∀ k, k < 5 → parseFieldDescriptor (TX9 k).2.2.1 = some (tyX9 k) := by decide +kernel
abbrev cX9_init : ByteArray := prog_11_method_1_code
def yX9_init : MethodName := ⟨RX9, "<init>", "()V"⟩
abbrev cX9_lay : ByteArray := prog_11_method_2_code
def yX9_lay : MethodName := ⟨RX9, "lay", "(LVcdiffForms$Row;IILVcdiffForms$Row;)V"⟩
abbrev cX9_targetLength : ByteArray := prog_11_method_3_code
def yX9_targetLength : MethodName := ⟨RX9, "targetLength", "()I"⟩
abbrev cX9_here : ByteArray := prog_11_method_4_code
def yX9_here : MethodName := ⟨RX9, "here", "()I"⟩
abbrev cX9_at : ByteArray := prog_11_method_5_code
def yX9_at : MethodName := ⟨RX9, "at", "(I)I"⟩
abbrev cX9_sum : ByteArray := prog_11_method_6_code
def yX9_sum : MethodName := ⟨RX9, "sum", "()J"⟩
def RX10 : String := "VcdiffForms$Table"
def TX10 : u_T := fun k => match k with
  | 0 => ("VcdiffForms$Table", "bytes", "LVcdiffForms$Row;", true)
  | 1 => ("VcdiffForms$Table", "near", "I", false)
  | _ => ("VcdiffForms$Table", "same", "I", false)
def tyX10 : Nat → FieldType := fun k => match k with
  | 0 => .object "VcdiffForms$Row"
  | 1 => .int
  | _ => .int
theorem nmX10 : ∀ a, a < 3 → ∀ b, b < 3 → a ≠ b → (TX10 a).2.1 ≠ (TX10 b).2.1 := by decide +kernel
theorem tyX10_ok : ∀ k, k < 3 → parseFieldDescriptor (TX10 k).2.2.1 = some (tyX10 k) := by decide +kernel
abbrev cX10_init : ByteArray := prog_12_method_1_code
def yX10_init : MethodName := ⟨RX10, "<init>", "()V"⟩
abbrev cX10_cell : ByteArray := prog_12_method_2_code
def yX10_cell : MethodName := ⟨RX10, "cell", "(II)I"⟩
abbrev cX10_get : ByteArray := prog_12_method_3_code
def yX10_get : MethodName := ⟨RX10, "get", "(II)I"⟩
abbrev cX10_put : ByteArray := prog_12_method_4_code
def yX10_put : MethodName := ⟨RX10, "put", "(III)V"⟩
abbrev cX10_become : ByteArray := prog_12_method_5_code
def yX10_become : MethodName := ⟨RX10, "become", "(LVcdiffForms$Row;II)V"⟩
abbrev cX10_becomeUsual : ByteArray := prog_12_method_6_code
def yX10_becomeUsual : MethodName := ⟨RX10, "becomeUsual", "()V"⟩
abbrev cX10_lay : ByteArray := prog_12_method_7_code
def yX10_lay : MethodName := ⟨RX10, "lay", "(IIIII)V"⟩
abbrev cX10_laySingles : ByteArray := prog_12_method_8_code
def yX10_laySingles : MethodName := ⟨RX10, "laySingles", "()I"⟩
abbrev cX10_layPairs : ByteArray := prog_12_method_9_code
def yX10_layPairs : MethodName := ⟨RX10, "layPairs", "(I)V"⟩
abbrev cX10_isGood : ByteArray := prog_12_method_10_code
def yX10_isGood : MethodName := ⟨RX10, "isGood", "()Z"⟩
abbrev cX10_isGoodHalf : ByteArray := prog_12_method_11_code
def yX10_isGoodHalf : MethodName := ⟨RX10, "isGoodHalf", "(II)Z"⟩
def RX11 : String := "VcdiffForms"
def TX11 : u_T := fun k => match k with
  | 0 => ("VcdiffForms", "row", "LVcdiffForms$Row;", false)
  | 1 => ("VcdiffForms", "came", "LVcdiffForms$Row;", false)
  | 2 => ("VcdiffForms", "spare", "LVcdiffForms$Row;", false)
  | 3 => ("VcdiffForms", "oldBytes", "LVcdiffForms$Row;", true)
  | 4 => ("VcdiffForms", "tableFile", "LVcdiffForms$Row;", true)
  | 5 => ("VcdiffForms", "usual", "LVcdiffForms$Table;", true)
  | 6 => ("VcdiffForms", "givenTable", "LVcdiffForms$Table;", true)
  | 7 => ("VcdiffForms", "openTable", "LVcdiffForms$Table;", true)
  | 8 => ("VcdiffForms", "log", "LVcdiffForms$Log;", true)
  | 9 => ("VcdiffForms", "openCaches", "LVcdiffForms$Caches;", true)
  | 10 => ("VcdiffForms", "opener", "LVcdiffForms$Opener;", true)
  | 11 => ("VcdiffForms", "tableOpener", "LVcdiffForms$Opener;", true)
  | _ => ("VcdiffForms", "maker", "LVcdiffForms$Maker;", true)
def tyX11 : Nat → FieldType := fun k => match k with
  | 0 => .object "VcdiffForms$Row"
  | 1 => .object "VcdiffForms$Row"
  | 2 => .object "VcdiffForms$Row"
  | 3 => .object "VcdiffForms$Row"
  | 4 => .object "VcdiffForms$Row"
  | 5 => .object "VcdiffForms$Table"
  | 6 => .object "VcdiffForms$Table"
  | 7 => .object "VcdiffForms$Table"
  | 8 => .object "VcdiffForms$Log"
  | 9 => .object "VcdiffForms$Caches"
  | 10 => .object "VcdiffForms$Opener"
  | 11 => .object "VcdiffForms$Opener"
  | _ => .object "VcdiffForms$Maker"
theorem nmX11 : ∀ a, a < 13 → ∀ b, b < 13 → a ≠ b → (TX11 a).2.1 ≠ (TX11 b).2.1 := by decide +kernel
theorem tyX11_ok : ∀ k, k < 13 → parseFieldDescriptor (TX11 k).2.2.1 = some (tyX11 k) := by decide +kernel
abbrev cX11_init : ByteArray := prog_1_method_1_code
def yX11_init : MethodName := ⟨RX11, "<init>", "()V"⟩
abbrev cX11_feed : ByteArray := prog_1_method_2_code
def yX11_feed : MethodName := ⟨RX11, "feed", "(JI)I"⟩
abbrev cX11_fill : ByteArray := prog_1_method_3_code
def yX11_fill : MethodName := ⟨RX11, "fill", "(III)I"⟩
abbrev cX11_again : ByteArray := prog_1_method_4_code
def yX11_again : MethodName := ⟨RX11, "again", "(II)I"⟩
abbrev cX11_size : ByteArray := prog_1_method_5_code
def yX11_size : MethodName := ⟨RX11, "size", "()I"⟩
abbrev cX11_set : ByteArray := prog_1_method_6_code
def yX11_set : MethodName := ⟨RX11, "set", "(II)I"⟩
abbrev cX11_cut : ByteArray := prog_1_method_7_code
def yX11_cut : MethodName := ⟨RX11, "cut", "(I)I"⟩
abbrev cX11_swap : ByteArray := prog_1_method_8_code
def yX11_swap : MethodName := ⟨RX11, "swap", "()I"⟩
abbrev cX11_differ : ByteArray := prog_1_method_9_code
def yX11_differ : MethodName := ⟨RX11, "differ", "()I"⟩
abbrev cX11_out : ByteArray := prog_1_method_10_code
def yX11_out : MethodName := ⟨RX11, "out", "(I)I"⟩
abbrev cX11_old : ByteArray := prog_1_method_11_code
def yX11_old : MethodName := ⟨RX11, "old", "()I"⟩
abbrev cX11_given : ByteArray := prog_1_method_12_code
def yX11_given : MethodName := ⟨RX11, "given", "(II)I"⟩
abbrev cX11_entry : ByteArray := prog_1_method_13_code
def yX11_entry : MethodName := ⟨RX11, "entry", "(III)I"⟩
abbrev cX11_make : ByteArray := prog_1_method_14_code
def yX11_make : MethodName := ⟨RX11, "make", "(I)I"⟩
abbrev cX11_open : ByteArray := prog_1_method_15_code
def yX11_open : MethodName := ⟨RX11, "open", "()I"⟩
abbrev cX11_place : ByteArray := prog_1_method_16_code
def yX11_place : MethodName := ⟨RX11, "place", "()I"⟩
abbrev cX11_told : ByteArray := prog_1_method_17_code
def yX11_told : MethodName := ⟨RX11, "told", "(I)I"⟩
abbrev cX11_instruction : ByteArray := prog_1_method_18_code
def yX11_instruction : MethodName := ⟨RX11, "instruction", "(II)I"⟩
abbrev cX11_table : ByteArray := prog_1_method_19_code
def yX11_table : MethodName := ⟨RX11, "table", "(II)I"⟩
abbrev cX11_cache : ByteArray := prog_1_method_20_code
def yX11_cache : MethodName := ⟨RX11, "cache", "(II)I"⟩
abbrev cX11_isByte : ByteArray := prog_1_method_21_code
def yX11_isByte : MethodName := ⟨RX11, "isByte", "(I)Z"⟩
abbrev cX11_isEntry : ByteArray := prog_1_method_22_code
def yX11_isEntry : MethodName := ⟨RX11, "isEntry", "(II)Z"⟩
abbrev cX11_startFile : ByteArray := prog_1_method_23_code
def yX11_startFile : MethodName := ⟨RX11, "startFile", "(LVcdiffForms$Row;I)V"⟩
abbrev cX11_tellTable : ByteArray := prog_1_method_24_code
def yX11_tellTable : MethodName := ⟨RX11, "tellTable", "()V"⟩
abbrev cX11_letOut : ByteArray := prog_1_method_25_code
def yX11_letOut : MethodName := ⟨RX11, "letOut", "()V"⟩
abbrev cX11_bigLength : ByteArray := prog_1_method_26_code
def yX11_bigLength : MethodName := ⟨RX11, "bigLength", "(J)I"⟩
def RX12 : String := "VcdiffFormsModel"
def TX12 : u_T := fun k => match k with
  | 0 => ("VcdiffFormsModel", "row", "[B", true)
  | 1 => ("VcdiffFormsModel", "size", "I", false)
  | 2 => ("VcdiffFormsModel", "came", "[B", true)
  | 3 => ("VcdiffFormsModel", "cameSize", "I", false)
  | 4 => ("VcdiffFormsModel", "old", "[B", true)
  | 5 => ("VcdiffFormsModel", "oldSize", "I", false)
  | 6 => ("VcdiffFormsModel", "fault", "I", false)
  | 7 => ("VcdiffFormsModel", "faultPlace", "I", false)
  | 8 => ("VcdiffFormsModel", "lastPlace", "I", false)
  | 9 => ("VcdiffFormsModel", "entries", "[I", true)
  | 10 => ("VcdiffFormsModel", "nears", "[I", true)
  | 11 => ("VcdiffFormsModel", "sames", "[I", true)
  | 12 => ("VcdiffFormsModel", "usual", "[B", true)
  | 13 => ("VcdiffFormsModel", "src", "[B", false)
  | 14 => ("VcdiffFormsModel", "at", "I", false)
  | 15 => ("VcdiffFormsModel", "end", "I", false)
  | 16 => ("VcdiffFormsModel", "base", "[B", false)
  | 17 => ("VcdiffFormsModel", "baseSize", "I", false)
  | 18 => ("VcdiffFormsModel", "tableOf", "I", false)
  | 19 => ("VcdiffFormsModel", "isOwn", "Z", false)
  | 20 => ("VcdiffFormsModel", "made", "[B", true)
  | 21 => ("VcdiffFormsModel", "tableMade", "[B", true)
  | 22 => ("VcdiffFormsModel", "to", "[B", false)
  | 23 => ("VcdiffFormsModel", "toSize", "I", false)
  | 24 => ("VcdiffFormsModel", "space", "[B", true)
  | 25 => ("VcdiffFormsModel", "segment", "I", false)
  | 26 => ("VcdiffFormsModel", "here", "I", false)
  | 27 => ("VcdiffFormsModel", "near", "[J", true)
  | 28 => ("VcdiffFormsModel", "same", "[J", true)
  | 29 => ("VcdiffFormsModel", "nextNear", "I", false)
  | 30 => ("VcdiffFormsModel", "tells", "[I", true)
  | 31 => ("VcdiffFormsModel", "acts", "I", false)
  | 32 => ("VcdiffFormsModel", "actKind", "[I", true)
  | 33 => ("VcdiffFormsModel", "actSize", "[I", true)
  | 34 => ("VcdiffFormsModel", "actAddress", "[I", true)
  | 35 => ("VcdiffFormsModel", "actMode", "[I", true)
  | 36 => ("VcdiffFormsModel", "isWrong", "Z", false)
  | 37 => ("VcdiffFormsModel", "isShort", "Z", false)
  | 38 => ("VcdiffFormsModel", "dataAt", "I", false)
  | 39 => ("VcdiffFormsModel", "dataEnd", "I", false)
  | 40 => ("VcdiffFormsModel", "addressAt", "I", false)
  | 41 => ("VcdiffFormsModel", "addressEnd", "I", false)
  | 42 => ("VcdiffFormsModel", "file", "[B", true)
  | 43 => ("VcdiffFormsModel", "fileSize", "I", false)
  | 44 => ("VcdiffFormsModel", "tableFile", "[B", true)
  | 45 => ("VcdiffFormsModel", "tableFileSize", "I", false)
  | 46 => ("VcdiffFormsModel", "tableBytes", "[B", true)
  | 47 => ("VcdiffFormsModel", "parts", "[B", true)
  | 48 => ("VcdiffFormsModel", "partData", "I", false)
  | 49 => ("VcdiffFormsModel", "partCodes", "I", false)
  | 50 => ("VcdiffFormsModel", "partAddresses", "I", false)
  | 51 => ("VcdiffFormsModel", "stepCount", "I", false)
  | 52 => ("VcdiffFormsModel", "stepKind", "[I", true)
  | 53 => ("VcdiffFormsModel", "stepSize", "[I", true)
  | 54 => ("VcdiffFormsModel", "stepAddress", "[I", true)
  | 55 => ("VcdiffFormsModel", "stepMode", "[I", true)
  | 56 => ("VcdiffFormsModel", "makeNear", "[I", true)
  | 57 => ("VcdiffFormsModel", "makeSame", "[I", true)
  | 58 => ("VcdiffFormsModel", "makeSpace", "[B", true)
  | 59 => ("VcdiffFormsModel", "makeSegment", "I", false)
  | _ => ("VcdiffFormsModel", "isLost", "Z", false)
def tyX12 : Nat → FieldType := fun k => match k with
  | 0 => .array .byte
  | 1 => .int
  | 2 => .array .byte
  | 3 => .int
  | 4 => .array .byte
  | 5 => .int
  | 6 => .int
  | 7 => .int
  | 8 => .int
  | 9 => .array .int
  | 10 => .array .int
  | 11 => .array .int
  | 12 => .array .byte
  | 13 => .array .byte
  | 14 => .int
  | 15 => .int
  | 16 => .array .byte
  | 17 => .int
  | 18 => .int
  | 19 => .boolean
  | 20 => .array .byte
  | 21 => .array .byte
  | 22 => .array .byte
  | 23 => .int
  | 24 => .array .byte
  | 25 => .int
  | 26 => .int
  | 27 => .array .long
  | 28 => .array .long
  | 29 => .int
  | 30 => .array .int
  | 31 => .int
  | 32 => .array .int
  | 33 => .array .int
  | 34 => .array .int
  | 35 => .array .int
  | 36 => .boolean
  | 37 => .boolean
  | 38 => .int
  | 39 => .int
  | 40 => .int
  | 41 => .int
  | 42 => .array .byte
  | 43 => .int
  | 44 => .array .byte
  | 45 => .int
  | 46 => .array .byte
  | 47 => .array .byte
  | 48 => .int
  | 49 => .int
  | 50 => .int
  | 51 => .int
  | 52 => .array .int
  | 53 => .array .int
  | 54 => .array .int
  | 55 => .array .int
  | 56 => .array .int
  | 57 => .array .int
  | 58 => .array .byte
  | 59 => .int
  | _ => .boolean
theorem nmX12 : ∀ a, a < 61 → ∀ b, b < 61 → a ≠ b → (TX12 a).2.1 ≠ (TX12 b).2.1 := by decide +kernel
theorem tyX12_ok : ∀ k, k < 61 → parseFieldDescriptor (TX12 k).2.2.1 = some (tyX12 k) := by decide +kernel
abbrev cX12_init : ByteArray := prog_14_method_1_code
def yX12_init : MethodName := ⟨RX12, "<init>", "()V"⟩
abbrev cX12_code : ByteArray := prog_14_method_2_code
def yX12_code : MethodName := ⟨RX12, "code", "(IIIIIII)I"⟩
abbrev cX12_entryOf : ByteArray := prog_14_method_3_code
def yX12_entryOf : MethodName := ⟨RX12, "entryOf", "(III)I"⟩
abbrev cX12_takeTable : ByteArray := prog_14_method_4_code
def yX12_takeTable : MethodName := ⟨RX12, "takeTable", "(II)V"⟩
abbrev cX12_rowOf : ByteArray := prog_14_method_5_code
def yX12_rowOf : MethodName := ⟨RX12, "rowOf", "(I)I"⟩
abbrev cX12_asBytes : ByteArray := prog_14_method_6_code
def yX12_asBytes : MethodName := ⟨RX12, "asBytes", "(I[B)V"⟩
abbrev cX12_isGood : ByteArray := prog_14_method_7_code
def yX12_isGood : MethodName := ⟨RX12, "isGood", "(I)Z"⟩
abbrev cX12_feed : ByteArray := prog_14_method_8_code
def yX12_feed : MethodName := ⟨RX12, "feed", "(JI)I"⟩
abbrev cX12_fill : ByteArray := prog_14_method_9_code
def yX12_fill : MethodName := ⟨RX12, "fill", "(III)I"⟩
abbrev cX12_again : ByteArray := prog_14_method_10_code
def yX12_again : MethodName := ⟨RX12, "again", "(II)I"⟩
abbrev cX12_size : ByteArray := prog_14_method_11_code
def yX12_size : MethodName := ⟨RX12, "size", "()I"⟩
abbrev cX12_set : ByteArray := prog_14_method_12_code
def yX12_set : MethodName := ⟨RX12, "set", "(II)I"⟩
abbrev cX12_cut : ByteArray := prog_14_method_13_code
def yX12_cut : MethodName := ⟨RX12, "cut", "(I)I"⟩
abbrev cX12_swap : ByteArray := prog_14_method_14_code
def yX12_swap : MethodName := ⟨RX12, "swap", "()I"⟩
abbrev cX12_differ : ByteArray := prog_14_method_15_code
def yX12_differ : MethodName := ⟨RX12, "differ", "()I"⟩
abbrev cX12_out : ByteArray := prog_14_method_16_code
def yX12_out : MethodName := ⟨RX12, "out", "(I)I"⟩
abbrev cX12_old : ByteArray := prog_14_method_17_code
def yX12_old : MethodName := ⟨RX12, "old", "()I"⟩
abbrev cX12_given : ByteArray := prog_14_method_18_code
def yX12_given : MethodName := ⟨RX12, "given", "(II)I"⟩
abbrev cX12_entry : ByteArray := prog_14_method_19_code
def yX12_entry : MethodName := ⟨RX12, "entry", "(III)I"⟩
abbrev cX12_fails : ByteArray := prog_14_method_20_code
def yX12_fails : MethodName := ⟨RX12, "fails", "(II)Z"⟩
abbrev cX12_wants : ByteArray := prog_14_method_21_code
def yX12_wants : MethodName := ⟨RX12, "wants", "(J)Z"⟩
abbrev cX12_big : ByteArray := prog_14_method_22_code
def yX12_big : MethodName := ⟨RX12, "big", "(I)J"⟩
abbrev cX12_headBig : ByteArray := prog_14_method_23_code
def yX12_headBig : MethodName := ⟨RX12, "headBig", "()J"⟩
abbrev cX12_head : ByteArray := prog_14_method_24_code
def yX12_head : MethodName := ⟨RX12, "head", "(I)I"⟩
abbrev cX12_appendix : ByteArray := prog_14_method_25_code
def yX12_appendix : MethodName := ⟨RX12, "appendix", "()V"⟩
abbrev cX12_open : ByteArray := prog_14_method_26_code
def yX12_open : MethodName := ⟨RX12, "open", "()I"⟩
abbrev cX12_givenTable : ByteArray := prog_14_method_27_code
def yX12_givenTable : MethodName := ⟨RX12, "givenTable", "()V"⟩
abbrev cX12_noCaches : ByteArray := prog_14_method_28_code
def yX12_noCaches : MethodName := ⟨RX12, "noCaches", "()V"⟩
abbrev cX12_window : ByteArray := prog_14_method_29_code
def yX12_window : MethodName := ⟨RX12, "window", "()V"⟩
abbrev cX12_adler : ByteArray := prog_14_method_30_code
def yX12_adler : MethodName := ⟨RX12, "adler", "([BII)J"⟩
abbrev cX12_target : ByteArray := prog_14_method_31_code
def yX12_target : MethodName := ⟨RX12, "target", "(IIIII)V"⟩
abbrev cX12_act : ByteArray := prog_14_method_32_code
def yX12_act : MethodName := ⟨RX12, "act", "(IIIIII)V"⟩
abbrev cX12_addressBy : ByteArray := prog_14_method_33_code
def yX12_addressBy : MethodName := ⟨RX12, "addressBy", "(I)J"⟩
abbrev cX12_remember : ByteArray := prog_14_method_34_code
def yX12_remember : MethodName := ⟨RX12, "remember", "(J)V"⟩
abbrev cX12_place : ByteArray := prog_14_method_35_code
def yX12_place : MethodName := ⟨RX12, "place", "()I"⟩
abbrev cX12_told : ByteArray := prog_14_method_36_code
def yX12_told : MethodName := ⟨RX12, "told", "(I)I"⟩
abbrev cX12_instruction : ByteArray := prog_14_method_37_code
def yX12_instruction : MethodName := ⟨RX12, "instruction", "(II)I"⟩
abbrev cX12_table : ByteArray := prog_14_method_38_code
def yX12_table : MethodName := ⟨RX12, "table", "(II)I"⟩
abbrev cX12_cache : ByteArray := prog_14_method_39_code
def yX12_cache : MethodName := ⟨RX12, "cache", "(II)I"⟩
abbrev cX12_say : ByteArray := prog_14_method_40_code
def yX12_say : MethodName := ⟨RX12, "say", "(I)V"⟩
abbrev cX12_bigSize : ByteArray := prog_14_method_41_code
def yX12_bigSize : MethodName := ⟨RX12, "bigSize", "(J)I"⟩
abbrev cX12_sayBig : ByteArray := prog_14_method_42_code
def yX12_sayBig : MethodName := ⟨RX12, "sayBig", "(J)V"⟩
abbrev cX12_sayHead : ByteArray := prog_14_method_43_code
def yX12_sayHead : MethodName := ⟨RX12, "sayHead", "(I)V"⟩
abbrev cX12_make : ByteArray := prog_14_method_44_code
def yX12_make : MethodName := ⟨RX12, "make", "(I)I"⟩
abbrev cX12_windows : ByteArray := prog_14_method_45_code
def yX12_windows : MethodName := ⟨RX12, "windows", "([BI[BIII)V"⟩
abbrev cX12_findSteps : ByteArray := prog_14_method_46_code
def yX12_findSteps : MethodName := ⟨RX12, "findSteps", "(I)V"⟩
abbrev cX12_step : ByteArray := prog_14_method_47_code
def yX12_step : MethodName := ⟨RX12, "step", "(III)V"⟩
abbrev cX12_findModes : ByteArray := prog_14_method_48_code
def yX12_findModes : MethodName := ⟨RX12, "findModes", "(I)V"⟩
abbrev cX12_addAddress : ByteArray := prog_14_method_49_code
def yX12_addAddress : MethodName := ⟨RX12, "addAddress", "(I)V"⟩
abbrev cX12_isFirst : ByteArray := prog_14_method_50_code
def yX12_isFirst : MethodName := ⟨RX12, "isFirst", "(IIII)Z"⟩
abbrev cX12_sayParts : ByteArray := prog_14_method_51_code
def yX12_sayParts : MethodName := ⟨RX12, "sayParts", "(I)V"⟩
abbrev cX12_addCode : ByteArray := prog_14_method_52_code
def yX12_addCode : MethodName := ⟨RX12, "addCode", "(I)V"⟩
def RJ9 : String := "java/lang/Math"
def TJ9 : u_T := fun k => match k with
  | _ => ("", "", "", false)
def tyJ9 : Nat → FieldType := fun k => match k with
  | _ => .int
theorem nmJ9 : ∀ a, a < 0 → ∀ b, b < 0 → a ≠ b → (TJ9 a).2.1 ≠ (TJ9 b).2.1 := by decide +kernel
theorem tyJ9_ok : ∀ k, k < 0 → parseFieldDescriptor (TJ9 k).2.2.1 = some (tyJ9 k) := by decide +kernel
abbrev cJ9_max_7cf53 : ByteArray := prog_15_method_65_code
def yJ9_max_7cf53 : MethodName := ⟨RJ9, "max", "(II)I"⟩
abbrev cJ9_min_7cf53 : ByteArray := prog_15_method_69_code
def yJ9_min_7cf53 : MethodName := ⟨RJ9, "min", "(II)I"⟩
def RJ10 : String := "java/lang/System"
def TJ10 : u_T := fun k => match k with
  | _ => ("", "", "", false)
def tyJ10 : Nat → FieldType := fun k => match k with
  | _ => .int
theorem nmJ10 : ∀ a, a < 0 → ∀ b, b < 0 → a ≠ b → (TJ10 a).2.1 ≠ (TJ10 b).2.1 := by decide +kernel
theorem tyJ10_ok : ∀ k, k < 0 → parseFieldDescriptor (TJ10 k).2.2.1 = some (tyJ10 k) := by decide +kernel
def RJ7 : String := "java/util/Arrays"
def TJ7 : u_T := fun k => match k with
  | _ => ("", "", "", false)
def tyJ7 : Nat → FieldType := fun k => match k with
  | _ => .int
theorem nmJ7 : ∀ a, a < 0 → ∀ b, b < 0 → a ≠ b → (TJ7 a).2.1 ≠ (TJ7 b).2.1 := by decide +kernel
theorem tyJ7_ok : ∀ k, k < 0 → parseFieldDescriptor (TJ7 k).2.2.1 = some (tyJ7 k) := by decide +kernel
abbrev cJ7_fill_53178 : ByteArray := prog_17_method_103_code
def yJ7_fill_53178 : MethodName := ⟨RJ7, "fill", "([II)V"⟩
def RL : String := "VcdiffFormsLaw"
abbrev cL_law : ByteArray := code
def yL_law : MethodName := ⟨RL, "law", "([I)Z"⟩
abbrev cls : List vw_C := [(RX0, TX0, 5), (RX1, TX1, 2), (RX2, TX2, 3), (RX3, TX3, 6), (RX4, TX4, 3), (RX5, TX5, 7), (RX6, TX6, 4), (RX7, TX7, 19), (RX8, TX8, 3), (RX9, TX9, 5), (RX10, TX10, 3), (RX11, TX11, 13), (RX12, TX12, 61)]
def fkinds : List (List Bool) := [[true, true, false, false, false],
  [true, true],
  [true, false, false],
  [true, true, true, false, false, false],
  [true, true, false],
  [true, true, true, true, true, true, true],
  [true, true, true, false],
  [true, true, true, false, true, true, true, true, true, true, true, true, false, false, false, false, false, false, false],
  [true, false, false],
  [true, false, false, true, false],
  [true, false, false],
  [true, true, true, true, true, true, true, true, true, true, true, true, true],
  [true, false, true, false, true, false, false, false, false, true, true, true, true, true, false, false, true, false, false, false, true, true, true, false, true, false, false, true, true, false, true, false, true, true, true, true, false, false, false, false, false, false, true, false, true, false, true, true, false, false, false, false, true, true, true, true, true, true, true, false, false]]
def ALLW : List Cond := lw_tbl.filter goodWord
def isNest (x : Cond) : Bool := match x with
  | .fieldLinkNest .. => true
  | .methodLinkNest .. => true
  | _ => false
def NESTW : List Cond := lw_tbl.filter isNest
theorem all_good : ALLW.all goodWord = true := by
  rw [List.all_eq_true]
  intro x hx
  exact (List.mem_filter.mp hx).2
theorem inN1 {x : Cond} (h : x ∈ tables_1_1) (hg : isNest x = true) : x ∈ NESTW := List.mem_filter.mpr ⟨List.mem_append_right _ (List.mem_append_left _ h), hg⟩
theorem inT1 {x : Cond} (h : x ∈ tables_1_1) (hg : goodWord x = true) : x ∈ ALLW := List.mem_filter.mpr ⟨List.mem_append_right _ (List.mem_append_left _ h), hg⟩
theorem inN2 {x : Cond} (h : x ∈ tables_1_2) (hg : isNest x = true) : x ∈ NESTW := List.mem_filter.mpr ⟨List.mem_append_right _ (List.mem_append_right _ (List.mem_append_left _ h)), hg⟩
theorem inT2 {x : Cond} (h : x ∈ tables_1_2) (hg : goodWord x = true) : x ∈ ALLW := List.mem_filter.mpr ⟨List.mem_append_right _ (List.mem_append_right _ (List.mem_append_left _ h)), hg⟩
theorem inN3 {x : Cond} (h : x ∈ tables_1_3) (hg : isNest x = true) : x ∈ NESTW := List.mem_filter.mpr ⟨List.mem_append_right _ (List.mem_append_right _ (List.mem_append_right _ (List.mem_append_left _ h))), hg⟩
theorem inT3 {x : Cond} (h : x ∈ tables_1_3) (hg : goodWord x = true) : x ∈ ALLW := List.mem_filter.mpr ⟨List.mem_append_right _ (List.mem_append_right _ (List.mem_append_right _ (List.mem_append_left _ h))), hg⟩
theorem inN4 {x : Cond} (h : x ∈ tables_1_4) (hg : isNest x = true) : x ∈ NESTW := List.mem_filter.mpr ⟨List.mem_append_right _ (List.mem_append_right _ (List.mem_append_right _ (List.mem_append_right _ (List.mem_append_left _ h)))), hg⟩
theorem inT4 {x : Cond} (h : x ∈ tables_1_4) (hg : goodWord x = true) : x ∈ ALLW := List.mem_filter.mpr ⟨List.mem_append_right _ (List.mem_append_right _ (List.mem_append_right _ (List.mem_append_right _ (List.mem_append_left _ h)))), hg⟩
theorem inN5 {x : Cond} (h : x ∈ tables_1_5) (hg : isNest x = true) : x ∈ NESTW := List.mem_filter.mpr ⟨List.mem_append_right _ (List.mem_append_right _ (List.mem_append_right _ (List.mem_append_right _ (List.mem_append_right _ (List.mem_append_left _ h))))), hg⟩
theorem inT5 {x : Cond} (h : x ∈ tables_1_5) (hg : goodWord x = true) : x ∈ ALLW := List.mem_filter.mpr ⟨List.mem_append_right _ (List.mem_append_right _ (List.mem_append_right _ (List.mem_append_right _ (List.mem_append_right _ (List.mem_append_left _ h))))), hg⟩
theorem inN6 {x : Cond} (h : x ∈ tables_1_6) (hg : isNest x = true) : x ∈ NESTW := List.mem_filter.mpr ⟨List.mem_append_right _ (List.mem_append_right _ (List.mem_append_right _ (List.mem_append_right _ (List.mem_append_right _ (List.mem_append_right _ (h)))))), hg⟩
theorem inT6 {x : Cond} (h : x ∈ tables_1_6) (hg : goodWord x = true) : x ∈ ALLW := List.mem_filter.mpr ⟨List.mem_append_right _ (List.mem_append_right _ (List.mem_append_right _ (List.mem_append_right _ (List.mem_append_right _ (List.mem_append_right _ (h)))))), hg⟩
theorem inU_X0 : ∀ x ∈ u_ws RX0 TX0 5, x ∈ ALLW := by
  have h : ∀ x ∈ u_ws RX0 TX0 5, x ∈ lw_tbl ∧ goodWord x = true := by decide +kernel
  exact fun x hx => List.mem_filter.mpr (h x hx)
theorem inU_X1 : ∀ x ∈ u_ws RX1 TX1 2, x ∈ ALLW := by
  have h : ∀ x ∈ u_ws RX1 TX1 2, x ∈ lw_tbl ∧ goodWord x = true := by decide +kernel
  exact fun x hx => List.mem_filter.mpr (h x hx)
theorem inU_X2 : ∀ x ∈ u_ws RX2 TX2 3, x ∈ ALLW := by
  have h : ∀ x ∈ u_ws RX2 TX2 3, x ∈ lw_tbl ∧ goodWord x = true := by decide +kernel
  exact fun x hx => List.mem_filter.mpr (h x hx)
theorem inU_X3 : ∀ x ∈ u_ws RX3 TX3 6, x ∈ ALLW := by
  have h : ∀ x ∈ u_ws RX3 TX3 6, x ∈ lw_tbl ∧ goodWord x = true := by decide +kernel
  exact fun x hx => List.mem_filter.mpr (h x hx)
theorem inU_X4 : ∀ x ∈ u_ws RX4 TX4 3, x ∈ ALLW := by
  have h : ∀ x ∈ u_ws RX4 TX4 3, x ∈ lw_tbl ∧ goodWord x = true := by decide +kernel
  exact fun x hx => List.mem_filter.mpr (h x hx)
theorem inU_X5 : ∀ x ∈ u_ws RX5 TX5 7, x ∈ ALLW := by
  have h : ∀ x ∈ u_ws RX5 TX5 7, x ∈ lw_tbl ∧ goodWord x = true := by decide +kernel
  exact fun x hx => List.mem_filter.mpr (h x hx)
theorem inU_X6 : ∀ x ∈ u_ws RX6 TX6 4, x ∈ ALLW := by
  have h : ∀ x ∈ u_ws RX6 TX6 4, x ∈ lw_tbl ∧ goodWord x = true := by decide +kernel
  exact fun x hx => List.mem_filter.mpr (h x hx)
theorem inU_X7 : ∀ x ∈ u_ws RX7 TX7 19, x ∈ ALLW := by
  have h : ∀ x ∈ u_ws RX7 TX7 19, x ∈ lw_tbl ∧ goodWord x = true := by decide +kernel
  exact fun x hx => List.mem_filter.mpr (h x hx)
theorem inU_X8 : ∀ x ∈ u_ws RX8 TX8 3, x ∈ ALLW := by
  have h : ∀ x ∈ u_ws RX8 TX8 3, x ∈ lw_tbl ∧ goodWord x = true := by decide +kernel
  exact fun x hx => List.mem_filter.mpr (h x hx)
theorem inU_X9 : ∀ x ∈ u_ws RX9 TX9 5, x ∈ ALLW := by
  have h : ∀ x ∈ u_ws RX9 TX9 5, x ∈ lw_tbl ∧ goodWord x = true := by decide +kernel
  exact fun x hx => List.mem_filter.mpr (h x hx)
theorem inU_X10 : ∀ x ∈ u_ws RX10 TX10 3, x ∈ ALLW := by
  have h : ∀ x ∈ u_ws RX10 TX10 3, x ∈ lw_tbl ∧ goodWord x = true := by decide +kernel
  exact fun x hx => List.mem_filter.mpr (h x hx)
theorem inU_X11 : ∀ x ∈ u_ws RX11 TX11 13, x ∈ ALLW := by
  have h : ∀ x ∈ u_ws RX11 TX11 13, x ∈ lw_tbl ∧ goodWord x = true := by decide +kernel
  exact fun x hx => List.mem_filter.mpr (h x hx)
theorem inU_X12 : ∀ x ∈ u_ws RX12 TX12 61, x ∈ ALLW := by
  have h : ∀ x ∈ u_ws RX12 TX12 61, x ∈ lw_tbl ∧ goodWord x = true := by decide +kernel
  exact fun x hx => List.mem_filter.mpr (h x hx)
