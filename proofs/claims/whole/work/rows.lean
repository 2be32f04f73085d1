section
-- ===== PART A: goes FIRST, ahead of the names: the tables' words, and 'selects' of the private methods out of them =====
/-- a private method of a class that the tables say can be made, by its rows of tables_1 -/
def lw_okq (q : MethodName × Nat) : Prop := (q.1.cls ≠ "java/lang/invoke/MethodHandle" ∧ q.1.cls ≠ "java/lang/invoke/VarHandle") ∧ Cond.instantiable q.1.cls q.2 ∈ tables_1 ∧ Cond.privateMethod q.1 ∈ tables_1 ∧ Cond.instanceMethod q.1 ∈ tables_1
theorem lw_p0 : lw_okq (⟨"AnnCups", "rowOf", "(I)LAnnCups$Row;"⟩, 14) := ⟨⟨by decide +kernel, by decide +kernel⟩, List.mem_of_getElem? (i := 14) (by decide +kernel), List.mem_of_getElem? (i := 260) (by decide +kernel), List.mem_of_getElem? (i := 261) (by decide +kernel)⟩
theorem lw_p1 : lw_okq (⟨"AnnCups", "found", "(I)I"⟩, 14) := ⟨⟨by decide +kernel, by decide +kernel⟩, List.mem_of_getElem? (i := 14) (by decide +kernel), List.mem_of_getElem? (i := 264) (by decide +kernel), List.mem_of_getElem? (i := 265) (by decide +kernel)⟩
theorem lw_p2 : lw_okq (⟨"AnnCups", "textOf", "(I)LAnnCups$Text;"⟩, 14) := ⟨⟨by decide +kernel, by decide +kernel⟩, List.mem_of_getElem? (i := 14) (by decide +kernel), List.mem_of_getElem? (i := 308) (by decide +kernel), List.mem_of_getElem? (i := 309) (by decide +kernel)⟩
theorem lw_p3 : lw_okq (⟨"AnnCups", "ofCup", "(II)I"⟩, 14) := ⟨⟨by decide +kernel, by decide +kernel⟩, List.mem_of_getElem? (i := 14) (by decide +kernel), List.mem_of_getElem? (i := 399) (by decide +kernel), List.mem_of_getElem? (i := 400) (by decide +kernel)⟩
theorem lw_p4 : lw_okq (⟨"AnnCups", "othersOfItsMilk", "(I)I"⟩, 14) := ⟨⟨by decide +kernel, by decide +kernel⟩, List.mem_of_getElem? (i := 14) (by decide +kernel), List.mem_of_getElem? (i := 415) (by decide +kernel), List.mem_of_getElem? (i := 416) (by decide +kernel)⟩
theorem lw_p5 : lw_okq (⟨"AnnCups", "othersThatTakeLonger", "(I)I"⟩, 14) := ⟨⟨by decide +kernel, by decide +kernel⟩, List.mem_of_getElem? (i := 14) (by decide +kernel), List.mem_of_getElem? (i := 423) (by decide +kernel), List.mem_of_getElem? (i := 424) (by decide +kernel)⟩
theorem lw_p6 : lw_okq (⟨"AnnCups", "perform", "(III)V"⟩, 14) := ⟨⟨by decide +kernel, by decide +kernel⟩, List.mem_of_getElem? (i := 14) (by decide +kernel), List.mem_of_getElem? (i := 441) (by decide +kernel), List.mem_of_getElem? (i := 442) (by decide +kernel)⟩
theorem lw_p7 : lw_okq (⟨"AnnCups$Counter", "receive", "(II)V"⟩, 7) := ⟨⟨by decide +kernel, by decide +kernel⟩, List.mem_of_getElem? (i := 79) (by decide +kernel), List.mem_of_getElem? (i := 470) (by decide +kernel), List.mem_of_getElem? (i := 471) (by decide +kernel)⟩
theorem lw_p8 : lw_okq (⟨"AnnCups", "keptAt", "(I)LAnnCups$Deeds;"⟩, 14) := ⟨⟨by decide +kernel, by decide +kernel⟩, List.mem_of_getElem? (i := 14) (by decide +kernel), List.mem_of_getElem? (i := 509) (by decide +kernel), List.mem_of_getElem? (i := 510) (by decide +kernel)⟩
theorem lw_p9 : lw_okq (⟨"AnnCups", "bestOrder", "(II)I"⟩, 14) := ⟨⟨by decide +kernel, by decide +kernel⟩, List.mem_of_getElem? (i := 14) (by decide +kernel), List.mem_of_getElem? (i := 525) (by decide +kernel), List.mem_of_getElem? (i := 526) (by decide +kernel)⟩
theorem lw_p10 : lw_okq (⟨"AnnCups$Search", "isWhole", "(II)Z"⟩, 8) := ⟨⟨by decide +kernel, by decide +kernel⟩, List.mem_of_getElem? (i := 125) (by decide +kernel), List.mem_of_getElem? (i := 538) (by decide +kernel), List.mem_of_getElem? (i := 539) (by decide +kernel)⟩
theorem lw_p11 : lw_okq (⟨"AnnCups$Search", "improve", "(II)V"⟩, 8) := ⟨⟨by decide +kernel, by decide +kernel⟩, List.mem_of_getElem? (i := 125) (by decide +kernel), List.mem_of_getElem? (i := 546) (by decide +kernel), List.mem_of_getElem? (i := 547) (by decide +kernel)⟩
theorem lw_p12 : lw_okq (⟨"AnnCups$Search", "rememberPath", "(I)V"⟩, 8) := ⟨⟨by decide +kernel, by decide +kernel⟩, List.mem_of_getElem? (i := 125) (by decide +kernel), List.mem_of_getElem? (i := 550) (by decide +kernel), List.mem_of_getElem? (i := 551) (by decide +kernel)⟩
theorem lw_p13 : lw_okq (⟨"AnnCups", "tellParts", "(JJ)V"⟩, 14) := ⟨⟨by decide +kernel, by decide +kernel⟩, List.mem_of_getElem? (i := 14) (by decide +kernel), List.mem_of_getElem? (i := 587) (by decide +kernel), List.mem_of_getElem? (i := 588) (by decide +kernel)⟩
theorem lw_p14 : lw_okq (⟨"AnnCups", "leadsRing", "(I)Z"⟩, 14) := ⟨⟨by decide +kernel, by decide +kernel⟩, List.mem_of_getElem? (i := 14) (by decide +kernel), List.mem_of_getElem? (i := 624) (by decide +kernel), List.mem_of_getElem? (i := 625) (by decide +kernel)⟩
theorem lw_p15 : lw_okq (⟨"AnnCups", "tellsWhoTookWhat", "(LAnnCups$Row;)Z"⟩, 14) := ⟨⟨by decide +kernel, by decide +kernel⟩, List.mem_of_getElem? (i := 14) (by decide +kernel), List.mem_of_getElem? (i := 655) (by decide +kernel), List.mem_of_getElem? (i := 656) (by decide +kernel)⟩
def lw_privs_1 : List (MethodName × Nat) := [(⟨"AnnCups", "rowOf", "(I)LAnnCups$Row;"⟩, 14), (⟨"AnnCups", "found", "(I)I"⟩, 14), (⟨"AnnCups", "textOf", "(I)LAnnCups$Text;"⟩, 14), (⟨"AnnCups", "ofCup", "(II)I"⟩, 14), (⟨"AnnCups", "othersOfItsMilk", "(I)I"⟩, 14), (⟨"AnnCups", "othersThatTakeLonger", "(I)I"⟩, 14), (⟨"AnnCups", "perform", "(III)V"⟩, 14), (⟨"AnnCups$Counter", "receive", "(II)V"⟩, 7), (⟨"AnnCups", "keptAt", "(I)LAnnCups$Deeds;"⟩, 14), (⟨"AnnCups", "bestOrder", "(II)I"⟩, 14), (⟨"AnnCups$Search", "isWhole", "(II)Z"⟩, 8), (⟨"AnnCups$Search", "improve", "(II)V"⟩, 8), (⟨"AnnCups$Search", "rememberPath", "(I)V"⟩, 8), (⟨"AnnCups", "tellParts", "(JJ)V"⟩, 14), (⟨"AnnCups", "leadsRing", "(I)Z"⟩, 14), (⟨"AnnCups", "tellsWhoTookWhat", "(LAnnCups$Row;)Z"⟩, 14)]
theorem lw_r1 : ∀ q ∈ lw_privs_1, lw_okq q := List.forall_mem_cons.mpr ⟨lw_p0, List.forall_mem_cons.mpr ⟨lw_p1, List.forall_mem_cons.mpr ⟨lw_p2, List.forall_mem_cons.mpr ⟨lw_p3, List.forall_mem_cons.mpr ⟨lw_p4, List.forall_mem_cons.mpr ⟨lw_p5, List.forall_mem_cons.mpr ⟨lw_p6, List.forall_mem_cons.mpr ⟨lw_p7, List.forall_mem_cons.mpr ⟨lw_p8, List.forall_mem_cons.mpr ⟨lw_p9, List.forall_mem_cons.mpr ⟨lw_p10, List.forall_mem_cons.mpr ⟨lw_p11, List.forall_mem_cons.mpr ⟨lw_p12, List.forall_mem_cons.mpr ⟨lw_p13, List.forall_mem_cons.mpr ⟨lw_p14, List.forall_mem_cons.mpr ⟨lw_p15, fun _ h => absurd h List.not_mem_nil⟩⟩⟩⟩⟩⟩⟩⟩⟩⟩⟩⟩⟩⟩⟩⟩
theorem lw_p16 : lw_okq (⟨"AnnCups", "wouldTakeSo", "(LAnnCups$Row;I)Z"⟩, 14) := ⟨⟨by decide +kernel, by decide +kernel⟩, List.mem_of_getElem? (i := 14) (by decide +kernel), List.mem_of_getElem? (i := 659) (by decide +kernel), List.mem_of_getElem? (i := 660) (by decide +kernel)⟩
theorem lw_p17 : lw_okq (⟨"AnnCups", "wrongWithout", "(I)I"⟩, 14) := ⟨⟨by decide +kernel, by decide +kernel⟩, List.mem_of_getElem? (i := 14) (by decide +kernel), List.mem_of_getElem? (i := 700) (by decide +kernel), List.mem_of_getElem? (i := 701) (by decide +kernel)⟩
theorem lw_p18 : lw_okq (⟨"AnnCups", "performLot", "(II)V"⟩, 14) := ⟨⟨by decide +kernel, by decide +kernel⟩, List.mem_of_getElem? (i := 14) (by decide +kernel), List.mem_of_getElem? (i := 711) (by decide +kernel), List.mem_of_getElem? (i := 712) (by decide +kernel)⟩
theorem lw_p19 : lw_okq (⟨"AnnCups", "ofBar", "(I)I"⟩, 14) := ⟨⟨by decide +kernel, by decide +kernel⟩, List.mem_of_getElem? (i := 14) (by decide +kernel), List.mem_of_getElem? (i := 731) (by decide +kernel), List.mem_of_getElem? (i := 732) (by decide +kernel)⟩
theorem lw_p20 : lw_okq (⟨"AnnCups", "rowsThere", "()I"⟩, 14) := ⟨⟨by decide +kernel, by decide +kernel⟩, List.mem_of_getElem? (i := 14) (by decide +kernel), List.mem_of_getElem? (i := 740) (by decide +kernel), List.mem_of_getElem? (i := 741) (by decide +kernel)⟩
theorem lw_p21 : lw_okq (⟨"AnnCups", "textsThere", "()I"⟩, 14) := ⟨⟨by decide +kernel, by decide +kernel⟩, List.mem_of_getElem? (i := 14) (by decide +kernel), List.mem_of_getElem? (i := 744) (by decide +kernel), List.mem_of_getElem? (i := 745) (by decide +kernel)⟩
theorem lw_p22 : lw_okq (⟨"AnnCups", "barsKept", "()I"⟩, 14) := ⟨⟨by decide +kernel, by decide +kernel⟩, List.mem_of_getElem? (i := 14) (by decide +kernel), List.mem_of_getElem? (i := 748) (by decide +kernel), List.mem_of_getElem? (i := 749) (by decide +kernel)⟩
theorem lw_p23 : lw_okq (⟨"AnnCupsModel", "begins", "()V"⟩, 35) := ⟨⟨by decide +kernel, by decide +kernel⟩, List.mem_of_getElem? (i := 776) (by decide +kernel), List.mem_of_getElem? (i := 782) (by decide +kernel), List.mem_of_getElem? (i := 783) (by decide +kernel)⟩
theorem lw_p24 : lw_okq (⟨"AnnCupsModel", "found", "(I)I"⟩, 35) := ⟨⟨by decide +kernel, by decide +kernel⟩, List.mem_of_getElem? (i := 776) (by decide +kernel), List.mem_of_getElem? (i := 904) (by decide +kernel), List.mem_of_getElem? (i := 905) (by decide +kernel)⟩
theorem lw_p25 : lw_okq (⟨"AnnCupsModel", "tell", "(I)I"⟩, 35) := ⟨⟨by decide +kernel, by decide +kernel⟩, List.mem_of_getElem? (i := 776) (by decide +kernel), List.mem_of_getElem? (i := 912) (by decide +kernel), List.mem_of_getElem? (i := 913) (by decide +kernel)⟩
theorem lw_p26 : lw_okq (⟨"AnnCupsModel", "faultOf", "(I)I"⟩, 35) := ⟨⟨by decide +kernel, by decide +kernel⟩, List.mem_of_getElem? (i := 776) (by decide +kernel), List.mem_of_getElem? (i := 948) (by decide +kernel), List.mem_of_getElem? (i := 949) (by decide +kernel)⟩
theorem lw_p27 : lw_okq (⟨"AnnCupsModel", "blanks", "(I)V"⟩, 35) := ⟨⟨by decide +kernel, by decide +kernel⟩, List.mem_of_getElem? (i := 776) (by decide +kernel), List.mem_of_getElem? (i := 952) (by decide +kernel), List.mem_of_getElem? (i := 953) (by decide +kernel)⟩
theorem lw_p28 : lw_okq (⟨"AnnCupsModel", "byteAt", "(I)I"⟩, 35) := ⟨⟨by decide +kernel, by decide +kernel⟩, List.mem_of_getElem? (i := 776) (by decide +kernel), List.mem_of_getElem? (i := 956) (by decide +kernel), List.mem_of_getElem? (i := 957) (by decide +kernel)⟩
theorem lw_p29 : lw_okq (⟨"AnnCupsModel", "readsEars", "(I)Z"⟩, 35) := ⟨⟨by decide +kernel, by decide +kernel⟩, List.mem_of_getElem? (i := 776) (by decide +kernel), List.mem_of_getElem? (i := 960) (by decide +kernel), List.mem_of_getElem? (i := 961) (by decide +kernel)⟩
theorem lw_p30 : lw_okq (⟨"AnnCupsModel", "takes", "(III)Z"⟩, 35) := ⟨⟨by decide +kernel, by decide +kernel⟩, List.mem_of_getElem? (i := 776) (by decide +kernel), List.mem_of_getElem? (i := 964) (by decide +kernel), List.mem_of_getElem? (i := 965) (by decide +kernel)⟩
theorem lw_p31 : lw_okq (⟨"AnnCupsModel", "readsCup", "(I)Z"⟩, 35) := ⟨⟨by decide +kernel, by decide +kernel⟩, List.mem_of_getElem? (i := 776) (by decide +kernel), List.mem_of_getElem? (i := 968) (by decide +kernel), List.mem_of_getElem? (i := 969) (by decide +kernel)⟩
def lw_privs_2 : List (MethodName × Nat) := [(⟨"AnnCups", "wouldTakeSo", "(LAnnCups$Row;I)Z"⟩, 14), (⟨"AnnCups", "wrongWithout", "(I)I"⟩, 14), (⟨"AnnCups", "performLot", "(II)V"⟩, 14), (⟨"AnnCups", "ofBar", "(I)I"⟩, 14), (⟨"AnnCups", "rowsThere", "()I"⟩, 14), (⟨"AnnCups", "textsThere", "()I"⟩, 14), (⟨"AnnCups", "barsKept", "()I"⟩, 14), (⟨"AnnCupsModel", "begins", "()V"⟩, 35), (⟨"AnnCupsModel", "found", "(I)I"⟩, 35), (⟨"AnnCupsModel", "tell", "(I)I"⟩, 35), (⟨"AnnCupsModel", "faultOf", "(I)I"⟩, 35), (⟨"AnnCupsModel", "blanks", "(I)V"⟩, 35), (⟨"AnnCupsModel", "byteAt", "(I)I"⟩, 35), (⟨"AnnCupsModel", "readsEars", "(I)Z"⟩, 35), (⟨"AnnCupsModel", "takes", "(III)Z"⟩, 35), (⟨"AnnCupsModel", "readsCup", "(I)Z"⟩, 35)]
theorem lw_r2 : ∀ q ∈ lw_privs_2, lw_okq q := List.forall_mem_cons.mpr ⟨lw_p16, List.forall_mem_cons.mpr ⟨lw_p17, List.forall_mem_cons.mpr ⟨lw_p18, List.forall_mem_cons.mpr ⟨lw_p19, List.forall_mem_cons.mpr ⟨lw_p20, List.forall_mem_cons.mpr ⟨lw_p21, List.forall_mem_cons.mpr ⟨lw_p22, List.forall_mem_cons.mpr ⟨lw_p23, List.forall_mem_cons.mpr ⟨lw_p24, List.forall_mem_cons.mpr ⟨lw_p25, List.forall_mem_cons.mpr ⟨lw_p26, List.forall_mem_cons.mpr ⟨lw_p27, List.forall_mem_cons.mpr ⟨lw_p28, List.forall_mem_cons.mpr ⟨lw_p29, List.forall_mem_cons.mpr ⟨lw_p30, List.forall_mem_cons.mpr ⟨lw_p31, fun _ h => absurd h List.not_mem_nil⟩⟩⟩⟩⟩⟩⟩⟩⟩⟩⟩⟩⟩⟩⟩⟩
theorem lw_p32 : lw_okq (⟨"AnnCupsModel", "isCup", "(I)Z"⟩, 35) := ⟨⟨by decide +kernel, by decide +kernel⟩, List.mem_of_getElem? (i := 776) (by decide +kernel), List.mem_of_getElem? (i := 983) (by decide +kernel), List.mem_of_getElem? (i := 984) (by decide +kernel)⟩
theorem lw_p33 : lw_okq (⟨"AnnCupsModel", "told", "(II)I"⟩, 35) := ⟨⟨by decide +kernel, by decide +kernel⟩, List.mem_of_getElem? (i := 776) (by decide +kernel), List.mem_of_getElem? (i := 987) (by decide +kernel), List.mem_of_getElem? (i := 988) (by decide +kernel)⟩
theorem lw_p34 : lw_okq (⟨"AnnCupsModel", "takesOf", "([II)I"⟩, 35) := ⟨⟨by decide +kernel, by decide +kernel⟩, List.mem_of_getElem? (i := 776) (by decide +kernel), List.mem_of_getElem? (i := 991) (by decide +kernel), List.mem_of_getElem? (i := 992) (by decide +kernel)⟩
theorem lw_p35 : lw_okq (⟨"AnnCupsModel", "others", "(IZ)I"⟩, 35) := ⟨⟨by decide +kernel, by decide +kernel⟩, List.mem_of_getElem? (i := 776) (by decide +kernel), List.mem_of_getElem? (i := 1005) (by decide +kernel), List.mem_of_getElem? (i := 1006) (by decide +kernel)⟩
theorem lw_p36 : lw_okq (⟨"AnnCupsModel", "whoseOf", "(I)I"⟩, 35) := ⟨⟨by decide +kernel, by decide +kernel⟩, List.mem_of_getElem? (i := 776) (by decide +kernel), List.mem_of_getElem? (i := 1012) (by decide +kernel), List.mem_of_getElem? (i := 1013) (by decide +kernel)⟩
theorem lw_p37 : lw_okq (⟨"AnnCupsModel", "isThere", "(I)Z"⟩, 35) := ⟨⟨by decide +kernel, by decide +kernel⟩, List.mem_of_getElem? (i := 776) (by decide +kernel), List.mem_of_getElem? (i := 1016) (by decide +kernel), List.mem_of_getElem? (i := 1017) (by decide +kernel)⟩
theorem lw_p38 : lw_okq (⟨"AnnCupsModel", "heldBy", "([II)I"⟩, 35) := ⟨⟨by decide +kernel, by decide +kernel⟩, List.mem_of_getElem? (i := 776) (by decide +kernel), List.mem_of_getElem? (i := 1030) (by decide +kernel), List.mem_of_getElem? (i := 1031) (by decide +kernel)⟩
theorem lw_p39 : lw_okq (⟨"AnnCupsModel", "remember", "()V"⟩, 35) := ⟨⟨by decide +kernel, by decide +kernel⟩, List.mem_of_getElem? (i := 776) (by decide +kernel), List.mem_of_getElem? (i := 1038) (by decide +kernel), List.mem_of_getElem? (i := 1039) (by decide +kernel)⟩
theorem lw_p40 : lw_okq (⟨"AnnCupsModel", "makesOn", "([III)V"⟩, 35) := ⟨⟨by decide +kernel, by decide +kernel⟩, List.mem_of_getElem? (i := 776) (by decide +kernel), List.mem_of_getElem? (i := 1045) (by decide +kernel), List.mem_of_getElem? (i := 1046) (by decide +kernel)⟩
theorem lw_p41 : lw_okq (⟨"AnnCupsModel", "whoTakes", "([III)I"⟩, 35) := ⟨⟨by decide +kernel, by decide +kernel⟩, List.mem_of_getElem? (i := 776) (by decide +kernel), List.mem_of_getElem? (i := 1049) (by decide +kernel), List.mem_of_getElem? (i := 1050) (by decide +kernel)⟩
theorem lw_p42 : lw_okq (⟨"AnnCupsModel", "changes", "([III)V"⟩, 35) := ⟨⟨by decide +kernel, by decide +kernel⟩, List.mem_of_getElem? (i := 776) (by decide +kernel), List.mem_of_getElem? (i := 1060) (by decide +kernel), List.mem_of_getElem? (i := 1061) (by decide +kernel)⟩
theorem lw_p43 : lw_okq (⟨"AnnCupsModel", "wrongOf", "([I)I"⟩, 35) := ⟨⟨by decide +kernel, by decide +kernel⟩, List.mem_of_getElem? (i := 776) (by decide +kernel), List.mem_of_getElem? (i := 1064) (by decide +kernel), List.mem_of_getElem? (i := 1065) (by decide +kernel)⟩
theorem lw_p44 : lw_okq (⟨"AnnCupsModel", "standing", "()I"⟩, 35) := ⟨⟨by decide +kernel, by decide +kernel⟩, List.mem_of_getElem? (i := 776) (by decide +kernel), List.mem_of_getElem? (i := 1072) (by decide +kernel), List.mem_of_getElem? (i := 1073) (by decide +kernel)⟩
theorem lw_p45 : lw_okq (⟨"AnnCupsModel", "bestBy", "(II)I"⟩, 35) := ⟨⟨by decide +kernel, by decide +kernel⟩, List.mem_of_getElem? (i := 776) (by decide +kernel), List.mem_of_getElem? (i := 1093) (by decide +kernel), List.mem_of_getElem? (i := 1094) (by decide +kernel)⟩
theorem lw_p46 : lw_okq (⟨"AnnCupsModel", "firstOrder", "()V"⟩, 35) := ⟨⟨by decide +kernel, by decide +kernel⟩, List.mem_of_getElem? (i := 776) (by decide +kernel), List.mem_of_getElem? (i := 1098) (by decide +kernel), List.mem_of_getElem? (i := 1099) (by decide +kernel)⟩
theorem lw_p47 : lw_okq (⟨"AnnCupsModel", "worth", "(I)I"⟩, 35) := ⟨⟨by decide +kernel, by decide +kernel⟩, List.mem_of_getElem? (i := 776) (by decide +kernel), List.mem_of_getElem? (i := 1102) (by decide +kernel), List.mem_of_getElem? (i := 1103) (by decide +kernel)⟩
def lw_privs_3 : List (MethodName × Nat) := [(⟨"AnnCupsModel", "isCup", "(I)Z"⟩, 35), (⟨"AnnCupsModel", "told", "(II)I"⟩, 35), (⟨"AnnCupsModel", "takesOf", "([II)I"⟩, 35), (⟨"AnnCupsModel", "others", "(IZ)I"⟩, 35), (⟨"AnnCupsModel", "whoseOf", "(I)I"⟩, 35), (⟨"AnnCupsModel", "isThere", "(I)Z"⟩, 35), (⟨"AnnCupsModel", "heldBy", "([II)I"⟩, 35), (⟨"AnnCupsModel", "remember", "()V"⟩, 35), (⟨"AnnCupsModel", "makesOn", "([III)V"⟩, 35), (⟨"AnnCupsModel", "whoTakes", "([III)I"⟩, 35), (⟨"AnnCupsModel", "changes", "([III)V"⟩, 35), (⟨"AnnCupsModel", "wrongOf", "([I)I"⟩, 35), (⟨"AnnCupsModel", "standing", "()I"⟩, 35), (⟨"AnnCupsModel", "bestBy", "(II)I"⟩, 35), (⟨"AnnCupsModel", "firstOrder", "()V"⟩, 35), (⟨"AnnCupsModel", "worth", "(I)I"⟩, 35)]
theorem lw_r3 : ∀ q ∈ lw_privs_3, lw_okq q := List.forall_mem_cons.mpr ⟨lw_p32, List.forall_mem_cons.mpr ⟨lw_p33, List.forall_mem_cons.mpr ⟨lw_p34, List.forall_mem_cons.mpr ⟨lw_p35, List.forall_mem_cons.mpr ⟨lw_p36, List.forall_mem_cons.mpr ⟨lw_p37, List.forall_mem_cons.mpr ⟨lw_p38, List.forall_mem_cons.mpr ⟨lw_p39, List.forall_mem_cons.mpr ⟨lw_p40, List.forall_mem_cons.mpr ⟨lw_p41, List.forall_mem_cons.mpr ⟨lw_p42, List.forall_mem_cons.mpr ⟨lw_p43, List.forall_mem_cons.mpr ⟨lw_p44, List.forall_mem_cons.mpr ⟨lw_p45, List.forall_mem_cons.mpr ⟨lw_p46, List.forall_mem_cons.mpr ⟨lw_p47, fun _ h => absurd h List.not_mem_nil⟩⟩⟩⟩⟩⟩⟩⟩⟩⟩⟩⟩⟩⟩⟩⟩
theorem lw_p48 : lw_okq (⟨"AnnCupsModel", "layAside", "()V"⟩, 35) := ⟨⟨by decide +kernel, by decide +kernel⟩, List.mem_of_getElem? (i := 776) (by decide +kernel), List.mem_of_getElem? (i := 1106) (by decide +kernel), List.mem_of_getElem? (i := 1107) (by decide +kernel)⟩
theorem lw_p49 : lw_okq (⟨"AnnCupsModel", "nextOrder", "()Z"⟩, 35) := ⟨⟨by decide +kernel, by decide +kernel⟩, List.mem_of_getElem? (i := 776) (by decide +kernel), List.mem_of_getElem? (i := 1110) (by decide +kernel), List.mem_of_getElem? (i := 1111) (by decide +kernel)⟩
theorem lw_p50 : lw_okq (⟨"AnnCupsModel", "exchanges", "(II)V"⟩, 35) := ⟨⟨by decide +kernel, by decide +kernel⟩, List.mem_of_getElem? (i := 776) (by decide +kernel), List.mem_of_getElem? (i := 1114) (by decide +kernel), List.mem_of_getElem? (i := 1115) (by decide +kernel)⟩
theorem lw_p51 : lw_okq (⟨"AnnCupsModel", "fraction", "(JJ)I"⟩, 35) := ⟨⟨by decide +kernel, by decide +kernel⟩, List.mem_of_getElem? (i := 776) (by decide +kernel), List.mem_of_getElem? (i := 1131) (by decide +kernel), List.mem_of_getElem? (i := 1132) (by decide +kernel)⟩
theorem lw_p52 : lw_okq (⟨"AnnCupsModel", "answer", "(II)I"⟩, 35) := ⟨⟨by decide +kernel, by decide +kernel⟩, List.mem_of_getElem? (i := 776) (by decide +kernel), List.mem_of_getElem? (i := 1139) (by decide +kernel), List.mem_of_getElem? (i := 1140) (by decide +kernel)⟩
theorem lw_p53 : lw_okq (⟨"AnnCupsModel", "arePairs", "(I)Z"⟩, 35) := ⟨⟨by decide +kernel, by decide +kernel⟩, List.mem_of_getElem? (i := 776) (by decide +kernel), List.mem_of_getElem? (i := 1180) (by decide +kernel), List.mem_of_getElem? (i := 1181) (by decide +kernel)⟩
theorem lw_p54 : lw_okq (⟨"AnnCupsModel", "madeOf", "([I)I"⟩, 35) := ⟨⟨by decide +kernel, by decide +kernel⟩, List.mem_of_getElem? (i := 776) (by decide +kernel), List.mem_of_getElem? (i := 1184) (by decide +kernel), List.mem_of_getElem? (i := 1185) (by decide +kernel)⟩
theorem lw_p55 : lw_okq (⟨"AnnCupsModel", "beginsStep", "(I)V"⟩, 35) := ⟨⟨by decide +kernel, by decide +kernel⟩, List.mem_of_getElem? (i := 776) (by decide +kernel), List.mem_of_getElem? (i := 1196) (by decide +kernel), List.mem_of_getElem? (i := 1197) (by decide +kernel)⟩
theorem lw_p56 : lw_okq (⟨"AnnCupsModel", "weighs", "(II)V"⟩, 35) := ⟨⟨by decide +kernel, by decide +kernel⟩, List.mem_of_getElem? (i := 776) (by decide +kernel), List.mem_of_getElem? (i := 1200) (by decide +kernel), List.mem_of_getElem? (i := 1201) (by decide +kernel)⟩
theorem lw_p57 : lw_okq (⟨"AnnCupsModel", "barGoes", "(I)Z"⟩, 35) := ⟨⟨by decide +kernel, by decide +kernel⟩, List.mem_of_getElem? (i := 776) (by decide +kernel), List.mem_of_getElem? (i := 1204) (by decide +kernel), List.mem_of_getElem? (i := 1205) (by decide +kernel)⟩
theorem lw_p58 : lw_okq (⟨"AnnCupsModel", "wagGoes", "(I)Z"⟩, 35) := ⟨⟨by decide +kernel, by decide +kernel⟩, List.mem_of_getElem? (i := 776) (by decide +kernel), List.mem_of_getElem? (i := 1208) (by decide +kernel), List.mem_of_getElem? (i := 1209) (by decide +kernel)⟩
theorem lw_p59 : lw_okq (⟨"AnnCupsModel", "waiting", "()I"⟩, 35) := ⟨⟨by decide +kernel, by decide +kernel⟩, List.mem_of_getElem? (i := 776) (by decide +kernel), List.mem_of_getElem? (i := 1217) (by decide +kernel), List.mem_of_getElem? (i := 1218) (by decide +kernel)⟩
theorem lw_p60 : lw_okq (⟨"AnnCupsModel", "waysOf", "(III)J"⟩, 35) := ⟨⟨by decide +kernel, by decide +kernel⟩, List.mem_of_getElem? (i := 776) (by decide +kernel), List.mem_of_getElem? (i := 1221) (by decide +kernel), List.mem_of_getElem? (i := 1222) (by decide +kernel)⟩
theorem lw_p61 : lw_okq (⟨"AnnCupsModel", "plays", "(II)V"⟩, 35) := ⟨⟨by decide +kernel, by decide +kernel⟩, List.mem_of_getElem? (i := 776) (by decide +kernel), List.mem_of_getElem? (i := 1241) (by decide +kernel), List.mem_of_getElem? (i := 1242) (by decide +kernel)⟩
theorem lw_p62 : lw_okq (⟨"AnnCupsModel", "counted", "(I)I"⟩, 35) := ⟨⟨by decide +kernel, by decide +kernel⟩, List.mem_of_getElem? (i := 776) (by decide +kernel), List.mem_of_getElem? (i := 1262) (by decide +kernel), List.mem_of_getElem? (i := 1263) (by decide +kernel)⟩
theorem lw_p63 : lw_okq (⟨"AnnCupsModel", "kindsOf", "(I)I"⟩, 35) := ⟨⟨by decide +kernel, by decide +kernel⟩, List.mem_of_getElem? (i := 776) (by decide +kernel), List.mem_of_getElem? (i := 1266) (by decide +kernel), List.mem_of_getElem? (i := 1267) (by decide +kernel)⟩
def lw_privs_4 : List (MethodName × Nat) := [(⟨"AnnCupsModel", "layAside", "()V"⟩, 35), (⟨"AnnCupsModel", "nextOrder", "()Z"⟩, 35), (⟨"AnnCupsModel", "exchanges", "(II)V"⟩, 35), (⟨"AnnCupsModel", "fraction", "(JJ)I"⟩, 35), (⟨"AnnCupsModel", "answer", "(II)I"⟩, 35), (⟨"AnnCupsModel", "arePairs", "(I)Z"⟩, 35), (⟨"AnnCupsModel", "madeOf", "([I)I"⟩, 35), (⟨"AnnCupsModel", "beginsStep", "(I)V"⟩, 35), (⟨"AnnCupsModel", "weighs", "(II)V"⟩, 35), (⟨"AnnCupsModel", "barGoes", "(I)Z"⟩, 35), (⟨"AnnCupsModel", "wagGoes", "(I)Z"⟩, 35), (⟨"AnnCupsModel", "waiting", "()I"⟩, 35), (⟨"AnnCupsModel", "waysOf", "(III)J"⟩, 35), (⟨"AnnCupsModel", "plays", "(II)V"⟩, 35), (⟨"AnnCupsModel", "counted", "(I)I"⟩, 35), (⟨"AnnCupsModel", "kindsOf", "(I)I"⟩, 35)]
theorem lw_r4 : ∀ q ∈ lw_privs_4, lw_okq q := List.forall_mem_cons.mpr ⟨lw_p48, List.forall_mem_cons.mpr ⟨lw_p49, List.forall_mem_cons.mpr ⟨lw_p50, List.forall_mem_cons.mpr ⟨lw_p51, List.forall_mem_cons.mpr ⟨lw_p52, List.forall_mem_cons.mpr ⟨lw_p53, List.forall_mem_cons.mpr ⟨lw_p54, List.forall_mem_cons.mpr ⟨lw_p55, List.forall_mem_cons.mpr ⟨lw_p56, List.forall_mem_cons.mpr ⟨lw_p57, List.forall_mem_cons.mpr ⟨lw_p58, List.forall_mem_cons.mpr ⟨lw_p59, List.forall_mem_cons.mpr ⟨lw_p60, List.forall_mem_cons.mpr ⟨lw_p61, List.forall_mem_cons.mpr ⟨lw_p62, List.forall_mem_cons.mpr ⟨lw_p63, fun _ h => absurd h List.not_mem_nil⟩⟩⟩⟩⟩⟩⟩⟩⟩⟩⟩⟩⟩⟩⟩⟩
def lw_privs : List (MethodName × Nat) := lw_privs_1 ++ (lw_privs_2 ++ (lw_privs_3 ++ (lw_privs_4)))
def lw_tbl : List Cond := k2_sels lw_privs ++ tables_1
theorem lw_privs_ok : ∀ q ∈ lw_privs, lw_okq q := by
  show ∀ q ∈ lw_privs_1 ++ (lw_privs_2 ++ (lw_privs_3 ++ (lw_privs_4))), lw_okq q
  exact List.forall_mem_append.mpr ⟨lw_r1, List.forall_mem_append.mpr ⟨lw_r2, List.forall_mem_append.mpr ⟨lw_r3, lw_r4⟩⟩⟩
end
section
def RX0 : String := "AnnCups$Counter"
def TX0 : u_T := fun k => match k with
  | 0 => ("AnnCups$Counter", "cups", "LAnnCups$Cups;", true)
  | 1 => ("AnnCups$Counter", "time", "I", false)
  | 2 => ("AnnCups$Counter", "last", "I", false)
  | 3 => ("AnnCups$Counter", "made", "I", false)
  | 4 => ("AnnCups$Counter", "had", "I", false)
  | 5 => ("AnnCups$Counter", "place", "[I", true)
  | _ => ("AnnCups$Counter", "hand", "[I", true)
def tyX0 : Nat → FieldType := fun k => match k with
  | 0 => .object "AnnCups$Cups"
  | 1 => .int
  | 2 => .int
  | 3 => .int
  | 4 => .int
  | 5 => .array .int
  | _ => .array .int
abbrev wsX00 : List Cond := u_ws RX0 TX0 7
theorem nmX0 : ∀ a, a < 7 → ∀ b, b < 7 → a ≠ b → (TX0 a).2.1 ≠ (TX0 b).2.1 := by decide +kernel
theorem tyX0_ok : ∀ k, k < 7 → parseFieldDescriptor (TX0 k).2.2.1 = some (tyX0 k) := by decide +kernel
abbrev cX0_init : ByteArray := prog_2_method_1_code
def yX0_init : MethodName := ⟨RX0, "<init>", "(LAnnCups$Cups;)V"⟩
abbrev cX0_openAnew : ByteArray := prog_2_method_2_code
def yX0_openAnew : MethodName := ⟨RX0, "openAnew", "()V"⟩
abbrev cX0_become : ByteArray := prog_2_method_3_code
def yX0_become : MethodName := ⟨RX0, "become", "(LAnnCups$Counter;)V"⟩
abbrev cX0_isMade : ByteArray := prog_2_method_4_code
def yX0_isMade : MethodName := ⟨RX0, "isMade", "(I)Z"⟩
abbrev cX0_serve : ByteArray := prog_2_method_5_code
def yX0_serve : MethodName := ⟨RX0, "serve", "(I)V"⟩
abbrev cX0_unserve : ByteArray := prog_2_method_6_code
def yX0_unserve : MethodName := ⟨RX0, "unserve", "(IIII)V"⟩
abbrev cX0_swap : ByteArray := prog_2_method_7_code
def yX0_swap : MethodName := ⟨RX0, "swap", "(II)V"⟩
abbrev cX0_receive : ByteArray := prog_2_method_8_code
def yX0_receive : MethodName := ⟨RX0, "receive", "(II)V"⟩
abbrev cX0_happen : ByteArray := prog_2_method_9_code
def yX0_happen : MethodName := ⟨RX0, "happen", "(III)V"⟩
abbrev cX0_replay : ByteArray := prog_2_method_10_code
def yX0_replay : MethodName := ⟨RX0, "replay", "(LAnnCups$Deeds;)V"⟩
abbrev cX0_standing : ByteArray := prog_2_method_11_code
def yX0_standing : MethodName := ⟨RX0, "standing", "()I"⟩
abbrev cX0_wrongOnes : ByteArray := prog_2_method_12_code
def yX0_wrongOnes : MethodName := ⟨RX0, "wrongOnes", "()I"⟩
abbrev cX0_howManyWrong : ByteArray := prog_2_method_13_code
def yX0_howManyWrong : MethodName := ⟨RX0, "howManyWrong", "()I"⟩
def RX1 : String := "AnnCups$Cups"
def TX1 : u_T := fun k => match k with
  | 0 => ("AnnCups$Cups", "size", "I", false)
  | 1 => ("AnnCups$Cups", "hearing", "I", false)
  | 2 => ("AnnCups$Cups", "there", "I", false)
  | 3 => ("AnnCups$Cups", "kind", "[I", true)
  | 4 => ("AnnCups$Cups", "seconds", "[I", true)
  | 5 => ("AnnCups$Cups", "milk", "[I", true)
  | 6 => ("AnnCups$Cups", "name", "[I", true)
  | 7 => ("AnnCups$Cups", "written", "[I", true)
  | 8 => ("AnnCups$Cups", "heard", "[I", true)
  | 9 => ("AnnCups$Cups", "timeAlone", "[I", true)
  | _ => ("AnnCups$Cups", "timeBehindMilk", "[I", true)
def tyX1 : Nat → FieldType := fun k => match k with
  | 0 => .int
  | 1 => .int
  | 2 => .int
  | 3 => .array .int
  | 4 => .array .int
  | 5 => .array .int
  | 6 => .array .int
  | 7 => .array .int
  | 8 => .array .int
  | 9 => .array .int
  | _ => .array .int
abbrev wsX10 : List Cond := u_ws RX1 TX1 11
theorem nmX1 : ∀ a, a < 11 → ∀ b, b < 11 → a ≠ b → (TX1 a).2.1 ≠ (TX1 b).2.1 := by decide +kernel
theorem tyX1_ok : ∀ k, k < 11 → parseFieldDescriptor (TX1 k).2.2.1 = some (tyX1 k) := by decide +kernel
abbrev cX1_init : ByteArray := prog_3_method_1_code
def yX1_init : MethodName := ⟨RX1, "<init>", "()V"⟩
abbrev cX1_has : ByteArray := prog_3_method_2_code
def yX1_has : MethodName := ⟨RX1, "has", "(I)Z"⟩
abbrev cX1_isThere : ByteArray := prog_3_method_3_code
def yX1_isThere : MethodName := ⟨RX1, "isThere", "(I)Z"⟩
abbrev cX1_everyOne : ByteArray := prog_3_method_4_code
def yX1_everyOne : MethodName := ⟨RX1, "everyOne", "()I"⟩
abbrev cX1_timeBehind : ByteArray := prog_3_method_5_code
def yX1_timeBehind : MethodName := ⟨RX1, "timeBehind", "(II)I"⟩
abbrev cX1_taker : ByteArray := prog_3_method_6_code
def yX1_taker : MethodName := ⟨RX1, "taker", "(II)I"⟩
abbrev cX1_whoHears : ByteArray := prog_3_method_7_code
def yX1_whoHears : MethodName := ⟨RX1, "whoHears", "(II)I"⟩
abbrev cX1_howManyOf : ByteArray := prog_3_method_8_code
def yX1_howManyOf : MethodName := ⟨RX1, "howManyOf", "(I)I"⟩
abbrev cX1_settle : ByteArray := prog_3_method_9_code
def yX1_settle : MethodName := ⟨RX1, "settle", "()V"⟩
abbrev cX1_become : ByteArray := prog_3_method_10_code
def yX1_become : MethodName := ⟨RX1, "become", "(LAnnCups$Cups;)V"⟩
def RX2 : String := "AnnCups$Deeds"
def TX2 : u_T := fun k => match k with
  | 0 => ("AnnCups$Deeds", "size", "I", false)
  | 1 => ("AnnCups$Deeds", "deed", "[I", true)
  | 2 => ("AnnCups$Deeds", "one", "[I", true)
  | _ => ("AnnCups$Deeds", "other", "[I", true)
def tyX2 : Nat → FieldType := fun k => match k with
  | 0 => .int
  | 1 => .array .int
  | 2 => .array .int
  | _ => .array .int
abbrev wsX20 : List Cond := u_ws RX2 TX2 4
theorem nmX2 : ∀ a, a < 4 → ∀ b, b < 4 → a ≠ b → (TX2 a).2.1 ≠ (TX2 b).2.1 := by decide +kernel
theorem tyX2_ok : ∀ k, k < 4 → parseFieldDescriptor (TX2 k).2.2.1 = some (tyX2 k) := by decide +kernel
abbrev cX2_init : ByteArray := prog_4_method_1_code
def yX2_init : MethodName := ⟨RX2, "<init>", "()V"⟩
abbrev cX2_add : ByteArray := prog_4_method_2_code
def yX2_add : MethodName := ⟨RX2, "add", "(III)V"⟩
abbrev cX2_become : ByteArray := prog_4_method_3_code
def yX2_become : MethodName := ⟨RX2, "become", "(LAnnCups$Deeds;)V"⟩
def RX3 : String := "AnnCups$Row"
def TX3 : u_T := fun k => match k with
  | 0 => ("AnnCups$Row", "size", "I", false)
  | _ => ("AnnCups$Row", "places", "[I", true)
def tyX3 : Nat → FieldType := fun k => match k with
  | 0 => .int
  | _ => .array .int
abbrev wsX30 : List Cond := u_ws RX3 TX3 2
theorem nmX3 : ∀ a, a < 2 → ∀ b, b < 2 → a ≠ b → (TX3 a).2.1 ≠ (TX3 b).2.1 := by decide +kernel
theorem tyX3_ok : ∀ k, k < 2 → parseFieldDescriptor (TX3 k).2.2.1 = some (tyX3 k) := by decide +kernel
abbrev cX3_init : ByteArray := prog_5_method_1_code
def yX3_init : MethodName := ⟨RX3, "<init>", "()V"⟩
abbrev cX3_layAnew : ByteArray := prog_5_method_2_code
def yX3_layAnew : MethodName := ⟨RX3, "layAnew", "(I)V"⟩
abbrev cX3_hasPlace : ByteArray := prog_5_method_3_code
def yX3_hasPlace : MethodName := ⟨RX3, "hasPlace", "(I)Z"⟩
abbrev cX3_hasPlaces : ByteArray := prog_5_method_4_code
def yX3_hasPlaces : MethodName := ⟨RX3, "hasPlaces", "(II)Z"⟩
abbrev cX3_mixedInto : ByteArray := prog_5_method_5_code
def yX3_mixedInto : MethodName := ⟨RX3, "mixedInto", "(J)J"⟩
def RX4 : String := "AnnCups$Search"
def TX4 : u_T := fun k => match k with
  | 0 => ("AnnCups$Search", "cups", "LAnnCups$Cups;", true)
  | 1 => ("AnnCups$Search", "path", "[I", true)
  | 2 => ("AnnCups$Search", "best", "[I", true)
  | 3 => ("AnnCups$Search", "bestSize", "I", false)
  | 4 => ("AnnCups$Search", "bestValue", "I", false)
  | 5 => ("AnnCups$Search", "sums", "Z", false)
  | 6 => ("AnnCups$Search", "ceiling", "I", false)
  | _ => ("AnnCups$Search", "hits", "I", false)
def tyX4 : Nat → FieldType := fun k => match k with
  | 0 => .object "AnnCups$Cups"
  | 1 => .array .int
  | 2 => .array .int
  | 3 => .int
  | 4 => .int
  | 5 => .boolean
  | 6 => .int
  | _ => .int
abbrev wsX40 : List Cond := u_ws RX4 TX4 8
theorem nmX4 : ∀ a, a < 8 → ∀ b, b < 8 → a ≠ b → (TX4 a).2.1 ≠ (TX4 b).2.1 := by decide +kernel
theorem tyX4_ok : ∀ k, k < 8 → parseFieldDescriptor (TX4 k).2.2.1 = some (tyX4 k) := by decide +kernel
abbrev cX4_init : ByteArray := prog_6_method_1_code
def yX4_init : MethodName := ⟨RX4, "<init>", "(LAnnCups$Cups;)V"⟩
abbrev cX4_findBest : ByteArray := prog_6_method_2_code
def yX4_findBest : MethodName := ⟨RX4, "findBest", "(LAnnCups$Counter;I)V"⟩
abbrev cX4_howManyWith : ByteArray := prog_6_method_3_code
def yX4_howManyWith : MethodName := ⟨RX4, "howManyWith", "(LAnnCups$Counter;I)I"⟩
abbrev cX4_findMost : ByteArray := prog_6_method_4_code
def yX4_findMost : MethodName := ⟨RX4, "findMost", "(LAnnCups$Counter;I)V"⟩
abbrev cX4_layBest : ByteArray := prog_6_method_5_code
def yX4_layBest : MethodName := ⟨RX4, "layBest", "(LAnnCups$Row;)V"⟩
abbrev cX4_isWhole : ByteArray := prog_6_method_6_code
def yX4_isWhole : MethodName := ⟨RX4, "isWhole", "(II)Z"⟩
abbrev cX4_rememberPath : ByteArray := prog_6_method_7_code
def yX4_rememberPath : MethodName := ⟨RX4, "rememberPath", "(I)V"⟩
abbrev cX4_improve : ByteArray := prog_6_method_8_code
def yX4_improve : MethodName := ⟨RX4, "improve", "(II)V"⟩
abbrev cX4_tryByTime : ByteArray := prog_6_method_9_code
def yX4_tryByTime : MethodName := ⟨RX4, "tryByTime", "(LAnnCups$Search;IIIII)V"⟩
abbrev cX4_tryByWrong : ByteArray := prog_6_method_10_code
def yX4_tryByWrong : MethodName := ⟨RX4, "tryByWrong", "(LAnnCups$Search;IIII)V"⟩
abbrev cX4_countByWrong : ByteArray := prog_6_method_11_code
def yX4_countByWrong : MethodName := ⟨RX4, "countByWrong", "(LAnnCups$Search;IIII)V"⟩
abbrev cX4_tryForMost : ByteArray := prog_6_method_12_code
def yX4_tryForMost : MethodName := ⟨RX4, "tryForMost", "(LAnnCups$Search;IIII)V"⟩
def RX5 : String := "AnnCups$Text"
def TX5 : u_T := fun k => match k with
  | 0 => ("AnnCups$Text", "size", "I", false)
  | _ => ("AnnCups$Text", "bytes", "[B", true)
def tyX5 : Nat → FieldType := fun k => match k with
  | 0 => .int
  | _ => .array .byte
abbrev wsX50 : List Cond := u_ws RX5 TX5 2
theorem nmX5 : ∀ a, a < 2 → ∀ b, b < 2 → a ≠ b → (TX5 a).2.1 ≠ (TX5 b).2.1 := by decide +kernel
theorem tyX5_ok : ∀ k, k < 2 → parseFieldDescriptor (TX5 k).2.2.1 = some (tyX5 k) := by decide +kernel
abbrev cX5_init : ByteArray := prog_7_method_1_code
def yX5_init : MethodName := ⟨RX5, "<init>", "()V"⟩
abbrev cX5_hasByte : ByteArray := prog_7_method_2_code
def yX5_hasByte : MethodName := ⟨RX5, "hasByte", "(I)Z"⟩
abbrev cX5_signAt : ByteArray := prog_7_method_3_code
def yX5_signAt : MethodName := ⟨RX5, "signAt", "(I)I"⟩
abbrev cX5_figureAt : ByteArray := prog_7_method_4_code
def yX5_figureAt : MethodName := ⟨RX5, "figureAt", "(III)I"⟩
abbrev cX5_kindAt : ByteArray := prog_7_method_5_code
def yX5_kindAt : MethodName := ⟨RX5, "kindAt", "(I)I"⟩
abbrev cX5_mixedInto : ByteArray := prog_7_method_6_code
def yX5_mixedInto : MethodName := ⟨RX5, "mixedInto", "(J)J"⟩
def RX6 : String := "AnnCups"
def TX6 : u_T := fun k => match k with
  | 0 => ("AnnCups", "rows", "[LAnnCups$Row;", true)
  | 1 => ("AnnCups", "texts", "[LAnnCups$Text;", true)
  | 2 => ("AnnCups", "cups", "LAnnCups$Cups;", true)
  | 3 => ("AnnCups", "draft", "LAnnCups$Cups;", true)
  | 4 => ("AnnCups", "now", "LAnnCups$Counter;", true)
  | 5 => ("AnnCups", "trial", "LAnnCups$Counter;", true)
  | 6 => ("AnnCups", "search", "LAnnCups$Search;", true)
  | 7 => ("AnnCups", "deeds", "LAnnCups$Deeds;", true)
  | 8 => ("AnnCups", "kept", "[LAnnCups$Deeds;", true)
  | 9 => ("AnnCups", "foundTimes", "[I", true)
  | 10 => ("AnnCups", "latestFinding", "I", false)
  | 11 => ("AnnCups", "told", "I", false)
  | 12 => ("AnnCups", "upperTold", "J", false)
  | _ => ("AnnCups", "lowerTold", "J", false)
def tyX6 : Nat → FieldType := fun k => match k with
  | 0 => .array (.object "AnnCups$Row")
  | 1 => .array (.object "AnnCups$Text")
  | 2 => .object "AnnCups$Cups"
  | 3 => .object "AnnCups$Cups"
  | 4 => .object "AnnCups$Counter"
  | 5 => .object "AnnCups$Counter"
  | 6 => .object "AnnCups$Search"
  | 7 => .object "AnnCups$Deeds"
  | 8 => .array (.object "AnnCups$Deeds")
  | 9 => .array .int
  | 10 => .int
  | 11 => .int
  | 12 => .long
  | _ => .long
abbrev wsX60 : List Cond := u_ws RX6 TX6 14
theorem nmX6 : ∀ a, a < 14 → ∀ b, b < 14 → a ≠ b → (TX6 a).2.1 ≠ (TX6 b).2.1 := by decide +kernel
theorem tyX6_ok : ∀ k, k < 14 → parseFieldDescriptor (TX6 k).2.2.1 = some (tyX6 k) := by decide +kernel
abbrev cX6_init : ByteArray := prog_1_method_1_code
def yX6_init : MethodName := ⟨RX6, "<init>", "()V"⟩
abbrev cX6_row : ByteArray := prog_1_method_2_code
def yX6_row : MethodName := ⟨RX6, "row", "(II)I"⟩
abbrev cX6_lay : ByteArray := prog_1_method_3_code
def yX6_lay : MethodName := ⟨RX6, "lay", "(III)I"⟩
abbrev cX6_at : ByteArray := prog_1_method_4_code
def yX6_at : MethodName := ⟨RX6, "at", "(II)I"⟩
abbrev cX6_tear : ByteArray := prog_1_method_5_code
def yX6_tear : MethodName := ⟨RX6, "tear", "(I)I"⟩
abbrev cX6_copy : ByteArray := prog_1_method_6_code
def yX6_copy : MethodName := ⟨RX6, "copy", "(IIIII)I"⟩
abbrev cX6_mean : ByteArray := prog_1_method_7_code
def yX6_mean : MethodName := ⟨RX6, "mean", "(I)I"⟩
abbrev cX6_text : ByteArray := prog_1_method_8_code
def yX6_text : MethodName := ⟨RX6, "text", "(II)I"⟩
abbrev cX6_put : ByteArray := prog_1_method_9_code
def yX6_put : MethodName := ⟨RX6, "put", "(III)I"⟩
abbrev cX6_fault : ByteArray := prog_1_method_10_code
def yX6_fault : MethodName := ⟨RX6, "fault", "(I)I"⟩
abbrev cX6_bar : ByteArray := prog_1_method_11_code
def yX6_bar : MethodName := ⟨RX6, "bar", "(I)I"⟩
abbrev cX6_cup : ByteArray := prog_1_method_12_code
def yX6_cup : MethodName := ⟨RX6, "cup", "(II)I"⟩
abbrev cX6_mark : ByteArray := prog_1_method_13_code
def yX6_mark : MethodName := ⟨RX6, "mark", "(II)I"⟩
abbrev cX6_holds : ByteArray := prog_1_method_14_code
def yX6_holds : MethodName := ⟨RX6, "holds", "(I)I"⟩
abbrev cX6_make : ByteArray := prog_1_method_15_code
def yX6_make : MethodName := ⟨RX6, "make", "(I)I"⟩
abbrev cX6_change : ByteArray := prog_1_method_16_code
def yX6_change : MethodName := ⟨RX6, "change", "(II)I"⟩
abbrev cX6_toss : ByteArray := prog_1_method_17_code
def yX6_toss : MethodName := ⟨RX6, "toss", "(I)I"⟩
abbrev cX6_undo : ByteArray := prog_1_method_18_code
def yX6_undo : MethodName := ⟨RX6, "undo", "(I)I"⟩
abbrev cX6_keep : ByteArray := prog_1_method_19_code
def yX6_keep : MethodName := ⟨RX6, "keep", "(I)I"⟩
abbrev cX6_on : ByteArray := prog_1_method_20_code
def yX6_on : MethodName := ⟨RX6, "on", "(I)I"⟩
abbrev cX6_least : ByteArray := prog_1_method_21_code
def yX6_least : MethodName := ⟨RX6, "least", "(I)I"⟩
abbrev cX6_latest : ByteArray := prog_1_method_22_code
def yX6_latest : MethodName := ⟨RX6, "latest", "(I)I"⟩
abbrev cX6_fewest : ByteArray := prog_1_method_23_code
def yX6_fewest : MethodName := ⟨RX6, "fewest", "(I)I"⟩
abbrev cX6_orders : ByteArray := prog_1_method_24_code
def yX6_orders : MethodName := ⟨RX6, "orders", "(I)I"⟩
abbrev cX6_makes : ByteArray := prog_1_method_25_code
def yX6_makes : MethodName := ⟨RX6, "makes", "(I)I"⟩
abbrev cX6_done : ByteArray := prog_1_method_26_code
def yX6_done : MethodName := ⟨RX6, "done", "(II)I"⟩
abbrev cX6_wrong : ByteArray := prog_1_method_27_code
def yX6_wrong : MethodName := ⟨RX6, "wrong", "()I"⟩
abbrev cX6_mends : ByteArray := prog_1_method_28_code
def yX6_mends : MethodName := ⟨RX6, "mends", "()I"⟩
abbrev cX6_runs : ByteArray := prog_1_method_29_code
def yX6_runs : MethodName := ⟨RX6, "runs", "(I)I"⟩
abbrev cX6_whose : ByteArray := prog_1_method_30_code
def yX6_whose : MethodName := ⟨RX6, "whose", "(I)I"⟩
abbrev cX6_alike : ByteArray := prog_1_method_31_code
def yX6_alike : MethodName := ⟨RX6, "alike", "()I"⟩
abbrev cX6_give : ByteArray := prog_1_method_32_code
def yX6_give : MethodName := ⟨RX6, "give", "()I"⟩
abbrev cX6_reach : ByteArray := prog_1_method_33_code
def yX6_reach : MethodName := ⟨RX6, "reach", "(I)I"⟩
abbrev cX6_ears : ByteArray := prog_1_method_34_code
def yX6_ears : MethodName := ⟨RX6, "ears", "(I)I"⟩
abbrev cX6_kinds : ByteArray := prog_1_method_35_code
def yX6_kinds : MethodName := ⟨RX6, "kinds", "(III)I"⟩
abbrev cX6_wag : ByteArray := prog_1_method_36_code
def yX6_wag : MethodName := ⟨RX6, "wag", "(I)I"⟩
abbrev cX6_odds : ByteArray := prog_1_method_37_code
def yX6_odds : MethodName := ⟨RX6, "odds", "(II)I"⟩
abbrev cX6_mid : ByteArray := prog_1_method_38_code
def yX6_mid : MethodName := ⟨RX6, "mid", "(I)I"⟩
abbrev cX6_lots : ByteArray := prog_1_method_39_code
def yX6_lots : MethodName := ⟨RX6, "lots", "(II)I"⟩
abbrev cX6_asked : ByteArray := prog_1_method_40_code
def yX6_asked : MethodName := ⟨RX6, "asked", "()I"⟩
abbrev cX6_upper : ByteArray := prog_1_method_41_code
def yX6_upper : MethodName := ⟨RX6, "upper", "()J"⟩
abbrev cX6_lower : ByteArray := prog_1_method_42_code
def yX6_lower : MethodName := ⟨RX6, "lower", "()J"⟩
abbrev cX6_count : ByteArray := prog_1_method_43_code
def yX6_count : MethodName := ⟨RX6, "count", "(I)I"⟩
abbrev cX6_finding : ByteArray := prog_1_method_44_code
def yX6_finding : MethodName := ⟨RX6, "finding", "()I"⟩
abbrev cX6_findings : ByteArray := prog_1_method_45_code
def yX6_findings : MethodName := ⟨RX6, "findings", "(I)I"⟩
abbrev cX6_digest : ByteArray := prog_1_method_46_code
def yX6_digest : MethodName := ⟨RX6, "digest", "()J"⟩
abbrev cX6_found : ByteArray := prog_1_method_47_code
def yX6_found : MethodName := ⟨RX6, "found", "(I)I"⟩
abbrev cX6_rowOf : ByteArray := prog_1_method_48_code
def yX6_rowOf : MethodName := ⟨RX6, "rowOf", "(I)LAnnCups$Row;"⟩
abbrev cX6_textOf : ByteArray := prog_1_method_49_code
def yX6_textOf : MethodName := ⟨RX6, "textOf", "(I)LAnnCups$Text;"⟩
abbrev cX6_keptAt : ByteArray := prog_1_method_50_code
def yX6_keptAt : MethodName := ⟨RX6, "keptAt", "(I)LAnnCups$Deeds;"⟩
abbrev cX6_tellParts : ByteArray := prog_1_method_51_code
def yX6_tellParts : MethodName := ⟨RX6, "tellParts", "(JJ)V"⟩
abbrev cX6_commonDivisor : ByteArray := prog_1_method_52_code
def yX6_commonDivisor : MethodName := ⟨RX6, "commonDivisor", "(JJ)J"⟩
abbrev cX6_power : ByteArray := prog_1_method_53_code
def yX6_power : MethodName := ⟨RX6, "power", "(II)J"⟩
abbrev cX6_areAlike : ByteArray := prog_1_method_54_code
def yX6_areAlike : MethodName := ⟨RX6, "areAlike", "(III)Z"⟩
abbrev cX6_firstOf : ByteArray := prog_1_method_55_code
def yX6_firstOf : MethodName := ⟨RX6, "firstOf", "(I)I"⟩
abbrev cX6_setOf : ByteArray := prog_1_method_56_code
def yX6_setOf : MethodName := ⟨RX6, "setOf", "(I)I"⟩
abbrev cX6_isOf : ByteArray := prog_1_method_57_code
def yX6_isOf : MethodName := ⟨RX6, "isOf", "(II)Z"⟩
abbrev cX6_timeOf : ByteArray := prog_1_method_58_code
def yX6_timeOf : MethodName := ⟨RX6, "timeOf", "(IIZ)I"⟩
abbrev cX6_jugTime : ByteArray := prog_1_method_59_code
def yX6_jugTime : MethodName := ⟨RX6, "jugTime", "(IZ)I"⟩
abbrev cX6_teaTime : ByteArray := prog_1_method_60_code
def yX6_teaTime : MethodName := ⟨RX6, "teaTime", "(I)I"⟩
abbrev cX6_readBar : ByteArray := prog_1_method_61_code
def yX6_readBar : MethodName := ⟨RX6, "readBar", "(LAnnCups$Text;LAnnCups$Cups;)I"⟩
abbrev cX6_afterBlanks : ByteArray := prog_1_method_62_code
def yX6_afterBlanks : MethodName := ⟨RX6, "afterBlanks", "(LAnnCups$Text;I)I"⟩
abbrev cX6_readCup : ByteArray := prog_1_method_63_code
def yX6_readCup : MethodName := ⟨RX6, "readCup", "(LAnnCups$Text;ILAnnCups$Cups;I)I"⟩
abbrev cX6_ofCup : ByteArray := prog_1_method_64_code
def yX6_ofCup : MethodName := ⟨RX6, "ofCup", "(II)I"⟩
abbrev cX6_ofBar : ByteArray := prog_1_method_65_code
def yX6_ofBar : MethodName := ⟨RX6, "ofBar", "(I)I"⟩
abbrev cX6_rowsThere : ByteArray := prog_1_method_66_code
def yX6_rowsThere : MethodName := ⟨RX6, "rowsThere", "()I"⟩
abbrev cX6_textsThere : ByteArray := prog_1_method_67_code
def yX6_textsThere : MethodName := ⟨RX6, "textsThere", "()I"⟩
abbrev cX6_barsKept : ByteArray := prog_1_method_68_code
def yX6_barsKept : MethodName := ⟨RX6, "barsKept", "()I"⟩
abbrev cX6_othersOfItsMilk : ByteArray := prog_1_method_69_code
def yX6_othersOfItsMilk : MethodName := ⟨RX6, "othersOfItsMilk", "(I)I"⟩
abbrev cX6_othersThatTakeLonger : ByteArray := prog_1_method_70_code
def yX6_othersThatTakeLonger : MethodName := ⟨RX6, "othersThatTakeLonger", "(I)I"⟩
abbrev cX6_perform : ByteArray := prog_1_method_71_code
def yX6_perform : MethodName := ⟨RX6, "perform", "(III)V"⟩
abbrev cX6_performLot : ByteArray := prog_1_method_72_code
def yX6_performLot : MethodName := ⟨RX6, "performLot", "(II)V"⟩
abbrev cX6_bestOrder : ByteArray := prog_1_method_73_code
def yX6_bestOrder : MethodName := ⟨RX6, "bestOrder", "(II)I"⟩
abbrev cX6_leadsRing : ByteArray := prog_1_method_74_code
def yX6_leadsRing : MethodName := ⟨RX6, "leadsRing", "(I)Z"⟩
abbrev cX6_tellsWhoTookWhat : ByteArray := prog_1_method_75_code
def yX6_tellsWhoTookWhat : MethodName := ⟨RX6, "tellsWhoTookWhat", "(LAnnCups$Row;)Z"⟩
abbrev cX6_wouldTakeSo : ByteArray := prog_1_method_76_code
def yX6_wouldTakeSo : MethodName := ⟨RX6, "wouldTakeSo", "(LAnnCups$Row;I)Z"⟩
abbrev cX6_barTurn : ByteArray := prog_1_method_77_code
def yX6_barTurn : MethodName := ⟨RX6, "barTurn", "(LAnnCups$Counter;I)I"⟩
abbrev cX6_wagTurn : ByteArray := prog_1_method_78_code
def yX6_wagTurn : MethodName := ⟨RX6, "wagTurn", "(LAnnCups$Counter;I)I"⟩
abbrev cX6_wrongWithout : ByteArray := prog_1_method_79_code
def yX6_wrongWithout : MethodName := ⟨RX6, "wrongWithout", "(I)I"⟩
def RX7 : String := "AnnCupsModel"
def TX7 : u_T := fun k => match k with
  | 0 => ("AnnCupsModel", "rowSizes", "[I", true)
  | 1 => ("AnnCupsModel", "rows", "[I", true)
  | 2 => ("AnnCupsModel", "textSizes", "[I", true)
  | 3 => ("AnnCupsModel", "texts", "[I", true)
  | 4 => ("AnnCupsModel", "cups", "I", false)
  | 5 => ("AnnCupsModel", "ears", "I", false)
  | 6 => ("AnnCupsModel", "kinds", "[I", true)
  | 7 => ("AnnCupsModel", "seconds", "[I", true)
  | 8 => ("AnnCupsModel", "milks", "[I", true)
  | 9 => ("AnnCupsModel", "names", "[I", true)
  | 10 => ("AnnCupsModel", "written", "[I", true)
  | 11 => ("AnnCupsModel", "now", "[I", true)
  | 12 => ("AnnCupsModel", "aside", "[I", true)
  | 13 => ("AnnCupsModel", "deeds", "I", false)
  | 14 => ("AnnCupsModel", "before", "[I", true)
  | 15 => ("AnnCupsModel", "keeps", "[I", true)
  | 16 => ("AnnCupsModel", "kept", "[Z", true)
  | 17 => ("AnnCupsModel", "asked", "I", false)
  | 18 => ("AnnCupsModel", "upper", "J", false)
  | 19 => ("AnnCupsModel", "lower", "J", false)
  | 20 => ("AnnCupsModel", "finding", "I", false)
  | 21 => ("AnnCupsModel", "findings", "[I", true)
  | 22 => ("AnnCupsModel", "here", "I", false)
  | 23 => ("AnnCupsModel", "readEars", "I", false)
  | 24 => ("AnnCupsModel", "readCups", "I", false)
  | 25 => ("AnnCupsModel", "readCup", "[I", true)
  | 26 => ("AnnCupsModel", "figure", "I", false)
  | 27 => ("AnnCupsModel", "order", "[I", true)
  | 28 => ("AnnCupsModel", "best", "[I", true)
  | 29 => ("AnnCupsModel", "many", "I", false)
  | 30 => ("AnnCupsModel", "deep", "[I", true)
  | 31 => ("AnnCupsModel", "tried", "[I", true)
  | 32 => ("AnnCupsModel", "steps", "[I", true)
  | 33 => ("AnnCupsModel", "moves", "[I", true)
  | _ => ("AnnCupsModel", "bests", "[I", true)
def tyX7 : Nat → FieldType := fun k => match k with
  | 0 => .array .int
  | 1 => .array .int
  | 2 => .array .int
  | 3 => .array .int
  | 4 => .int
  | 5 => .int
  | 6 => .array .int
  | 7 => .array .int
  | 8 => .array .int
  | 9 => .array .int
  | 10 => .array .int
  | 11 => .array .int
  | 12 => .array .int
  | 13 => .int
  | 14 => .array .int
  | 15 => .array .int
  | 16 => .array .boolean
  | 17 => .int
  | 18 => .long
  | 19 => .long
  | 20 => .int
  | 21 => .array .int
  | 22 => .int
  | 23 => .int
  | 24 => .int
  | 25 => .array .int
  | 26 => .int
  | 27 => .array .int
  | 28 => .array .int
  | 29 => .int
  | 30 => .array .int
  | 31 => .array .int
  | 32 => .array .int
  | 33 => .array .int
  | _ => .array .int
abbrev wsX70 : List Cond := u_ws RX7 TX7 35
theorem nmX7 : ∀ a, a < 35 → ∀ b, b < 35 → a ≠ b → (TX7 a).2.1 ≠ (TX7 b).2.1 := by decide +kernel
theorem tyX7_ok : ∀ k, k < 35 → parseFieldDescriptor (TX7 k).2.2.1 = some (tyX7 k) := by decide +kernel
abbrev cX7_init : ByteArray := prog_9_method_1_code
def yX7_init : MethodName := ⟨RX7, "<init>", "()V"⟩
abbrev cX7_in : ByteArray := prog_9_method_3_code
def yX7_in : MethodName := ⟨RX7, "in", "(JJJ)Z"⟩
abbrev cX7_has : ByteArray := prog_9_method_4_code
def yX7_has : MethodName := ⟨RX7, "has", "(II)Z"⟩
abbrev cX7_bits : ByteArray := prog_9_method_5_code
def yX7_bits : MethodName := ⟨RX7, "bits", "(I)I"⟩
abbrev cX7_found : ByteArray := prog_9_method_6_code
def yX7_found : MethodName := ⟨RX7, "found", "(I)I"⟩
abbrev cX7_tell : ByteArray := prog_9_method_7_code
def yX7_tell : MethodName := ⟨RX7, "tell", "(I)I"⟩
abbrev cX7_answer : ByteArray := prog_9_method_8_code
def yX7_answer : MethodName := ⟨RX7, "answer", "(II)I"⟩
abbrev cX7_isRow : ByteArray := prog_9_method_9_code
def yX7_isRow : MethodName := ⟨RX7, "isRow", "(I)Z"⟩
abbrev cX7_isText : ByteArray := prog_9_method_10_code
def yX7_isText : MethodName := ⟨RX7, "isText", "(I)Z"⟩
abbrev cX7_row : ByteArray := prog_9_method_11_code
def yX7_row : MethodName := ⟨RX7, "row", "(II)I"⟩
abbrev cX7_lay : ByteArray := prog_9_method_12_code
def yX7_lay : MethodName := ⟨RX7, "lay", "(III)I"⟩
abbrev cX7_at : ByteArray := prog_9_method_13_code
def yX7_at : MethodName := ⟨RX7, "at", "(II)I"⟩
abbrev cX7_tear : ByteArray := prog_9_method_14_code
def yX7_tear : MethodName := ⟨RX7, "tear", "(I)I"⟩
abbrev cX7_copy : ByteArray := prog_9_method_15_code
def yX7_copy : MethodName := ⟨RX7, "copy", "(IIIII)I"⟩
abbrev cX7_mean : ByteArray := prog_9_method_16_code
def yX7_mean : MethodName := ⟨RX7, "mean", "(I)I"⟩
abbrev cX7_text : ByteArray := prog_9_method_17_code
def yX7_text : MethodName := ⟨RX7, "text", "(II)I"⟩
abbrev cX7_put : ByteArray := prog_9_method_18_code
def yX7_put : MethodName := ⟨RX7, "put", "(III)I"⟩
abbrev cX7_byteAt : ByteArray := prog_9_method_19_code
def yX7_byteAt : MethodName := ⟨RX7, "byteAt", "(I)I"⟩
abbrev cX7_blanks : ByteArray := prog_9_method_20_code
def yX7_blanks : MethodName := ⟨RX7, "blanks", "(I)V"⟩
abbrev cX7_kindOf : ByteArray := prog_9_method_21_code
def yX7_kindOf : MethodName := ⟨RX7, "kindOf", "(I)I"⟩
abbrev cX7_takes : ByteArray := prog_9_method_22_code
def yX7_takes : MethodName := ⟨RX7, "takes", "(III)Z"⟩
abbrev cX7_readsEars : ByteArray := prog_9_method_23_code
def yX7_readsEars : MethodName := ⟨RX7, "readsEars", "(I)Z"⟩
abbrev cX7_readsCup : ByteArray := prog_9_method_24_code
def yX7_readsCup : MethodName := ⟨RX7, "readsCup", "(I)Z"⟩
abbrev cX7_faultOf : ByteArray := prog_9_method_25_code
def yX7_faultOf : MethodName := ⟨RX7, "faultOf", "(I)I"⟩
abbrev cX7_fault : ByteArray := prog_9_method_26_code
def yX7_fault : MethodName := ⟨RX7, "fault", "(I)I"⟩
abbrev cX7_begins : ByteArray := prog_9_method_27_code
def yX7_begins : MethodName := ⟨RX7, "begins", "()V"⟩
abbrev cX7_bar : ByteArray := prog_9_method_28_code
def yX7_bar : MethodName := ⟨RX7, "bar", "(I)I"⟩
abbrev cX7_isCup : ByteArray := prog_9_method_29_code
def yX7_isCup : MethodName := ⟨RX7, "isCup", "(I)Z"⟩
abbrev cX7_isThere : ByteArray := prog_9_method_30_code
def yX7_isThere : MethodName := ⟨RX7, "isThere", "(I)Z"⟩
abbrev cX7_takesAs : ByteArray := prog_9_method_31_code
def yX7_takesAs : MethodName := ⟨RX7, "takesAs", "(IIZ)I"⟩
abbrev cX7_takesOf : ByteArray := prog_9_method_32_code
def yX7_takesOf : MethodName := ⟨RX7, "takesOf", "([II)I"⟩
abbrev cX7_abs : ByteArray := prog_9_method_33_code
def yX7_abs : MethodName := ⟨RX7, "abs", "(I)I"⟩
abbrev cX7_whoTakes : ByteArray := prog_9_method_34_code
def yX7_whoTakes : MethodName := ⟨RX7, "whoTakes", "([III)I"⟩
abbrev cX7_makesOn : ByteArray := prog_9_method_35_code
def yX7_makesOn : MethodName := ⟨RX7, "makesOn", "([III)V"⟩
abbrev cX7_isMade : ByteArray := prog_9_method_36_code
def yX7_isMade : MethodName := ⟨RX7, "isMade", "([II)Z"⟩
abbrev cX7_wrongOf : ByteArray := prog_9_method_37_code
def yX7_wrongOf : MethodName := ⟨RX7, "wrongOf", "([I)I"⟩
abbrev cX7_heldBy : ByteArray := prog_9_method_38_code
def yX7_heldBy : MethodName := ⟨RX7, "heldBy", "([II)I"⟩
abbrev cX7_madeOf : ByteArray := prog_9_method_39_code
def yX7_madeOf : MethodName := ⟨RX7, "madeOf", "([I)I"⟩
abbrev cX7_standing : ByteArray := prog_9_method_40_code
def yX7_standing : MethodName := ⟨RX7, "standing", "()I"⟩
abbrev cX7_told : ByteArray := prog_9_method_41_code
def yX7_told : MethodName := ⟨RX7, "told", "(II)I"⟩
abbrev cX7_cup : ByteArray := prog_9_method_42_code
def yX7_cup : MethodName := ⟨RX7, "cup", "(II)I"⟩
abbrev cX7_isOf : ByteArray := prog_9_method_43_code
def yX7_isOf : MethodName := ⟨RX7, "isOf", "(II)Z"⟩
abbrev cX7_whoseOf : ByteArray := prog_9_method_44_code
def yX7_whoseOf : MethodName := ⟨RX7, "whoseOf", "(I)I"⟩
abbrev cX7_others : ByteArray := prog_9_method_45_code
def yX7_others : MethodName := ⟨RX7, "others", "(IZ)I"⟩
abbrev cX7_mark : ByteArray := prog_9_method_46_code
def yX7_mark : MethodName := ⟨RX7, "mark", "(II)I"⟩
abbrev cX7_holds : ByteArray := prog_9_method_47_code
def yX7_holds : MethodName := ⟨RX7, "holds", "(I)I"⟩
abbrev cX7_copies : ByteArray := prog_9_method_48_code
def yX7_copies : MethodName := ⟨RX7, "copies", "([II[III)V"⟩
abbrev cX7_remember : ByteArray := prog_9_method_49_code
def yX7_remember : MethodName := ⟨RX7, "remember", "()V"⟩
abbrev cX7_make : ByteArray := prog_9_method_50_code
def yX7_make : MethodName := ⟨RX7, "make", "(I)I"⟩
abbrev cX7_changes : ByteArray := prog_9_method_51_code
def yX7_changes : MethodName := ⟨RX7, "changes", "([III)V"⟩
abbrev cX7_change : ByteArray := prog_9_method_52_code
def yX7_change : MethodName := ⟨RX7, "change", "(II)I"⟩
abbrev cX7_toss : ByteArray := prog_9_method_53_code
def yX7_toss : MethodName := ⟨RX7, "toss", "(I)I"⟩
abbrev cX7_undo : ByteArray := prog_9_method_54_code
def yX7_undo : MethodName := ⟨RX7, "undo", "(I)I"⟩
abbrev cX7_keep : ByteArray := prog_9_method_55_code
def yX7_keep : MethodName := ⟨RX7, "keep", "(I)I"⟩
abbrev cX7_on : ByteArray := prog_9_method_56_code
def yX7_on : MethodName := ⟨RX7, "on", "(I)I"⟩
abbrev cX7_firstOrder : ByteArray := prog_9_method_57_code
def yX7_firstOrder : MethodName := ⟨RX7, "firstOrder", "()V"⟩
abbrev cX7_exchanges : ByteArray := prog_9_method_58_code
def yX7_exchanges : MethodName := ⟨RX7, "exchanges", "(II)V"⟩
abbrev cX7_nextOrder : ByteArray := prog_9_method_59_code
def yX7_nextOrder : MethodName := ⟨RX7, "nextOrder", "()Z"⟩
abbrev cX7_layAside : ByteArray := prog_9_method_60_code
def yX7_layAside : MethodName := ⟨RX7, "layAside", "()V"⟩
abbrev cX7_worth : ByteArray := prog_9_method_61_code
def yX7_worth : MethodName := ⟨RX7, "worth", "(I)I"⟩
abbrev cX7_bestBy : ByteArray := prog_9_method_62_code
def yX7_bestBy : MethodName := ⟨RX7, "bestBy", "(II)I"⟩
abbrev cX7_least : ByteArray := prog_9_method_63_code
def yX7_least : MethodName := ⟨RX7, "least", "(I)I"⟩
abbrev cX7_latest : ByteArray := prog_9_method_64_code
def yX7_latest : MethodName := ⟨RX7, "latest", "(I)I"⟩
abbrev cX7_fewest : ByteArray := prog_9_method_65_code
def yX7_fewest : MethodName := ⟨RX7, "fewest", "(I)I"⟩
abbrev cX7_fraction : ByteArray := prog_9_method_66_code
def yX7_fraction : MethodName := ⟨RX7, "fraction", "(JJ)I"⟩
abbrev cX7_orders : ByteArray := prog_9_method_67_code
def yX7_orders : MethodName := ⟨RX7, "orders", "(I)I"⟩
abbrev cX7_makes : ByteArray := prog_9_method_68_code
def yX7_makes : MethodName := ⟨RX7, "makes", "(I)I"⟩
abbrev cX7_done : ByteArray := prog_9_method_69_code
def yX7_done : MethodName := ⟨RX7, "done", "(II)I"⟩
abbrev cX7_wrong : ByteArray := prog_9_method_70_code
def yX7_wrong : MethodName := ⟨RX7, "wrong", "()I"⟩
abbrev cX7_mends : ByteArray := prog_9_method_71_code
def yX7_mends : MethodName := ⟨RX7, "mends", "()I"⟩
abbrev cX7_runs : ByteArray := prog_9_method_72_code
def yX7_runs : MethodName := ⟨RX7, "runs", "(I)I"⟩
abbrev cX7_whose : ByteArray := prog_9_method_73_code
def yX7_whose : MethodName := ⟨RX7, "whose", "(I)I"⟩
abbrev cX7_alike : ByteArray := prog_9_method_74_code
def yX7_alike : MethodName := ⟨RX7, "alike", "()I"⟩
abbrev cX7_give : ByteArray := prog_9_method_75_code
def yX7_give : MethodName := ⟨RX7, "give", "()I"⟩
abbrev cX7_reach : ByteArray := prog_9_method_76_code
def yX7_reach : MethodName := ⟨RX7, "reach", "(I)I"⟩
abbrev cX7_arePairs : ByteArray := prog_9_method_77_code
def yX7_arePairs : MethodName := ⟨RX7, "arePairs", "(I)Z"⟩
abbrev cX7_ears : ByteArray := prog_9_method_78_code
def yX7_ears : MethodName := ⟨RX7, "ears", "(I)I"⟩
abbrev cX7_kinds : ByteArray := prog_9_method_79_code
def yX7_kinds : MethodName := ⟨RX7, "kinds", "(III)I"⟩
abbrev cX7_beginsStep : ByteArray := prog_9_method_80_code
def yX7_beginsStep : MethodName := ⟨RX7, "beginsStep", "(I)V"⟩
abbrev cX7_weighs : ByteArray := prog_9_method_81_code
def yX7_weighs : MethodName := ⟨RX7, "weighs", "(II)V"⟩
abbrev cX7_barGoes : ByteArray := prog_9_method_82_code
def yX7_barGoes : MethodName := ⟨RX7, "barGoes", "(I)Z"⟩
abbrev cX7_wagGoes : ByteArray := prog_9_method_83_code
def yX7_wagGoes : MethodName := ⟨RX7, "wagGoes", "(I)Z"⟩
abbrev cX7_wag : ByteArray := prog_9_method_84_code
def yX7_wag : MethodName := ⟨RX7, "wag", "(I)I"⟩
abbrev cX7_waiting : ByteArray := prog_9_method_85_code
def yX7_waiting : MethodName := ⟨RX7, "waiting", "()I"⟩
abbrev cX7_waysOf : ByteArray := prog_9_method_86_code
def yX7_waysOf : MethodName := ⟨RX7, "waysOf", "(III)J"⟩
abbrev cX7_twelves : ByteArray := prog_9_method_87_code
def yX7_twelves : MethodName := ⟨RX7, "twelves", "(I)J"⟩
abbrev cX7_odds : ByteArray := prog_9_method_88_code
def yX7_odds : MethodName := ⟨RX7, "odds", "(II)I"⟩
abbrev cX7_mid : ByteArray := prog_9_method_89_code
def yX7_mid : MethodName := ⟨RX7, "mid", "(I)I"⟩
abbrev cX7_plays : ByteArray := prog_9_method_90_code
def yX7_plays : MethodName := ⟨RX7, "plays", "(II)V"⟩
abbrev cX7_lots : ByteArray := prog_9_method_91_code
def yX7_lots : MethodName := ⟨RX7, "lots", "(II)I"⟩
abbrev cX7_asked : ByteArray := prog_9_method_92_code
def yX7_asked : MethodName := ⟨RX7, "asked", "()I"⟩
abbrev cX7_upper : ByteArray := prog_9_method_93_code
def yX7_upper : MethodName := ⟨RX7, "upper", "()J"⟩
abbrev cX7_lower : ByteArray := prog_9_method_94_code
def yX7_lower : MethodName := ⟨RX7, "lower", "()J"⟩
abbrev cX7_kindsOf : ByteArray := prog_9_method_95_code
def yX7_kindsOf : MethodName := ⟨RX7, "kindsOf", "(I)I"⟩
abbrev cX7_counted : ByteArray := prog_9_method_96_code
def yX7_counted : MethodName := ⟨RX7, "counted", "(I)I"⟩
abbrev cX7_count : ByteArray := prog_9_method_97_code
def yX7_count : MethodName := ⟨RX7, "count", "(I)I"⟩
abbrev cX7_finding : ByteArray := prog_9_method_98_code
def yX7_finding : MethodName := ⟨RX7, "finding", "()I"⟩
abbrev cX7_findings : ByteArray := prog_9_method_99_code
def yX7_findings : MethodName := ⟨RX7, "findings", "(I)I"⟩
abbrev cX7_digest : ByteArray := prog_9_method_100_code
def yX7_digest : MethodName := ⟨RX7, "digest", "()J"⟩
def RJ6 : String := "java/lang/Integer"
def TJ6 : u_T := fun k => match k with
  | _ => ("", "", "", false)
def tyJ6 : Nat → FieldType := fun k => match k with
  | _ => .int
abbrev cJ6_bitCount_0f7a4 : ByteArray := prog_10_method_49_code
def yJ6_bitCount_0f7a4 : MethodName := ⟨RJ6, "bitCount", "(I)I"⟩
def RJ9 : String := "java/lang/Math"
def TJ9 : u_T := fun k => match k with
  | _ => ("", "", "", false)
def tyJ9 : Nat → FieldType := fun k => match k with
  | _ => .int
abbrev cJ9_abs_0f7a4 : ByteArray := prog_11_method_59_code
def yJ9_abs_0f7a4 : MethodName := ⟨RJ9, "abs", "(I)I"⟩
abbrev cJ9_max_7cf53 : ByteArray := prog_11_method_65_code
def yJ9_max_7cf53 : MethodName := ⟨RJ9, "max", "(II)I"⟩
abbrev cJ9_min_7cf53 : ByteArray := prog_11_method_69_code
def yJ9_min_7cf53 : MethodName := ⟨RJ9, "min", "(II)I"⟩
def RJ10 : String := "java/lang/System"
def TJ10 : u_T := fun k => match k with
  | _ => ("", "", "", false)
def tyJ10 : Nat → FieldType := fun k => match k with
  | _ => .int
def RJ7 : String := "java/util/Arrays"
def TJ7 : u_T := fun k => match k with
  | _ => ("", "", "", false)
def tyJ7 : Nat → FieldType := fun k => match k with
  | _ => .int
abbrev cJ7_fill_53178 : ByteArray := prog_13_method_103_code
def yJ7_fill_53178 : MethodName := ⟨RJ7, "fill", "([II)V"⟩
abbrev cJ7_fill_031fb : ByteArray := prog_13_method_109_code
def yJ7_fill_031fb : MethodName := ⟨RJ7, "fill", "([BB)V"⟩
def RL : String := "AnnCupsLaw"
abbrev cL_law : ByteArray := code
def yL_law : MethodName := ⟨RL, "law", "([I)Z"⟩
abbrev vwCl : List vw_C := [(RX0, TX0, 7), (RX1, TX1, 11), (RX2, TX2, 4), (RX3, TX3, 2), (RX4, TX4, 8), (RX5, TX5, 2), (RX6, TX6, 14), (RX7, TX7, 35)]
theorem mx_in {big ws : List Cond} (ps : List Nat) (h : ws = ps.filterMap (fun i => big[i]?)) : ∀ w ∈ ws, w ∈ big := by
  intro w hw
  rw [h] at hw
  obtain ⟨i, -, hi⟩ := List.mem_filterMap.mp hw
  exact List.mem_of_getElem? hi
set_option maxRecDepth 100000 in
theorem mx_in0 : ∀ w ∈ u_ws RX0 TX0 7, w ∈ lw_tbl := mx_in [173, 175, 177, 179, 181, 183, 185] rfl
set_option maxRecDepth 100000 in
theorem mx_in1 : ∀ w ∈ u_ws RX1 TX1 11, w ∈ lw_tbl := mx_in [118, 120, 122, 124, 126, 128, 130, 132, 134, 136, 138] rfl
set_option maxRecDepth 100000 in
theorem mx_in2 : ∀ w ∈ u_ws RX2 TX2 4, w ∈ lw_tbl := mx_in [236, 238, 240, 242] rfl
set_option maxRecDepth 100000 in
theorem mx_in3 : ∀ w ∈ u_ws RX3 TX3 2, w ∈ lw_tbl := mx_in [256, 258] rfl
set_option maxRecDepth 100000 in
theorem mx_in4 : ∀ w ∈ u_ws RX4 TX4 8, w ∈ lw_tbl := mx_in [204, 206, 208, 210, 212, 214, 216, 218] rfl
set_option maxRecDepth 100000 in
theorem mx_in5 : ∀ w ∈ u_ws RX5 TX5 2, w ∈ lw_tbl := mx_in [270, 272] rfl
set_option maxRecDepth 100000 in
theorem mx_in6 : ∀ w ∈ u_ws RX6 TX6 14, w ∈ lw_tbl := mx_in [290, 292, 294, 296, 298, 300, 302, 304, 306, 308, 310, 312, 314, 316] rfl
set_option maxRecDepth 100000 in
theorem mx_in7 : ∀ w ∈ u_ws RX7 TX7 35, w ∈ lw_tbl := mx_in [884, 886, 888, 890, 892, 894, 896, 898, 900, 902, 904, 906, 908, 910, 912, 914, 916, 918, 920, 922, 924, 926, 928, 930, 932, 934, 936, 938, 940, 942, 944, 946, 948, 950, 952] rfl
end
section
abbrev mR : Type := Nat × Nat
abbrev mV : Type := Int32 ⊕ (Int64 ⊕ Option (Nat × Nat))
abbrev mO : Type := Instr × Value
abbrev mI : Type := Nat × MethodName × ByteArray × Nat × Option FieldType × Nat × Bool × List mO × List Nat
def nth {α : Type} : List α → Nat → Option α
  | [], _ => none
  | a :: _, 0 => some a
  | _ :: l, n + 1 => nth l n
/-- 0: AnnCups.Counter.<init>(LAnnCups$Cups;)V -/
def mi_0 : mI := (0, yX0_init, cX0_init, 2, none, 2, false, [(.aload 0, .null), (.pop, .null), (.aload 0, .null), (.iconst 0, .int 6), (.anewarray 8, .null), (.multianewarray 0 5, .null), (.aload 0, .null), (.iconst 0, .int 6), (.anewarray 9, .null), (.multianewarray 0 6, .null), (.aload 0, .null), (.aload 1, .null), (.multianewarray 0 0, .null), (.aload 0, .null), (.invokevirtual 1, .null), (.return_, .null)], [0, 1, 4, 5, 7, 9, 12, 13, 15, 17, 20, 21, 22, 25, 26, 29])
/-- 1: AnnCups.Counter.openAnew()V -/
def mi_1 : mI := (0, yX0_openAnew, cX0_openAnew, 1, none, 1, false, [(.aload 0, .null), (.iconst 0, .int 0), (.multianewarray 0 1, .null), (.aload 0, .null), (.iconst 0, .int (-9)), (.multianewarray 0 2, .null), (.aload 0, .null), (.iconst 0, .int 0), (.multianewarray 0 3, .null), (.aload 0, .null), (.iconst 0, .int 0), (.multianewarray 0 4, .null), (.aload 0, .null), (.invokeinterface 0 5, .null), (.iconst 0, .int (-9)), (.invokestatic 228, .null), (.aload 0, .null), (.invokeinterface 0 6, .null), (.iconst 0, .int (-9)), (.invokestatic 228, .null), (.return_, .null)], [0, 1, 2, 5, 6, 8, 11, 12, 13, 16, 17, 18, 21, 22, 25, 27, 30, 31, 34, 36, 39])
/-- 2: AnnCups.Counter.become(LAnnCups$Counter;)V -/
def mi_2 : mI := (0, yX0_become, cX0_become, 3, none, 2, false, [(.aload 0, .null), (.aload 1, .null), (.invokeinterface 0 1, .null), (.multianewarray 0 1, .null), (.aload 0, .null), (.aload 1, .null), (.invokeinterface 0 2, .null), (.multianewarray 0 2, .null), (.aload 0, .null), (.aload 1, .null), (.invokeinterface 0 3, .null), (.multianewarray 0 3, .null), (.aload 0, .null), (.aload 1, .null), (.invokeinterface 0 4, .null), (.multianewarray 0 4, .null), (.iconst 0, .int 0), (.istore 2, .null), (.iload 2, .null), (.iconst 0, .int 6), (.if_icmp .ge 39, .null), (.aload 0, .null), (.invokeinterface 0 5, .null), (.iload 2, .null), (.aload 1, .null), (.invokeinterface 0 5, .null), (.iload 2, .null), (.iaload, .null), (.iastore, .null), (.aload 0, .null), (.invokeinterface 0 6, .null), (.iload 2, .null), (.aload 1, .null), (.invokeinterface 0 6, .null), (.iload 2, .null), (.iaload, .null), (.iastore, .null), (.iinc 2 0, .int 1), (.goto 18, .null), (.return_, .null)], [0, 1, 2, 5, 8, 9, 10, 13, 16, 17, 18, 21, 24, 25, 26, 29, 32, 33, 34, 35, 37, 40, 41, 44, 45, 46, 49, 50, 51, 52, 53, 56, 57, 58, 61, 62, 63, 64, 67, 70])
/-- 3: AnnCups.Counter.isMade(I)Z -/
def mi_3 : mI := (0, yX0_isMade, cX0_isMade, 2, (some .boolean), 2, false, [(.aload 0, .null), (.invokeinterface 0 3, .null), (.iconst 0, .int 1), (.iload 1, .null), (.ishl, .null), (.iand, .null), (.ifCond .eq 9, .null), (.iconst 0, .int 1), (.goto 10, .null), (.iconst 0, .int 0), (.ireturn, .null)], [0, 1, 4, 5, 6, 7, 8, 11, 12, 15, 16])
/-- 4: AnnCups.Counter.serve(I)V -/
def mi_4 : mI := (0, yX0_serve, cX0_serve, 3, none, 2, false, [(.aload 0, .null), (.invokeinterface 0 0, .null), (.iload 1, .null), (.aload 0, .null), (.invokeinterface 0 4, .null), (.invokevirtual 18, .null), (.istore 2, .null), (.aload 0, .null), (.dup, .null), (.invokeinterface 0 1, .null), (.aload 0, .null), (.invokeinterface 0 0, .null), (.iload 1, .null), (.aload 0, .null), (.invokeinterface 0 2, .null), (.invokevirtual 17, .null), (.iadd, .null), (.multianewarray 0 1, .null), (.aload 0, .null), (.iload 1, .null), (.multianewarray 0 2, .null), (.aload 0, .null), (.dup, .null), (.invokeinterface 0 3, .null), (.iconst 0, .int 1), (.iload 1, .null), (.ishl, .null), (.ior, .null), (.multianewarray 0 3, .null), (.aload 0, .null), (.invokeinterface 0 0, .null), (.iload 2, .null), (.invokevirtual 14, .null), (.ifCond .eq 53, .null), (.aload 0, .null), (.invokeinterface 0 5, .null), (.iload 1, .null), (.iload 2, .null), (.iastore, .null), (.aload 0, .null), (.invokeinterface 0 6, .null), (.iload 2, .null), (.iload 1, .null), (.iastore, .null), (.aload 0, .null), (.dup, .null), (.invokeinterface 0 4, .null), (.iconst 0, .int 1), (.iload 2, .null), (.ishl, .null), (.ior, .null), (.multianewarray 0 4, .null), (.goto 58, .null), (.aload 0, .null), (.invokeinterface 0 5, .null), (.iload 1, .null), (.iconst 0, .int 6), (.iastore, .null), (.return_, .null)], [0, 1, 4, 5, 6, 9, 12, 13, 14, 15, 18, 19, 22, 23, 24, 27, 30, 31, 34, 35, 36, 39, 40, 41, 44, 45, 46, 47, 48, 51, 52, 55, 56, 59, 62, 63, 66, 67, 68, 69, 70, 73, 74, 75, 76, 77, 78, 81, 82, 83, 84, 85, 88, 91, 92, 95, 96, 98, 99])
/-- 5: AnnCups.Counter.unserve(IIII)V -/
def mi_5 : mI := (0, yX0_unserve, cX0_unserve, 6, none, 5, false, [(.aload 0, .null), (.invokeinterface 0 5, .null), (.iload 1, .null), (.iaload, .null), (.istore 5, .null), (.aload 0, .null), (.invokeinterface 0 0, .null), (.iload 5, .null), (.invokevirtual 14, .null), (.ifCond .eq 15, .null), (.aload 0, .null), (.invokeinterface 0 6, .null), (.iload 5, .null), (.iconst 0, .int (-9)), (.iastore, .null), (.aload 0, .null), (.invokeinterface 0 5, .null), (.iload 1, .null), (.iconst 0, .int (-9)), (.iastore, .null), (.aload 0, .null), (.dup, .null), (.invokeinterface 0 3, .null), (.iconst 0, .int 1), (.iload 1, .null), (.ishl, .null), (.iconst 0, .int (-1)), (.ixor, .null), (.iand, .null), (.multianewarray 0 3, .null), (.aload 0, .null), (.iload 2, .null), (.multianewarray 0 1, .null), (.aload 0, .null), (.iload 3, .null), (.multianewarray 0 2, .null), (.aload 0, .null), (.iload 4, .null), (.multianewarray 0 4, .null), (.return_, .null)], [0, 1, 4, 5, 6, 8, 9, 12, 14, 17, 20, 21, 24, 26, 28, 29, 30, 33, 34, 36, 37, 38, 39, 42, 43, 44, 45, 46, 47, 48, 51, 52, 53, 56, 57, 58, 61, 62, 64, 67])
/-- 6: AnnCups.Counter.swap(II)V -/
def mi_6 : mI := (0, yX0_swap, cX0_swap, 5, none, 3, false, [(.aload 0, .null), (.invokeinterface 0 6, .null), (.iload 1, .null), (.iaload, .null), (.istore 3, .null), (.aload 0, .null), (.invokeinterface 0 6, .null), (.iload 2, .null), (.iaload, .null), (.istore 4, .null), (.aload 0, .null), (.iload 1, .null), (.iload 4, .null), (.invokevirtual 7, .null), (.aload 0, .null), (.iload 2, .null), (.iload 3, .null), (.invokevirtual 7, .null), (.return_, .null)], [0, 1, 4, 5, 6, 7, 8, 11, 12, 13, 15, 16, 17, 19, 22, 23, 24, 25, 28])
/-- 7: AnnCups.Counter.receive(II)V -/
def mi_7 : mI := (0, yX0_receive, cX0_receive, 3, none, 3, false, [(.aload 0, .null), (.invokeinterface 0 6, .null), (.iload 1, .null), (.iload 2, .null), (.iastore, .null), (.aload 0, .null), (.invokeinterface 0 0, .null), (.iload 2, .null), (.invokevirtual 14, .null), (.ifCond .eq 23, .null), (.aload 0, .null), (.invokeinterface 0 5, .null), (.iload 2, .null), (.iload 1, .null), (.iastore, .null), (.aload 0, .null), (.dup, .null), (.invokeinterface 0 4, .null), (.iconst 0, .int 1), (.iload 1, .null), (.ishl, .null), (.ior, .null), (.multianewarray 0 4, .null), (.return_, .null)], [0, 1, 4, 5, 6, 7, 8, 11, 12, 15, 18, 19, 22, 23, 24, 25, 26, 27, 30, 31, 32, 33, 34, 37])
/-- 8: AnnCups.Counter.happen(III)V -/
def mi_8 : mI := (0, yX0_happen, cX0_happen, 4, none, 4, false, [(.iload 1, .null), (.iconst 0, .int 1), (.if_icmp .ne 7, .null), (.aload 0, .null), (.iload 2, .null), (.invokevirtual 4, .null), (.goto 23, .null), (.iload 1, .null), (.iconst 0, .int 2), (.if_icmp .ne 15, .null), (.aload 0, .null), (.iload 2, .null), (.iload 3, .null), (.invokevirtual 6, .null), (.goto 23, .null), (.iload 1, .null), (.iconst 0, .int 3), (.if_icmp .ne 23, .null), (.aload 0, .null), (.invokeinterface 0 5, .null), (.iload 2, .null), (.iconst 0, .int 7), (.iastore, .null), (.return_, .null)], [0, 1, 2, 5, 6, 7, 10, 13, 14, 15, 18, 19, 20, 21, 24, 27, 28, 29, 32, 33, 36, 37, 39, 40])
/-- 9: AnnCups.Counter.replay(LAnnCups$Deeds;)V -/
def mi_9 : mI := (0, yX0_replay, cX0_replay, 3, none, 2, false, [(.aload 0, .null), (.invokevirtual 1, .null), (.iconst 0, .int 0), (.istore 2, .null), (.iload 2, .null), (.aload 1, .null), (.invokeinterface 2 0, .null), (.if_icmp .ge 24, .null), (.aload 0, .null), (.aload 1, .null), (.invokeinterface 2 1, .null), (.iload 2, .null), (.iaload, .null), (.aload 1, .null), (.invokeinterface 2 2, .null), (.iload 2, .null), (.iaload, .null), (.aload 1, .null), (.invokeinterface 2 3, .null), (.iload 2, .null), (.iaload, .null), (.invokevirtual 8, .null), (.iinc 2 0, .int 1), (.goto 4, .null), (.return_, .null)], [0, 1, 4, 5, 6, 7, 8, 11, 14, 15, 16, 19, 20, 21, 22, 25, 26, 27, 28, 31, 32, 33, 36, 39, 42])
/-- 10: AnnCups.Counter.standing()I -/
def mi_10 : mI := (0, yX0_standing, cX0_standing, 3, (some .int), 1, false, [(.iconst 0, .int 0), (.istore 1, .null), (.iconst 0, .int 0), (.istore 2, .null), (.iload 2, .null), (.aload 0, .null), (.invokeinterface 0 0, .null), (.invokeinterface 1 0, .null), (.if_icmp .ge 25, .null), (.iload 1, .null), (.aload 0, .null), (.invokeinterface 0 5, .null), (.iload 2, .null), (.iaload, .null), (.iconst 0, .int 6), (.if_icmp .ne 20, .null), (.iconst 0, .int 1), (.iload 2, .null), (.ishl, .null), (.goto 21, .null), (.iconst 0, .int 0), (.ior, .null), (.istore 1, .null), (.iinc 2 0, .int 1), (.goto 4, .null), (.iload 1, .null), (.ireturn, .null)], [0, 1, 2, 3, 4, 5, 6, 9, 12, 15, 16, 17, 20, 21, 22, 24, 27, 28, 29, 30, 33, 34, 35, 36, 39, 42, 43])
/-- 11: AnnCups.Counter.wrongOnes()I -/
def mi_11 : mI := (0, yX0_wrongOnes, cX0_wrongOnes, 3, (some .int), 1, false, [(.iconst 0, .int 0), (.istore 1, .null), (.iconst 0, .int 0), (.istore 2, .null), (.iload 2, .null), (.aload 0, .null), (.invokeinterface 0 0, .null), (.invokeinterface 1 0, .null), (.if_icmp .ge 31, .null), (.iload 1, .null), (.aload 0, .null), (.invokeinterface 0 6, .null), (.iload 2, .null), (.iaload, .null), (.iconst 0, .int (-9)), (.if_icmp .eq 26, .null), (.aload 0, .null), (.invokeinterface 0 6, .null), (.iload 2, .null), (.iaload, .null), (.iload 2, .null), (.if_icmp .eq 26, .null), (.iconst 0, .int 1), (.iload 2, .null), (.ishl, .null), (.goto 27, .null), (.iconst 0, .int 0), (.ior, .null), (.istore 1, .null), (.iinc 2 0, .int 1), (.goto 4, .null), (.iload 1, .null), (.ireturn, .null)], [0, 1, 2, 3, 4, 5, 6, 9, 12, 15, 16, 17, 20, 21, 22, 24, 27, 28, 31, 32, 33, 34, 37, 38, 39, 40, 43, 44, 45, 46, 49, 52, 53])
/-- 12: AnnCups.Counter.howManyWrong()I -/
def mi_12 : mI := (0, yX0_howManyWrong, cX0_howManyWrong, 1, (some .int), 1, false, [(.aload 0, .null), (.invokevirtual 11, .null), (.invokestatic 227, .null), (.ireturn, .null)], [0, 1, 4, 7])
/-- 13: AnnCups.Cups.<init>()V -/
def mi_13 : mI := (1, yX1_init, cX1_init, 1, none, 1, false, [(.aload 0, .null), (.pop, .null), (.aload 0, .null), (.iconst 0, .int 6), (.anewarray 10, .null), (.multianewarray 1 3, .null), (.aload 0, .null), (.iconst 0, .int 6), (.anewarray 11, .null), (.multianewarray 1 4, .null), (.aload 0, .null), (.iconst 0, .int 6), (.anewarray 12, .null), (.multianewarray 1 5, .null), (.aload 0, .null), (.iconst 0, .int 6), (.anewarray 13, .null), (.multianewarray 1 6, .null), (.aload 0, .null), (.iconst 0, .int 6), (.anewarray 14, .null), (.multianewarray 1 7, .null), (.aload 0, .null), (.iconst 0, .int 6), (.anewarray 15, .null), (.multianewarray 1 8, .null), (.aload 0, .null), (.iconst 0, .int 6), (.anewarray 16, .null), (.multianewarray 1 9, .null), (.aload 0, .null), (.iconst 0, .int 6), (.anewarray 17, .null), (.multianewarray 1 10, .null), (.return_, .null)], [0, 1, 4, 5, 7, 9, 12, 13, 15, 17, 20, 21, 23, 25, 28, 29, 31, 33, 36, 37, 39, 41, 44, 45, 47, 49, 52, 53, 55, 57, 60, 61, 63, 65, 68])
/-- 14: AnnCups.Cups.has(I)Z -/
def mi_14 : mI := (1, yX1_has, cX1_has, 2, (some .boolean), 2, false, [(.iload 1, .null), (.ifCond .lt 8, .null), (.iload 1, .null), (.aload 0, .null), (.invokeinterface 1 0, .null), (.if_icmp .ge 8, .null), (.iconst 0, .int 1), (.goto 9, .null), (.iconst 0, .int 0), (.ireturn, .null)], [0, 1, 4, 5, 6, 9, 12, 13, 16, 17])
/-- 15: AnnCups.Cups.isThere(I)Z -/
def mi_15 : mI := (1, yX1_isThere, cX1_isThere, 2, (some .boolean), 2, false, [(.aload 0, .null), (.invokeinterface 1 2, .null), (.iconst 0, .int 1), (.iload 1, .null), (.ishl, .null), (.iand, .null), (.ifCond .eq 9, .null), (.iconst 0, .int 1), (.goto 10, .null), (.iconst 0, .int 0), (.ireturn, .null)], [0, 1, 4, 5, 6, 7, 8, 11, 12, 15, 16])
/-- 16: AnnCups.Cups.everyOne()I -/
def mi_16 : mI := (1, yX1_everyOne, cX1_everyOne, 1, (some .int), 1, false, [(.iconst 0, .int 1), (.aload 0, .null), (.invokeinterface 1 0, .null), (.ishl, .null), (.iconst 0, .int 1), (.isub, .null), (.ireturn, .null)], [0, 1, 2, 5, 6, 7, 8])
/-- 17: AnnCups.Cups.timeBehind(II)I -/
def mi_17 : mI := (1, yX1_timeBehind, cX1_timeBehind, 4, (some .int), 3, false, [(.aload 0, .null), (.iload 2, .null), (.invokevirtual 14, .null), (.ifCond .eq 15, .null), (.aload 0, .null), (.invokeinterface 1 5, .null), (.iload 2, .null), (.iaload, .null), (.aload 0, .null), (.invokeinterface 1 5, .null), (.iload 1, .null), (.iaload, .null), (.if_icmp .ne 15, .null), (.iconst 0, .int 1), (.goto 16, .null), (.iconst 0, .int 0), (.istore 3, .null), (.iload 3, .null), (.ifCond .eq 24, .null), (.aload 0, .null), (.invokeinterface 1 10, .null), (.iload 1, .null), (.iaload, .null), (.goto 28, .null), (.aload 0, .null), (.invokeinterface 1 9, .null), (.iload 1, .null), (.iaload, .null), (.ireturn, .null)], [0, 1, 2, 5, 8, 9, 12, 13, 14, 15, 18, 19, 20, 23, 24, 27, 28, 29, 30, 33, 34, 37, 38, 39, 42, 43, 46, 47, 48])
/-- 18: AnnCups.Cups.taker(II)I -/
def mi_18 : mI := (1, yX1_taker, cX1_taker, 3, (some .int), 3, false, [(.aload 0, .null), (.invokeinterface 1 8, .null), (.iload 1, .null), (.iaload, .null), (.iload 2, .null), (.iconst 0, .int (-1)), (.ixor, .null), (.iand, .null), (.invokestatic 103, .null), (.ireturn, .null)], [0, 1, 4, 5, 6, 7, 8, 9, 10, 13])
/-- 19: AnnCups.Cups.whoHears(II)I -/
def mi_19 : mI := (1, yX1_whoHears, cX1_whoHears, 5, (some .int), 3, false, [(.iconst 0, .int 0), (.istore 3, .null), (.iconst 0, .int 0), (.istore 4, .null), (.iload 4, .null), (.aload 0, .null), (.invokeinterface 1 0, .null), (.if_icmp .ge 28, .null), (.aload 0, .null), (.iload 4, .null), (.invokevirtual 15, .null), (.ifCond .eq 26, .null), (.aload 0, .null), (.invokeinterface 1 6, .null), (.iload 4, .null), (.iaload, .null), (.iload 1, .null), (.iload 2, .null), (.invokestatic 102, .null), (.ifCond .eq 26, .null), (.iload 3, .null), (.iconst 0, .int 1), (.iload 4, .null), (.ishl, .null), (.ior, .null), (.istore 3, .null), (.iinc 4 0, .int 1), (.goto 4, .null), (.iload 3, .null), (.ireturn, .null)], [0, 1, 2, 3, 5, 7, 8, 11, 14, 15, 17, 20, 23, 24, 27, 29, 30, 31, 32, 35, 38, 39, 40, 42, 43, 44, 45, 48, 51, 52])
/-- 20: AnnCups.Cups.howManyOf(I)I -/
def mi_20 : mI := (1, yX1_howManyOf, cX1_howManyOf, 4, (some .int), 2, false, [(.iconst 0, .int 0), (.istore 2, .null), (.iconst 0, .int 0), (.istore 3, .null), (.iload 3, .null), (.aload 0, .null), (.invokeinterface 1 0, .null), (.if_icmp .ge 23, .null), (.iload 2, .null), (.aload 0, .null), (.invokeinterface 1 3, .null), (.iload 3, .null), (.iaload, .null), (.iload 1, .null), (.invokestatic 105, .null), (.ifCond .eq 18, .null), (.iconst 0, .int 1), (.goto 19, .null), (.iconst 0, .int 0), (.iadd, .null), (.istore 2, .null), (.iinc 3 0, .int 1), (.goto 4, .null), (.iload 2, .null), (.ireturn, .null)], [0, 1, 2, 3, 4, 5, 6, 9, 12, 13, 14, 17, 18, 19, 20, 23, 26, 27, 30, 31, 32, 33, 36, 39, 40])
/-- 21: AnnCups.Cups.settle()V -/
def mi_21 : mI := (1, yX1_settle, cX1_settle, 2, none, 1, false, [(.aload 0, .null), (.iconst 0, .int 0), (.multianewarray 1 2, .null), (.iconst 0, .int 0), (.istore 1, .null), (.iload 1, .null), (.aload 0, .null), (.invokeinterface 1 0, .null), (.if_icmp .ge 27, .null), (.aload 0, .null), (.dup, .null), (.invokeinterface 1 2, .null), (.aload 0, .null), (.invokeinterface 1 3, .null), (.iload 1, .null), (.iaload, .null), (.iconst 0, .int 3), (.if_icmp .ne 20, .null), (.iconst 0, .int 0), (.goto 23, .null), (.iconst 0, .int 1), (.iload 1, .null), (.ishl, .null), (.ior, .null), (.multianewarray 1 2, .null), (.iinc 1 0, .int 1), (.goto 5, .null), (.iconst 0, .int 0), (.istore 1, .null), (.iload 1, .null), (.aload 0, .null), (.invokeinterface 1 0, .null), (.if_icmp .ge 75, .null), (.aload 0, .null), (.invokeinterface 1 8, .null), (.iload 1, .null), (.aload 0, .null), (.aload 0, .null), (.invokeinterface 1 7, .null), (.iload 1, .null), (.iaload, .null), (.aload 0, .null), (.invokeinterface 1 1, .null), (.invokevirtual 19, .null), (.iastore, .null), (.aload 0, .null), (.invokeinterface 1 9, .null), (.iload 1, .null), (.aload 0, .null), (.invokeinterface 1 3, .null), (.iload 1, .null), (.iaload, .null), (.aload 0, .null), (.invokeinterface 1 4, .null), (.iload 1, .null), (.iaload, .null), (.iconst 0, .int 0), (.invokestatic 106, .null), (.iastore, .null), (.aload 0, .null), (.invokeinterface 1 10, .null), (.iload 1, .null), (.aload 0, .null), (.invokeinterface 1 3, .null), (.iload 1, .null), (.iaload, .null), (.aload 0, .null), (.invokeinterface 1 4, .null), (.iload 1, .null), (.iaload, .null), (.iconst 0, .int 1), (.invokestatic 106, .null), (.iastore, .null), (.iinc 1 0, .int 1), (.goto 29, .null), (.return_, .null)], [0, 1, 2, 5, 6, 7, 8, 9, 12, 15, 16, 17, 20, 21, 24, 25, 26, 27, 30, 31, 34, 35, 36, 37, 38, 41, 44, 47, 48, 49, 50, 51, 54, 57, 58, 61, 62, 63, 64, 67, 68, 69, 70, 73, 76, 77, 78, 81, 82, 83, 86, 87, 88, 89, 92, 93, 94, 95, 98, 99, 100, 103, 104, 105, 108, 109, 110, 111, 114, 115, 116, 117, 120, 121, 124, 127])
/-- 22: AnnCups.Cups.become(LAnnCups$Cups;)V -/
def mi_22 : mI := (1, yX1_become, cX1_become, 3, none, 2, false, [(.aload 0, .null), (.aload 1, .null), (.invokeinterface 1 0, .null), (.multianewarray 1 0, .null), (.aload 0, .null), (.aload 1, .null), (.invokeinterface 1 1, .null), (.multianewarray 1 1, .null), (.iconst 0, .int 0), (.istore 2, .null), (.iload 2, .null), (.iconst 0, .int 6), (.if_icmp .ge 55, .null), (.aload 0, .null), (.invokeinterface 1 3, .null), (.iload 2, .null), (.aload 1, .null), (.invokeinterface 1 3, .null), (.iload 2, .null), (.iaload, .null), (.iastore, .null), (.aload 0, .null), (.invokeinterface 1 4, .null), (.iload 2, .null), (.aload 1, .null), (.invokeinterface 1 4, .null), (.iload 2, .null), (.iaload, .null), (.iastore, .null), (.aload 0, .null), (.invokeinterface 1 5, .null), (.iload 2, .null), (.aload 1, .null), (.invokeinterface 1 5, .null), (.iload 2, .null), (.iaload, .null), (.iastore, .null), (.aload 0, .null), (.invokeinterface 1 6, .null), (.iload 2, .null), (.aload 1, .null), (.invokeinterface 1 6, .null), (.iload 2, .null), (.iaload, .null), (.iastore, .null), (.aload 0, .null), (.invokeinterface 1 7, .null), (.iload 2, .null), (.aload 1, .null), (.invokeinterface 1 7, .null), (.iload 2, .null), (.iaload, .null), (.iastore, .null), (.iinc 2 0, .int 1), (.goto 10, .null), (.aload 0, .null), (.invokevirtual 21, .null), (.return_, .null)], [0, 1, 2, 5, 8, 9, 10, 13, 16, 17, 18, 19, 21, 24, 25, 28, 29, 30, 33, 34, 35, 36, 37, 40, 41, 42, 45, 46, 47, 48, 49, 52, 53, 54, 57, 58, 59, 60, 61, 64, 65, 66, 69, 70, 71, 72, 73, 76, 77, 78, 81, 82, 83, 84, 87, 90, 91, 94])
/-- 23: AnnCups.Deeds.<init>()V -/
def mi_23 : mI := (2, yX2_init, cX2_init, 1, none, 1, false, [(.aload 0, .null), (.pop, .null), (.aload 0, .null), (.iconst 0, .int 40), (.anewarray 18, .null), (.multianewarray 2 1, .null), (.aload 0, .null), (.iconst 0, .int 40), (.anewarray 19, .null), (.multianewarray 2 2, .null), (.aload 0, .null), (.iconst 0, .int 40), (.anewarray 20, .null), (.multianewarray 2 3, .null), (.return_, .null)], [0, 1, 4, 5, 7, 9, 12, 13, 15, 17, 20, 21, 23, 25, 28])
/-- 24: AnnCups.Deeds.add(III)V -/
def mi_24 : mI := (2, yX2_add, cX2_add, 4, none, 4, false, [(.aload 0, .null), (.invokeinterface 2 0, .null), (.ifCond .lt 31, .null), (.aload 0, .null), (.invokeinterface 2 0, .null), (.iconst 0, .int 40), (.if_icmp .ge 31, .null), (.aload 0, .null), (.invokeinterface 2 1, .null), (.aload 0, .null), (.invokeinterface 2 0, .null), (.iload 1, .null), (.iastore, .null), (.aload 0, .null), (.invokeinterface 2 2, .null), (.aload 0, .null), (.invokeinterface 2 0, .null), (.iload 2, .null), (.iastore, .null), (.aload 0, .null), (.invokeinterface 2 3, .null), (.aload 0, .null), (.invokeinterface 2 0, .null), (.iload 3, .null), (.iastore, .null), (.aload 0, .null), (.dup, .null), (.invokeinterface 2 0, .null), (.iconst 0, .int 1), (.iadd, .null), (.multianewarray 2 0, .null), (.return_, .null)], [0, 1, 4, 7, 8, 11, 13, 16, 17, 20, 21, 24, 25, 26, 27, 30, 31, 34, 35, 36, 37, 40, 41, 44, 45, 46, 47, 48, 51, 52, 53, 56])
/-- 25: AnnCups.Deeds.become(LAnnCups$Deeds;)V -/
def mi_25 : mI := (2, yX2_become, cX2_become, 3, none, 2, false, [(.aload 0, .null), (.aload 1, .null), (.invokeinterface 2 0, .null), (.multianewarray 2 0, .null), (.iconst 0, .int 0), (.istore 2, .null), (.iload 2, .null), (.aload 0, .null), (.invokeinterface 2 0, .null), (.if_icmp .ge 36, .null), (.aload 0, .null), (.invokeinterface 2 1, .null), (.iload 2, .null), (.aload 1, .null), (.invokeinterface 2 1, .null), (.iload 2, .null), (.iaload, .null), (.iastore, .null), (.aload 0, .null), (.invokeinterface 2 2, .null), (.iload 2, .null), (.aload 1, .null), (.invokeinterface 2 2, .null), (.iload 2, .null), (.iaload, .null), (.iastore, .null), (.aload 0, .null), (.invokeinterface 2 3, .null), (.iload 2, .null), (.aload 1, .null), (.invokeinterface 2 3, .null), (.iload 2, .null), (.iaload, .null), (.iastore, .null), (.iinc 2 0, .int 1), (.goto 6, .null), (.return_, .null)], [0, 1, 2, 5, 8, 9, 10, 11, 12, 15, 18, 19, 22, 23, 24, 27, 28, 29, 30, 31, 34, 35, 36, 39, 40, 41, 42, 43, 46, 47, 48, 51, 52, 53, 54, 57, 60])
/-- 26: AnnCups.Row.<init>()V -/
def mi_26 : mI := (3, yX3_init, cX3_init, 1, none, 1, false, [(.aload 0, .null), (.pop, .null), (.aload 0, .null), (.iconst 0, .int (-1)), (.multianewarray 3 0, .null), (.aload 0, .null), (.iconst 0, .int 40), (.anewarray 21, .null), (.multianewarray 3 1, .null), (.return_, .null)], [0, 1, 4, 5, 6, 9, 10, 12, 14, 17])
/-- 27: AnnCups.Row.layAnew(I)V -/
def mi_27 : mI := (3, yX3_layAnew, cX3_layAnew, 2, none, 2, false, [(.aload 0, .null), (.iload 1, .null), (.multianewarray 3 0, .null), (.aload 0, .null), (.invokeinterface 3 1, .null), (.iconst 0, .int 0), (.invokestatic 228, .null), (.return_, .null)], [0, 1, 2, 5, 6, 9, 10, 13])
/-- 28: AnnCups.Row.hasPlace(I)Z -/
def mi_28 : mI := (3, yX3_hasPlace, cX3_hasPlace, 2, (some .boolean), 2, false, [(.iload 1, .null), (.ifCond .lt 8, .null), (.iload 1, .null), (.aload 0, .null), (.invokeinterface 3 0, .null), (.if_icmp .ge 8, .null), (.iconst 0, .int 1), (.goto 9, .null), (.iconst 0, .int 0), (.ireturn, .null)], [0, 1, 4, 5, 6, 9, 12, 13, 16, 17])
/-- 29: AnnCups.Row.hasPlaces(II)Z -/
def mi_29 : mI := (3, yX3_hasPlaces, cX3_hasPlaces, 3, (some .boolean), 3, false, [(.iload 1, .null), (.ifCond .lt 14, .null), (.iload 1, .null), (.aload 0, .null), (.invokeinterface 3 0, .null), (.if_icmp .gt 14, .null), (.iload 2, .null), (.aload 0, .null), (.invokeinterface 3 0, .null), (.iload 1, .null), (.isub, .null), (.if_icmp .gt 14, .null), (.iconst 0, .int 1), (.goto 15, .null), (.iconst 0, .int 0), (.ireturn, .null)], [0, 1, 4, 5, 6, 9, 12, 13, 14, 17, 18, 19, 22, 23, 26, 27])
/-- 30: AnnCups.Row.mixedInto(J)J -/
def mi_30 : mI := (3, yX3_mixedInto, cX3_mixedInto, 6, (some .long), 2, false, [(.lconst 0, .long 31), (.lload 1, .null), (.lmul, .null), (.aload 0, .null), (.invokeinterface 3 0, .null), (.i2l, .null), (.ladd, .null), (.lstore 3, .null), (.iconst 0, .int 0), (.istore 5, .null), (.iload 5, .null), (.aload 0, .null), (.invokeinterface 3 0, .null), (.if_icmp .ge 26, .null), (.lconst 0, .long 31), (.lload 3, .null), (.lmul, .null), (.aload 0, .null), (.invokeinterface 3 1, .null), (.iload 5, .null), (.iaload, .null), (.i2l, .null), (.ladd, .null), (.lstore 3, .null), (.iinc 5 0, .int 1), (.goto 10, .null), (.lload 3, .null), (.lreturn, .null)], [0, 3, 4, 5, 6, 9, 10, 11, 12, 13, 15, 17, 18, 21, 24, 27, 28, 29, 30, 33, 35, 36, 37, 38, 39, 42, 45, 46])
/-- 31: AnnCups.Search.<init>(LAnnCups$Cups;)V -/
def mi_31 : mI := (4, yX4_init, cX4_init, 2, none, 2, false, [(.aload 0, .null), (.pop, .null), (.aload 0, .null), (.iconst 0, .int 6), (.anewarray 22, .null), (.multianewarray 4 1, .null), (.aload 0, .null), (.iconst 0, .int 6), (.anewarray 23, .null), (.multianewarray 4 2, .null), (.aload 0, .null), (.aload 1, .null), (.multianewarray 4 0, .null), (.return_, .null)], [0, 1, 4, 5, 7, 9, 12, 13, 15, 17, 20, 21, 22, 25])
/-- 32: AnnCups.Search.findBest(LAnnCups$Counter;I)V -/
def mi_32 : mI := (4, yX4_findBest, cX4_findBest, 3, none, 3, false, [(.aload 0, .null), (.iconst 0, .int 0), (.multianewarray 4 3, .null), (.aload 0, .null), (.iconst 0, .int 0), (.multianewarray 4 4, .null), (.aload 0, .null), (.iconst 0, .int 2147483647), (.multianewarray 4 6, .null), (.aload 0, .null), (.iload 2, .null), (.ifCond .ne 14, .null), (.iconst 0, .int 1), (.goto 15, .null), (.iconst 0, .int 0), (.multianewarray 4 5, .null), (.iload 2, .null), (.iconst 0, .int 2), (.if_icmp .ne 29, .null), (.aload 0, .null), (.iconst 0, .int 0), (.aload 1, .null), (.invokeinterface 0 3, .null), (.aload 1, .null), (.invokeinterface 0 4, .null), (.aload 1, .null), (.invokevirtual 12, .null), (.invokestatic 40, .null), (.goto 45, .null), (.aload 0, .null), (.iconst 0, .int 0), (.aload 1, .null), (.invokeinterface 0 3, .null), (.aload 1, .null), (.invokeinterface 0 1, .null), (.aload 1, .null), (.invokeinterface 0 2, .null), (.aload 0, .null), (.invokeinterface 4 5, .null), (.ifCond .eq 42, .null), (.iconst 0, .int 0), (.goto 44, .null), (.aload 1, .null), (.invokeinterface 0 1, .null), (.invokestatic 39, .null), (.return_, .null)], [0, 1, 2, 5, 6, 7, 10, 11, 13, 16, 17, 18, 21, 22, 25, 26, 29, 30, 31, 34, 35, 36, 37, 40, 41, 44, 45, 48, 51, 54, 55, 56, 57, 60, 61, 64, 65, 68, 69, 72, 75, 76, 79, 80, 83, 86])
/-- 33: AnnCups.Search.howManyWith(LAnnCups$Counter;I)I -/
def mi_33 : mI := (4, yX4_howManyWith, cX4_howManyWith, 3, (some .int), 3, false, [(.aload 0, .null), (.iconst 0, .int 0), (.multianewarray 4 7, .null), (.aload 0, .null), (.iconst 0, .int 0), (.aload 1, .null), (.invokeinterface 0 3, .null), (.aload 1, .null), (.invokeinterface 0 4, .null), (.iload 2, .null), (.aload 1, .null), (.invokevirtual 12, .null), (.isub, .null), (.invokestatic 41, .null), (.aload 0, .null), (.invokeinterface 4 7, .null), (.ireturn, .null)], [0, 1, 2, 5, 6, 7, 8, 11, 12, 15, 16, 17, 20, 21, 24, 25, 28])
/-- 34: AnnCups.Search.findMost(LAnnCups$Counter;I)V -/
def mi_34 : mI := (4, yX4_findMost, cX4_findMost, 3, none, 3, false, [(.aload 0, .null), (.iconst 0, .int 0), (.multianewarray 4 3, .null), (.aload 0, .null), (.iload 2, .null), (.multianewarray 4 6, .null), (.aload 0, .null), (.iconst 0, .int 0), (.aload 1, .null), (.invokeinterface 0 3, .null), (.aload 1, .null), (.invokeinterface 0 1, .null), (.aload 1, .null), (.invokeinterface 0 2, .null), (.invokestatic 42, .null), (.return_, .null)], [0, 1, 2, 5, 6, 7, 10, 11, 12, 13, 16, 17, 20, 21, 24, 27])
/-- 35: AnnCups.Search.layBest(LAnnCups$Row;)V -/
def mi_35 : mI := (4, yX4_layBest, cX4_layBest, 3, none, 2, false, [(.aload 1, .null), (.aload 0, .null), (.invokeinterface 4 3, .null), (.invokevirtual 27, .null), (.iconst 0, .int 0), (.istore 2, .null), (.iload 2, .null), (.aload 0, .null), (.invokeinterface 4 3, .null), (.if_icmp .ge 20, .null), (.aload 1, .null), (.invokeinterface 3 1, .null), (.iload 2, .null), (.aload 0, .null), (.invokeinterface 4 2, .null), (.iload 2, .null), (.iaload, .null), (.iastore, .null), (.iinc 2 0, .int 1), (.goto 6, .null), (.return_, .null)], [0, 1, 2, 5, 8, 9, 10, 11, 12, 15, 18, 19, 22, 23, 24, 27, 28, 29, 30, 33, 36])
/-- 36: AnnCups.Search.isWhole(II)Z -/
def mi_36 : mI := (4, yX4_isWhole, cX4_isWhole, 3, (some .boolean), 3, false, [(.iload 1, .null), (.iconst 0, .int 6), (.if_icmp .ge 8, .null), (.iload 2, .null), (.aload 0, .null), (.invokeinterface 4 0, .null), (.invokevirtual 16, .null), (.if_icmp .ne 10, .null), (.iconst 0, .int 1), (.goto 11, .null), (.iconst 0, .int 0), (.ireturn, .null)], [0, 1, 3, 6, 7, 8, 11, 14, 17, 18, 21, 22])
/-- 37: AnnCups.Search.rememberPath(I)V -/
def mi_37 : mI := (4, yX4_rememberPath, cX4_rememberPath, 3, none, 2, false, [(.aload 0, .null), (.iload 1, .null), (.multianewarray 4 3, .null), (.iconst 0, .int 0), (.istore 2, .null), (.iload 2, .null), (.iload 1, .null), (.if_icmp .ge 18, .null), (.aload 0, .null), (.invokeinterface 4 2, .null), (.iload 2, .null), (.aload 0, .null), (.invokeinterface 4 1, .null), (.iload 2, .null), (.iaload, .null), (.iastore, .null), (.iinc 2 0, .int 1), (.goto 5, .null), (.return_, .null)], [0, 1, 2, 5, 6, 7, 8, 9, 12, 13, 16, 17, 18, 21, 22, 23, 24, 27, 30])
/-- 38: AnnCups.Search.improve(II)V -/
def mi_38 : mI := (4, yX4_improve, cX4_improve, 3, none, 3, false, [(.aload 0, .null), (.iload 2, .null), (.multianewarray 4 4, .null), (.aload 0, .null), (.iload 2, .null), (.iconst 0, .int 1), (.isub, .null), (.multianewarray 4 6, .null), (.aload 0, .null), (.iload 1, .null), (.invokevirtual 37, .null), (.return_, .null)], [0, 1, 2, 5, 6, 7, 8, 9, 12, 13, 14, 17])
/-- 39: AnnCups.Search.tryByTime(LAnnCups$Search;IIIII)V -/
def mi_39 : mI := (4, yX4_tryByTime, cX4_tryByTime, 9, none, 6, true, [(.iload 5, .null), (.aload 0, .null), (.invokeinterface 4 6, .null), (.if_icmp .le 5, .null), (.return_, .null), (.aload 0, .null), (.iload 1, .null), (.iload 2, .null), (.invokevirtual 36, .null), (.ifCond .eq 15, .null), (.aload 0, .null), (.iload 1, .null), (.iload 5, .null), (.invokevirtual 38, .null), (.return_, .null), (.iconst 0, .int 0), (.istore 6, .null), (.iload 6, .null), (.aload 0, .null), (.invokeinterface 4 0, .null), (.invokeinterface 1 0, .null), (.if_icmp .ge 72, .null), (.iload 2, .null), (.iconst 0, .int 1), (.iload 6, .null), (.ishl, .null), (.iand, .null), (.ifCond .ne 70, .null), (.iload 3, .null), (.aload 0, .null), (.invokeinterface 4 0, .null), (.iload 6, .null), (.iload 4, .null), (.invokevirtual 17, .null), (.iadd, .null), (.istore 7, .null), (.aload 0, .null), (.invokeinterface 4 5, .null), (.ifCond .eq 43, .null), (.iload 5, .null), (.iload 7, .null), (.iadd, .null), (.goto 44, .null), (.iload 7, .null), (.istore 8, .null), (.aload 0, .null), (.invokeinterface 4 1, .null), (.iload 1, .null), (.iload 6, .null), (.iastore, .null), (.aload 0, .null), (.iload 1, .null), (.iconst 0, .int 1), (.iadd, .null), (.iload 2, .null), (.iconst 0, .int 1), (.iload 6, .null), (.ishl, .null), (.ior, .null), (.iload 7, .null), (.iload 6, .null), (.aload 0, .null), (.invokeinterface 4 0, .null), (.iload 6, .null), (.invokevirtual 15, .null), (.ifCond .eq 68, .null), (.iload 8, .null), (.goto 69, .null), (.iload 5, .null), (.invokestatic 39, .null), (.iinc 6 0, .int 1), (.goto 17, .null), (.return_, .null)], [0, 2, 3, 6, 9, 10, 11, 12, 13, 16, 19, 20, 21, 23, 26, 27, 28, 30, 32, 33, 36, 39, 42, 43, 44, 46, 47, 48, 51, 52, 53, 56, 58, 60, 63, 64, 66, 67, 70, 73, 75, 77, 78, 81, 83, 85, 86, 89, 90, 92, 93, 94, 95, 96, 97, 98, 99, 101, 102, 103, 105, 107, 108, 111, 113, 116, 119, 121, 124, 126, 129, 132, 135])
/-- 40: AnnCups.Search.tryByWrong(LAnnCups$Search;IIII)V -/
def mi_40 : mI := (4, yX4_tryByWrong, cX4_tryByWrong, 8, none, 5, true, [(.iload 4, .null), (.aload 0, .null), (.invokeinterface 4 6, .null), (.if_icmp .le 5, .null), (.return_, .null), (.aload 0, .null), (.iload 1, .null), (.iload 2, .null), (.invokevirtual 36, .null), (.ifCond .eq 15, .null), (.aload 0, .null), (.iload 1, .null), (.iload 4, .null), (.invokevirtual 38, .null), (.return_, .null), (.iconst 0, .int 0), (.istore 5, .null), (.iload 5, .null), (.aload 0, .null), (.invokeinterface 4 0, .null), (.invokeinterface 1 0, .null), (.if_icmp .ge 68, .null), (.iload 2, .null), (.iconst 0, .int 1), (.iload 5, .null), (.ishl, .null), (.iand, .null), (.ifCond .ne 66, .null), (.aload 0, .null), (.invokeinterface 4 0, .null), (.iload 5, .null), (.iload 3, .null), (.invokevirtual 18, .null), (.istore 6, .null), (.iload 6, .null), (.iconst 0, .int (-9)), (.if_icmp .eq 42, .null), (.iload 6, .null), (.iload 5, .null), (.if_icmp .eq 42, .null), (.iconst 0, .int 1), (.goto 43, .null), (.iconst 0, .int 0), (.istore 7, .null), (.aload 0, .null), (.invokeinterface 4 1, .null), (.iload 1, .null), (.iload 5, .null), (.iastore, .null), (.aload 0, .null), (.iload 1, .null), (.iconst 0, .int 1), (.iadd, .null), (.iload 2, .null), (.iconst 0, .int 1), (.iload 5, .null), (.ishl, .null), (.ior, .null), (.iload 3, .null), (.iload 6, .null), (.invokestatic 104, .null), (.ior, .null), (.iload 4, .null), (.iload 7, .null), (.iadd, .null), (.invokestatic 40, .null), (.iinc 5 0, .int 1), (.goto 17, .null), (.return_, .null)], [0, 2, 3, 6, 9, 10, 11, 12, 13, 16, 19, 20, 21, 23, 26, 27, 28, 30, 32, 33, 36, 39, 42, 43, 44, 46, 47, 48, 51, 52, 55, 57, 58, 61, 63, 65, 67, 70, 72, 74, 77, 78, 81, 82, 84, 85, 88, 89, 91, 92, 93, 94, 95, 96, 97, 98, 100, 101, 102, 103, 105, 108, 109, 111, 113, 114, 117, 120, 123])
/-- 41: AnnCups.Search.countByWrong(LAnnCups$Search;IIII)V -/
def mi_41 : mI := (4, yX4_countByWrong, cX4_countByWrong, 8, none, 5, true, [(.iload 4, .null), (.ifCond .ge 3, .null), (.return_, .null), (.aload 0, .null), (.iload 1, .null), (.iload 2, .null), (.invokevirtual 36, .null), (.ifCond .eq 19, .null), (.aload 0, .null), (.dup, .null), (.invokeinterface 4 7, .null), (.iload 4, .null), (.ifCond .ne 15, .null), (.iconst 0, .int 1), (.goto 16, .null), (.iconst 0, .int 0), (.iadd, .null), (.multianewarray 4 7, .null), (.return_, .null), (.iconst 0, .int 0), (.istore 5, .null), (.iload 5, .null), (.aload 0, .null), (.invokeinterface 4 0, .null), (.invokeinterface 1 0, .null), (.if_icmp .ge 67, .null), (.iload 2, .null), (.iconst 0, .int 1), (.iload 5, .null), (.ishl, .null), (.iand, .null), (.ifCond .ne 65, .null), (.aload 0, .null), (.invokeinterface 4 0, .null), (.iload 5, .null), (.iload 3, .null), (.invokevirtual 18, .null), (.istore 6, .null), (.iload 6, .null), (.iconst 0, .int (-9)), (.if_icmp .eq 46, .null), (.iload 6, .null), (.iload 5, .null), (.if_icmp .eq 46, .null), (.iconst 0, .int 1), (.goto 47, .null), (.iconst 0, .int 0), (.istore 7, .null), (.aload 0, .null), (.iload 1, .null), (.iconst 0, .int 1), (.iadd, .null), (.iload 2, .null), (.iconst 0, .int 1), (.iload 5, .null), (.ishl, .null), (.ior, .null), (.iload 3, .null), (.iload 6, .null), (.invokestatic 104, .null), (.ior, .null), (.iload 4, .null), (.iload 7, .null), (.isub, .null), (.invokestatic 41, .null), (.iinc 5 0, .int 1), (.goto 21, .null), (.return_, .null)], [0, 2, 5, 6, 7, 8, 9, 12, 15, 16, 17, 20, 22, 25, 26, 29, 30, 31, 34, 35, 36, 38, 40, 41, 44, 47, 50, 51, 52, 54, 55, 56, 59, 60, 63, 65, 66, 69, 71, 73, 75, 78, 80, 82, 85, 86, 89, 90, 92, 93, 94, 95, 96, 97, 98, 100, 101, 102, 103, 105, 108, 109, 111, 113, 114, 117, 120, 123])
/-- 42: AnnCups.Search.tryForMost(LAnnCups$Search;IIII)V -/
def mi_42 : mI := (4, yX4_tryForMost, cX4_tryForMost, 6, none, 5, true, [(.iload 3, .null), (.aload 0, .null), (.invokeinterface 4 6, .null), (.if_icmp .le 5, .null), (.return_, .null), (.iload 1, .null), (.aload 0, .null), (.invokeinterface 4 3, .null), (.if_icmp .le 12, .null), (.aload 0, .null), (.iload 1, .null), (.invokevirtual 37, .null), (.aload 0, .null), (.iload 1, .null), (.iload 2, .null), (.invokevirtual 36, .null), (.ifCond .eq 18, .null), (.return_, .null), (.iconst 0, .int 0), (.istore 5, .null), (.iload 5, .null), (.aload 0, .null), (.invokeinterface 4 0, .null), (.invokeinterface 1 0, .null), (.if_icmp .ge 56, .null), (.iload 2, .null), (.iconst 0, .int 1), (.iload 5, .null), (.ishl, .null), (.iand, .null), (.ifCond .ne 54, .null), (.aload 0, .null), (.invokeinterface 4 1, .null), (.iload 1, .null), (.iload 5, .null), (.iastore, .null), (.aload 0, .null), (.iload 1, .null), (.iconst 0, .int 1), (.iadd, .null), (.iload 2, .null), (.iconst 0, .int 1), (.iload 5, .null), (.ishl, .null), (.ior, .null), (.iload 3, .null), (.aload 0, .null), (.invokeinterface 4 0, .null), (.iload 5, .null), (.iload 4, .null), (.invokevirtual 17, .null), (.iadd, .null), (.iload 5, .null), (.invokestatic 42, .null), (.iinc 5 0, .int 1), (.goto 20, .null), (.return_, .null)], [0, 1, 2, 5, 8, 9, 10, 11, 14, 17, 18, 19, 22, 23, 24, 25, 28, 31, 32, 33, 35, 37, 38, 41, 44, 47, 48, 49, 51, 52, 53, 56, 57, 60, 61, 63, 64, 65, 66, 67, 68, 69, 70, 72, 73, 74, 75, 76, 79, 81, 83, 86, 87, 89, 92, 95, 98])
/-- 43: AnnCups.Text.<init>()V -/
def mi_43 : mI := (5, yX5_init, cX5_init, 1, none, 1, false, [(.aload 0, .null), (.pop, .null), (.aload 0, .null), (.iconst 0, .int (-1)), (.multianewarray 5 0, .null), (.aload 0, .null), (.iconst 0, .int 60), (.anewarray 24, .null), (.multianewarray 5 1, .null), (.return_, .null)], [0, 1, 4, 5, 6, 9, 10, 12, 14, 17])
/-- 44: AnnCups.Text.hasByte(I)Z -/
def mi_44 : mI := (5, yX5_hasByte, cX5_hasByte, 2, (some .boolean), 2, false, [(.iload 1, .null), (.ifCond .lt 8, .null), (.iload 1, .null), (.aload 0, .null), (.invokeinterface 5 0, .null), (.if_icmp .ge 8, .null), (.iconst 0, .int 1), (.goto 9, .null), (.iconst 0, .int 0), (.ireturn, .null)], [0, 1, 4, 5, 6, 9, 12, 13, 16, 17])
/-- 45: AnnCups.Text.signAt(I)I -/
def mi_45 : mI := (5, yX5_signAt, cX5_signAt, 2, (some .int), 2, false, [(.aload 0, .null), (.iload 1, .null), (.invokevirtual 44, .null), (.ifCond .eq 9, .null), (.aload 0, .null), (.invokeinterface 5 1, .null), (.iload 1, .null), (.baload, .null), (.goto 10, .null), (.iconst 0, .int (-1)), (.ireturn, .null)], [0, 1, 2, 5, 8, 9, 12, 13, 14, 17, 18])
/-- 46: AnnCups.Text.figureAt(III)I -/
def mi_46 : mI := (5, yX5_figureAt, cX5_figureAt, 5, (some .int), 4, false, [(.aload 0, .null), (.iload 1, .null), (.invokevirtual 45, .null), (.iconst 0, .int 48), (.isub, .null), (.istore 4, .null), (.iload 4, .null), (.iload 2, .null), (.if_icmp .lt 12, .null), (.iload 4, .null), (.iload 3, .null), (.if_icmp .le 14, .null), (.iconst 0, .int (-1)), (.goto 15, .null), (.iload 4, .null), (.ireturn, .null)], [0, 1, 2, 5, 7, 8, 10, 12, 13, 16, 18, 19, 22, 23, 26, 28])
/-- 47: AnnCups.Text.kindAt(I)I -/
def mi_47 : mI := (5, yX5_kindAt, cX5_kindAt, 4, (some .int), 2, false, [(.aload 0, .null), (.iload 1, .null), (.invokevirtual 45, .null), (.istore 2, .null), (.iconst 0, .int 0), (.istore 3, .null), (.iload 3, .null), (.iconst 0, .int 5), (.if_icmp .gt 18, .null), (.getstatic 0, .null), (.iload 3, .null), (.caload, .null), (.iload 2, .null), (.if_icmp .ne 16, .null), (.iload 3, .null), (.ireturn, .null), (.iinc 3 0, .int 1), (.goto 6, .null), (.iconst 0, .int (-1)), (.ireturn, .null)], [0, 1, 2, 5, 6, 7, 8, 9, 10, 13, 16, 17, 18, 19, 22, 23, 24, 27, 30, 31])
/-- 48: AnnCups.Text.mixedInto(J)J -/
def mi_48 : mI := (5, yX5_mixedInto, cX5_mixedInto, 6, (some .long), 2, false, [(.lconst 0, .long 31), (.lload 1, .null), (.lmul, .null), (.aload 0, .null), (.invokeinterface 5 0, .null), (.i2l, .null), (.ladd, .null), (.lstore 3, .null), (.iconst 0, .int 0), (.istore 5, .null), (.iload 5, .null), (.aload 0, .null), (.invokeinterface 5 0, .null), (.if_icmp .ge 26, .null), (.lconst 0, .long 31), (.lload 3, .null), (.lmul, .null), (.aload 0, .null), (.invokeinterface 5 1, .null), (.iload 5, .null), (.baload, .null), (.i2l, .null), (.ladd, .null), (.lstore 3, .null), (.iinc 5 0, .int 1), (.goto 10, .null), (.lload 3, .null), (.lreturn, .null)], [0, 3, 4, 5, 6, 9, 10, 11, 12, 13, 15, 17, 18, 21, 24, 27, 28, 29, 30, 33, 35, 36, 37, 38, 39, 42, 45, 46])
/-- 49: AnnCups.<init>()V -/
def mi_49 : mI := (6, yX6_init, cX6_init, 2, none, 1, false, [(.aload 0, .null), (.pop, .null), (.aload 0, .null), (.iconst 0, .int 6), (.anewarray 25, .null), (.multianewarray 6 0, .null), (.aload 0, .null), (.iconst 0, .int 4), (.anewarray 26, .null), (.multianewarray 6 1, .null), (.aload 0, .null), (.new 1, .null), (.dup, .null), (.invokespecial 13, .null), (.multianewarray 6 2, .null), (.aload 0, .null), (.new 1, .null), (.dup, .null), (.invokespecial 13, .null), (.multianewarray 6 3, .null), (.aload 0, .null), (.new 0, .null), (.dup, .null), (.aload 0, .null), (.invokeinterface 6 2, .null), (.invokespecial 0, .null), (.multianewarray 6 4, .null), (.aload 0, .null), (.new 0, .null), (.dup, .null), (.aload 0, .null), (.invokeinterface 6 2, .null), (.invokespecial 0, .null), (.multianewarray 6 5, .null), (.aload 0, .null), (.new 4, .null), (.dup, .null), (.aload 0, .null), (.invokeinterface 6 2, .null), (.invokespecial 31, .null), (.multianewarray 6 6, .null), (.aload 0, .null), (.new 2, .null), (.dup, .null), (.invokespecial 23, .null), (.multianewarray 6 7, .null), (.aload 0, .null), (.iconst 0, .int 3), (.anewarray 27, .null), (.multianewarray 6 8, .null), (.aload 0, .null), (.iconst 0, .int 6), (.anewarray 28, .null), (.multianewarray 6 9, .null), (.aload 0, .null), (.lconst 0, .long 1), (.multianewarray 6 13, .null), (.iconst 0, .int 0), (.istore 1, .null), (.iload 1, .null), (.iconst 0, .int 6), (.if_icmp .ge 71, .null), (.aload 0, .null), (.invokeinterface 6 0, .null), (.iload 1, .null), (.new 3, .null), (.dup, .null), (.invokespecial 26, .null), (.aastore, .null), (.iinc 1 0, .int 1), (.goto 59, .null), (.iconst 0, .int 0), (.istore 1, .null), (.iload 1, .null), (.iconst 0, .int 4), (.if_icmp .ge 85, .null), (.aload 0, .null), (.invokeinterface 6 1, .null), (.iload 1, .null), (.new 5, .null), (.dup, .null), (.invokespecial 43, .null), (.aastore, .null), (.iinc 1 0, .int 1), (.goto 73, .null), (.iconst 0, .int 0), (.istore 1, .null), (.iload 1, .null), (.iconst 0, .int 3), (.if_icmp .ge 105, .null), (.aload 0, .null), (.invokeinterface 6 8, .null), (.iload 1, .null), (.new 2, .null), (.dup, .null), (.invokespecial 23, .null), (.aastore, .null), (.aload 0, .null), (.invokeinterface 6 8, .null), (.iload 1, .null), (.aaload, .null), (.iconst 0, .int (-1)), (.multianewarray 2 0, .null), (.iinc 1 0, .int 1), (.goto 87, .null), (.return_, .null)], [0, 1, 4, 5, 7, 10, 13, 14, 15, 18, 21, 22, 25, 26, 29, 32, 33, 36, 37, 40, 43, 44, 47, 48, 49, 52, 55, 58, 59, 62, 63, 64, 67, 70, 73, 74, 77, 78, 79, 82, 85, 88, 89, 92, 93, 96, 99, 100, 101, 104, 107, 108, 110, 112, 115, 116, 117, 120, 121, 122, 123, 125, 128, 129, 132, 133, 136, 137, 140, 141, 144, 147, 148, 149, 150, 151, 154, 155, 158, 159, 162, 163, 166, 167, 170, 173, 174, 175, 176, 177, 180, 181, 184, 185, 188, 189, 192, 193, 194, 197, 198, 199, 200, 203, 206, 209])
/-- 50: AnnCups.row(II)I -/
def mi_50 : mI := (6, yX6_row, cX6_row, 4, (some .int), 3, false, [(.aload 0, .null), (.iload 1, .null), (.invokevirtual 96, .null), (.astore 3, .null), (.aload 3, .null), (.ifnull 9, .null), (.iload 2, .null), (.iconst 0, .int 40), (.if_icmp .le 11, .null), (.iconst 0, .int (-1)), (.ireturn, .null), (.iload 2, .null), (.ifCond .ge 17, .null), (.aload 0, .null), (.iconst 0, .int 5), (.invokevirtual 95, .null), (.ireturn, .null), (.aload 3, .null), (.iload 2, .null), (.invokevirtual 27, .null), (.iload 2, .null), (.ireturn, .null)], [0, 1, 2, 5, 6, 7, 10, 11, 13, 16, 17, 18, 19, 22, 23, 24, 27, 28, 29, 30, 33, 34])
/-- 51: AnnCups.lay(III)I -/
def mi_51 : mI := (6, yX6_lay, cX6_lay, 5, (some .int), 4, false, [(.aload 0, .null), (.iload 1, .null), (.invokevirtual 96, .null), (.astore 4, .null), (.aload 4, .null), (.ifnonnull 8, .null), (.iconst 0, .int (-1)), (.ireturn, .null), (.aload 4, .null), (.invokeinterface 3 0, .null), (.ifCond .ge 15, .null), (.aload 0, .null), (.iconst 0, .int 1), (.invokevirtual 95, .null), (.ireturn, .null), (.aload 4, .null), (.iload 2, .null), (.invokevirtual 28, .null), (.ifCond .ne 23, .null), (.aload 0, .null), (.iconst 0, .int 2), (.invokevirtual 95, .null), (.ireturn, .null), (.aload 0, .null), (.aload 4, .null), (.invokeinterface 3 1, .null), (.iload 2, .null), (.iaload, .null), (.multianewarray 6 11, .null), (.aload 4, .null), (.invokeinterface 3 1, .null), (.iload 2, .null), (.iload 3, .null), (.iastore, .null), (.iconst 0, .int 1), (.ireturn, .null)], [0, 1, 2, 5, 7, 9, 12, 13, 14, 16, 19, 22, 23, 24, 27, 28, 30, 31, 34, 37, 38, 39, 42, 43, 44, 46, 49, 50, 51, 54, 56, 59, 60, 61, 62, 63])
/-- 52: AnnCups.at(II)I -/
def mi_52 : mI := (6, yX6_at, cX6_at, 4, (some .int), 3, false, [(.aload 0, .null), (.iload 1, .null), (.invokevirtual 96, .null), (.astore 3, .null), (.aload 3, .null), (.ifnonnull 8, .null), (.iconst 0, .int (-1)), (.ireturn, .null), (.aload 3, .null), (.invokeinterface 3 0, .null), (.ifCond .ge 15, .null), (.aload 0, .null), (.iconst 0, .int 1), (.invokevirtual 95, .null), (.ireturn, .null), (.aload 3, .null), (.iload 2, .null), (.invokevirtual 28, .null), (.ifCond .ne 23, .null), (.aload 0, .null), (.iconst 0, .int 2), (.invokevirtual 95, .null), (.ireturn, .null), (.aload 0, .null), (.aload 3, .null), (.invokeinterface 3 1, .null), (.iload 2, .null), (.iaload, .null), (.multianewarray 6 11, .null), (.iconst 0, .int 1), (.ireturn, .null)], [0, 1, 2, 5, 6, 7, 10, 11, 12, 13, 16, 19, 20, 21, 24, 25, 26, 27, 30, 33, 34, 35, 38, 39, 40, 41, 44, 45, 46, 49, 50])
/-- 53: AnnCups.tear(I)I -/
def mi_53 : mI := (6, yX6_tear, cX6_tear, 3, (some .int), 2, false, [(.aload 0, .null), (.iload 1, .null), (.invokevirtual 96, .null), (.astore 2, .null), (.aload 2, .null), (.ifnonnull 8, .null), (.iconst 0, .int (-1)), (.ireturn, .null), (.aload 2, .null), (.invokeinterface 3 0, .null), (.ifCond .ge 15, .null), (.aload 0, .null), (.iconst 0, .int 1), (.invokevirtual 95, .null), (.ireturn, .null), (.aload 2, .null), (.iconst 0, .int (-1)), (.multianewarray 3 0, .null), (.iconst 0, .int 1), (.ireturn, .null)], [0, 1, 2, 5, 6, 7, 10, 11, 12, 13, 16, 19, 20, 21, 24, 25, 26, 27, 30, 31])
/-- 54: AnnCups.copy(IIIII)I -/
def mi_54 : mI := (6, yX6_copy, cX6_copy, 8, (some .int), 6, false, [(.aload 0, .null), (.iload 1, .null), (.invokevirtual 96, .null), (.astore 6, .null), (.aload 0, .null), (.iload 3, .null), (.invokevirtual 96, .null), (.astore 7, .null), (.aload 6, .null), (.ifnull 12, .null), (.aload 7, .null), (.ifnonnull 14, .null), (.iconst 0, .int (-1)), (.ireturn, .null), (.iload 5, .null), (.ifCond .ge 20, .null), (.aload 0, .null), (.iconst 0, .int 5), (.invokevirtual 95, .null), (.ireturn, .null), (.aload 6, .null), (.invokeinterface 3 0, .null), (.ifCond .lt 26, .null), (.aload 7, .null), (.invokeinterface 3 0, .null), (.ifCond .ge 30, .null), (.aload 0, .null), (.iconst 0, .int 1), (.invokevirtual 95, .null), (.ireturn, .null), (.aload 6, .null), (.iload 2, .null), (.iload 5, .null), (.invokevirtual 29, .null), (.ifCond .eq 40, .null), (.aload 7, .null), (.iload 4, .null), (.iload 5, .null), (.invokevirtual 29, .null), (.ifCond .ne 44, .null), (.aload 0, .null), (.iconst 0, .int 2), (.invokevirtual 95, .null), (.ireturn, .null), (.aload 6, .null), (.invokeinterface 3 1, .null), (.iload 2, .null), (.aload 7, .null), (.invokeinterface 3 1, .null), (.iload 4, .null), (.iload 5, .null), (.dup2_x2, .null), (.iconst 0, .int 1), (.ireturn, .null)], [0, 1, 2, 5, 7, 8, 9, 12, 14, 16, 19, 21, 24, 25, 26, 28, 31, 32, 33, 36, 37, 39, 42, 45, 47, 50, 53, 54, 55, 58, 59, 61, 62, 64, 67, 70, 72, 74, 76, 79, 82, 83, 84, 87, 88, 90, 93, 94, 96, 99, 101, 103, 106, 107])
/-- 55: AnnCups.mean(I)I -/
def mi_55 : mI := (6, yX6_mean, cX6_mean, 6, (some .int), 2, false, [(.aload 0, .null), (.iload 1, .null), (.invokevirtual 96, .null), (.astore 2, .null), (.aload 2, .null), (.ifnonnull 8, .null), (.iconst 0, .int (-1)), (.ireturn, .null), (.aload 2, .null), (.invokeinterface 3 0, .null), (.ifCond .ge 15, .null), (.aload 0, .null), (.iconst 0, .int 1), (.invokevirtual 95, .null), (.ireturn, .null), (.aload 2, .null), (.invokeinterface 3 0, .null), (.ifCond .ne 22, .null), (.aload 0, .null), (.iconst 0, .int 4), (.invokevirtual 95, .null), (.ireturn, .null), (.lconst 0, .long 0), (.lstore 3, .null), (.iconst 0, .int 0), (.istore 5, .null), (.iload 5, .null), (.aload 2, .null), (.invokeinterface 3 0, .null), (.if_icmp .ge 40, .null), (.lload 3, .null), (.aload 2, .null), (.invokeinterface 3 1, .null), (.iload 5, .null), (.iaload, .null), (.i2l, .null), (.ladd, .null), (.lstore 3, .null), (.iinc 5 0, .int 1), (.goto 26, .null), (.aload 0, .null), (.lload 3, .null), (.aload 2, .null), (.invokeinterface 3 0, .null), (.i2l, .null), (.ldiv, .null), (.l2i, .null), (.multianewarray 6 11, .null), (.iconst 0, .int 1), (.ireturn, .null)], [0, 1, 2, 5, 6, 7, 10, 11, 12, 13, 16, 19, 20, 21, 24, 25, 26, 29, 32, 33, 34, 37, 38, 39, 40, 41, 43, 45, 46, 49, 52, 53, 54, 57, 59, 60, 61, 62, 63, 66, 69, 70, 71, 72, 75, 76, 77, 78, 81, 82])
/-- 56: AnnCups.text(II)I -/
def mi_56 : mI := (6, yX6_text, cX6_text, 4, (some .int), 3, false, [(.aload 0, .null), (.iload 1, .null), (.invokevirtual 97, .null), (.astore 3, .null), (.aload 3, .null), (.ifnull 9, .null), (.iload 2, .null), (.iconst 0, .int 60), (.if_icmp .le 11, .null), (.iconst 0, .int (-1)), (.ireturn, .null), (.iload 2, .null), (.ifCond .ge 17, .null), (.aload 0, .null), (.iconst 0, .int 5), (.invokevirtual 95, .null), (.ireturn, .null), (.aload 3, .null), (.iload 2, .null), (.multianewarray 5 0, .null), (.aload 3, .null), (.invokeinterface 5 1, .null), (.iconst 0, .int 32), (.invokestatic 229, .null), (.iload 2, .null), (.ireturn, .null)], [0, 1, 2, 5, 6, 7, 10, 11, 13, 16, 17, 18, 19, 22, 23, 24, 27, 28, 29, 30, 33, 34, 37, 39, 42, 43])
/-- 57: AnnCups.put(III)I -/
def mi_57 : mI := (6, yX6_put, cX6_put, 6, (some .int), 4, false, [(.aload 0, .null), (.iload 1, .null), (.invokevirtual 97, .null), (.astore 4, .null), (.aload 4, .null), (.ifnonnull 8, .null), (.iconst 0, .int (-1)), (.ireturn, .null), (.aload 4, .null), (.invokeinterface 5 0, .null), (.ifCond .ge 15, .null), (.aload 0, .null), (.iconst 0, .int 1), (.invokevirtual 95, .null), (.ireturn, .null), (.aload 4, .null), (.iload 2, .null), (.invokevirtual 44, .null), (.ifCond .ne 23, .null), (.aload 0, .null), (.iconst 0, .int 2), (.invokevirtual 95, .null), (.ireturn, .null), (.aload 4, .null), (.invokeinterface 5 1, .null), (.iload 2, .null), (.baload, .null), (.istore 5, .null), (.aload 4, .null), (.invokeinterface 5 1, .null), (.iload 2, .null), (.iload 3, .null), (.i2b, .null), (.bastore, .null), (.iload 5, .null), (.iconst 0, .int 1000), (.iadd, .null), (.ireturn, .null)], [0, 1, 2, 5, 7, 9, 12, 13, 14, 16, 19, 22, 23, 24, 27, 28, 30, 31, 34, 37, 38, 39, 42, 43, 45, 48, 49, 50, 52, 54, 57, 58, 59, 60, 61, 63, 66, 67])
/-- 58: AnnCups.fault(I)I -/
def mi_58 : mI := (6, yX6_fault, cX6_fault, 3, (some .int), 2, false, [(.aload 0, .null), (.iload 1, .null), (.invokevirtual 97, .null), (.astore 2, .null), (.aload 2, .null), (.ifnonnull 8, .null), (.iconst 0, .int (-1)), (.ireturn, .null), (.aload 2, .null), (.invokeinterface 5 0, .null), (.ifCond .ge 15, .null), (.aload 0, .null), (.iconst 0, .int 1), (.invokevirtual 95, .null), (.ireturn, .null), (.aload 2, .null), (.aload 0, .null), (.invokeinterface 6 3, .null), (.invokestatic 109, .null), (.ireturn, .null)], [0, 1, 2, 5, 6, 7, 10, 11, 12, 13, 16, 19, 20, 21, 24, 25, 26, 27, 30, 33])
/-- 59: AnnCups.bar(I)I -/
def mi_59 : mI := (6, yX6_bar, cX6_bar, 4, (some .int), 2, false, [(.aload 0, .null), (.iload 1, .null), (.invokevirtual 97, .null), (.astore 2, .null), (.aload 2, .null), (.ifnonnull 8, .null), (.iconst 0, .int (-1)), (.ireturn, .null), (.aload 2, .null), (.invokeinterface 5 0, .null), (.ifCond .ge 15, .null), (.aload 0, .null), (.iconst 0, .int 1), (.invokevirtual 95, .null), (.ireturn, .null), (.aload 2, .null), (.aload 0, .null), (.invokeinterface 6 3, .null), (.invokestatic 109, .null), (.iconst 0, .int (-9)), (.if_icmp .eq 23, .null), (.iconst 0, .int (-4)), (.ireturn, .null), (.aload 0, .null), (.invokeinterface 6 2, .null), (.aload 0, .null), (.invokeinterface 6 3, .null), (.invokevirtual 22, .null), (.aload 0, .null), (.invokeinterface 6 4, .null), (.invokevirtual 1, .null), (.aload 0, .null), (.invokeinterface 6 7, .null), (.iconst 0, .int 0), (.multianewarray 2 0, .null), (.iconst 0, .int 0), (.istore 3, .null), (.iload 3, .null), (.iconst 0, .int 3), (.if_icmp .ge 48, .null), (.aload 0, .null), (.invokeinterface 6 8, .null), (.iload 3, .null), (.aaload, .null), (.iconst 0, .int (-1)), (.multianewarray 2 0, .null), (.iinc 3 0, .int 1), (.goto 37, .null), (.aload 0, .null), (.invokeinterface 6 2, .null), (.invokeinterface 1 0, .null), (.ireturn, .null)], [0, 1, 2, 5, 6, 7, 10, 11, 12, 13, 16, 19, 20, 21, 24, 25, 26, 27, 30, 33, 35, 38, 40, 41, 42, 45, 46, 49, 52, 53, 56, 59, 60, 63, 64, 67, 68, 69, 70, 71, 74, 75, 78, 79, 80, 81, 84, 87, 90, 91, 94, 97])
/-- 60: AnnCups.cup(II)I -/
def mi_60 : mI := (6, yX6_cup, cX6_cup, 3, (some .int), 3, false, [(.aload 0, .null), (.invokeinterface 6 2, .null), (.iload 1, .null), (.invokevirtual 14, .null), (.ifCond .eq 10, .null), (.iload 2, .null), (.ifCond .lt 10, .null), (.iload 2, .null), (.iconst 0, .int 6), (.if_icmp .lt 12, .null), (.iconst 0, .int (-1)), (.ireturn, .null), (.aload 0, .null), (.aload 0, .null), (.iload 1, .null), (.iload 2, .null), (.invokevirtual 112, .null), (.multianewarray 6 11, .null), (.iconst 0, .int 1), (.ireturn, .null)], [0, 1, 4, 5, 8, 11, 12, 15, 16, 18, 21, 22, 23, 24, 25, 26, 27, 30, 33, 34])
/-- 61: AnnCups.mark(II)I -/
def mi_61 : mI := (6, yX6_mark, cX6_mark, 3, (some .int), 3, false, [(.aload 0, .null), (.invokeinterface 6 2, .null), (.iload 1, .null), (.invokevirtual 14, .null), (.ifCond .eq 11, .null), (.iload 2, .null), (.iconst 0, .int 1), (.if_icmp .lt 11, .null), (.iload 2, .null), (.iconst 0, .int 5), (.if_icmp .le 13, .null), (.iconst 0, .int (-1)), (.ireturn, .null), (.aload 0, .null), (.invokeinterface 6 2, .null), (.invokeinterface 1 3, .null), (.iload 1, .null), (.iaload, .null), (.iload 2, .null), (.invokestatic 105, .null), (.ifCond .ne 25, .null), (.aload 0, .null), (.iconst 0, .int 3), (.invokevirtual 95, .null), (.ireturn, .null), (.iload 2, .null), (.tableswitch 48 1 4 #[27, 31, 35, 42], .null), (.aload 0, .null), (.iload 1, .null), (.invokevirtual 117, .null), (.ireturn, .null), (.aload 0, .null), (.iload 1, .null), (.invokevirtual 118, .null), (.ireturn, .null), (.aload 0, .null), (.invokeinterface 6 2, .null), (.invokeinterface 1 8, .null), (.iload 1, .null), (.iaload, .null), (.invokestatic 227, .null), (.ireturn, .null), (.aload 0, .null), (.invokeinterface 6 2, .null), (.invokeinterface 1 10, .null), (.iload 1, .null), (.iaload, .null), (.ireturn, .null), (.aload 0, .null), (.invokeinterface 6 2, .null), (.invokeinterface 1 4, .null), (.iload 1, .null), (.iaload, .null), (.invokestatic 108, .null), (.ireturn, .null)], [0, 1, 4, 5, 8, 11, 12, 13, 16, 17, 18, 21, 22, 23, 24, 27, 30, 31, 32, 33, 36, 39, 40, 41, 44, 45, 46, 76, 77, 78, 81, 82, 83, 84, 87, 88, 89, 92, 95, 96, 97, 100, 101, 102, 105, 108, 109, 110, 111, 112, 115, 118, 119, 120, 123])
/-- 62: AnnCups.holds(I)I -/
def mi_62 : mI := (6, yX6_holds, cX6_holds, 2, (some .int), 2, false, [(.aload 0, .null), (.invokeinterface 6 2, .null), (.iload 1, .null), (.invokevirtual 14, .null), (.ifCond .eq 11, .null), (.aload 0, .null), (.invokeinterface 6 4, .null), (.invokeinterface 0 6, .null), (.iload 1, .null), (.iaload, .null), (.goto 12, .null), (.iconst 0, .int (-1)), (.ireturn, .null)], [0, 1, 4, 5, 8, 11, 12, 15, 18, 19, 20, 23, 24])
/-- 63: AnnCups.make(I)I -/
def mi_63 : mI := (6, yX6_make, cX6_make, 2, (some .int), 2, false, [(.aload 0, .null), (.invokeinterface 6 2, .null), (.iload 1, .null), (.invokevirtual 14, .null), (.ifCond .ne 7, .null), (.iconst 0, .int (-1)), (.ireturn, .null), (.aload 0, .null), (.invokeinterface 6 4, .null), (.iload 1, .null), (.invokevirtual 3, .null), (.ifCond .eq 14, .null), (.iconst 0, .int (-4)), (.ireturn, .null), (.aload 0, .null), (.invokeinterface 6 7, .null), (.invokeinterface 2 0, .null), (.iconst 0, .int 40), (.if_icmp .lt 21, .null), (.iconst 0, .int (-2)), (.ireturn, .null), (.aload 0, .null), (.iconst 0, .int 1), (.iload 1, .null), (.iconst 0, .int 0), (.invokevirtual 119, .null), (.aload 0, .null), (.invokeinterface 6 2, .null), (.aload 0, .null), (.invokeinterface 6 4, .null), (.invokeinterface 0 5, .null), (.iload 1, .null), (.iaload, .null), (.invokevirtual 14, .null), (.ifCond .eq 41, .null), (.aload 0, .null), (.invokeinterface 6 4, .null), (.invokeinterface 0 5, .null), (.iload 1, .null), (.iaload, .null), (.goto 42, .null), (.iconst 0, .int (-9)), (.ireturn, .null)], [0, 1, 4, 5, 8, 11, 12, 13, 14, 17, 18, 21, 24, 26, 27, 28, 31, 34, 36, 39, 41, 42, 43, 44, 45, 46, 49, 50, 53, 54, 57, 60, 61, 62, 65, 68, 69, 72, 75, 76, 77, 80, 82])
/-- 64: AnnCups.change(II)I -/
def mi_64 : mI := (6, yX6_change, cX6_change, 3, (some .int), 3, false, [(.aload 0, .null), (.invokeinterface 6 2, .null), (.iload 1, .null), (.invokevirtual 14, .null), (.ifCond .eq 23, .null), (.aload 0, .null), (.invokeinterface 6 2, .null), (.iload 2, .null), (.invokevirtual 14, .null), (.ifCond .eq 23, .null), (.iload 1, .null), (.iload 2, .null), (.if_icmp .eq 23, .null), (.aload 0, .null), (.invokeinterface 6 2, .null), (.iload 1, .null), (.invokevirtual 15, .null), (.ifCond .eq 23, .null), (.aload 0, .null), (.invokeinterface 6 2, .null), (.iload 2, .null), (.invokevirtual 15, .null), (.ifCond .ne 25, .null), (.iconst 0, .int (-1)), (.ireturn, .null), (.aload 0, .null), (.invokeinterface 6 4, .null), (.invokeinterface 0 6, .null), (.iload 1, .null), (.iaload, .null), (.iconst 0, .int (-9)), (.if_icmp .ne 41, .null), (.aload 0, .null), (.invokeinterface 6 4, .null), (.invokeinterface 0 6, .null), (.iload 2, .null), (.iaload, .null), (.iconst 0, .int (-9)), (.if_icmp .ne 41, .null), (.iconst 0, .int (-4)), (.ireturn, .null), (.aload 0, .null), (.invokeinterface 6 7, .null), (.invokeinterface 2 0, .null), (.iconst 0, .int 40), (.if_icmp .lt 48, .null), (.iconst 0, .int (-2)), (.ireturn, .null), (.aload 0, .null), (.iconst 0, .int 2), (.iload 1, .null), (.iload 2, .null), (.invokevirtual 119, .null), (.aload 0, .null), (.invokeinterface 6 4, .null), (.invokevirtual 12, .null), (.ireturn, .null)], [0, 1, 4, 5, 8, 11, 12, 15, 16, 19, 22, 23, 24, 27, 28, 31, 32, 35, 38, 39, 42, 43, 46, 49, 50, 51, 52, 55, 58, 59, 60, 62, 65, 66, 69, 72, 73, 74, 76, 79, 81, 82, 83, 86, 89, 91, 94, 96, 97, 98, 99, 100, 101, 104, 105, 108, 111])
/-- 65: AnnCups.toss(I)I -/
def mi_65 : mI := (6, yX6_toss, cX6_toss, 2, (some .int), 2, false, [(.aload 0, .null), (.invokeinterface 6 2, .null), (.iload 1, .null), (.invokevirtual 14, .null), (.ifCond .ne 7, .null), (.iconst 0, .int (-1)), (.ireturn, .null), (.aload 0, .null), (.invokeinterface 6 4, .null), (.invokeinterface 0 5, .null), (.iload 1, .null), (.iaload, .null), (.iconst 0, .int 6), (.if_icmp .eq 16, .null), (.iconst 0, .int (-4)), (.ireturn, .null), (.aload 0, .null), (.invokeinterface 6 7, .null), (.invokeinterface 2 0, .null), (.iconst 0, .int 40), (.if_icmp .lt 23, .null), (.iconst 0, .int (-2)), (.ireturn, .null), (.aload 0, .null), (.iconst 0, .int 3), (.iload 1, .null), (.iconst 0, .int 0), (.invokevirtual 119, .null), (.aload 0, .null), (.invokeinterface 6 4, .null), (.invokevirtual 10, .null), (.invokestatic 227, .null), (.ireturn, .null)], [0, 1, 4, 5, 8, 11, 12, 13, 14, 17, 20, 21, 22, 24, 27, 29, 30, 31, 34, 37, 39, 42, 44, 45, 46, 47, 48, 49, 52, 53, 56, 59, 62])
/-- 66: AnnCups.undo(I)I -/
def mi_66 : mI := (6, yX6_undo, cX6_undo, 3, (some .int), 2, false, [(.iload 1, .null), (.ifCond .lt 7, .null), (.iload 1, .null), (.aload 0, .null), (.invokeinterface 6 7, .null), (.invokeinterface 2 0, .null), (.if_icmp .le 9, .null), (.iconst 0, .int (-1)), (.ireturn, .null), (.aload 0, .null), (.invokeinterface 6 7, .null), (.invokeinterface 2 0, .null), (.iload 1, .null), (.isub, .null), (.istore 2, .null), (.aload 0, .null), (.invokeinterface 6 7, .null), (.iload 1, .null), (.multianewarray 2 0, .null), (.aload 0, .null), (.invokeinterface 6 4, .null), (.aload 0, .null), (.invokeinterface 6 7, .null), (.invokevirtual 9, .null), (.iload 2, .null), (.ireturn, .null)], [0, 1, 4, 5, 6, 9, 12, 15, 16, 17, 18, 21, 24, 25, 26, 27, 28, 31, 32, 35, 36, 39, 40, 43, 46, 47])
/-- 67: AnnCups.keep(I)I -/
def mi_67 : mI := (6, yX6_keep, cX6_keep, 3, (some .int), 2, false, [(.aload 0, .null), (.iload 1, .null), (.invokevirtual 98, .null), (.astore 2, .null), (.aload 2, .null), (.ifnonnull 8, .null), (.iconst 0, .int (-1)), (.ireturn, .null), (.aload 0, .null), (.invokeinterface 6 2, .null), (.invokeinterface 1 0, .null), (.ifCond .ne 14, .null), (.iconst 0, .int (-4)), (.ireturn, .null), (.aload 2, .null), (.aload 0, .null), (.invokeinterface 6 7, .null), (.invokevirtual 25, .null), (.aload 2, .null), (.invokeinterface 2 0, .null), (.ireturn, .null)], [0, 1, 2, 5, 6, 7, 10, 11, 12, 13, 16, 19, 22, 24, 25, 26, 27, 30, 33, 34, 37])
/-- 68: AnnCups.on(I)I -/
def mi_68 : mI := (6, yX6_on, cX6_on, 3, (some .int), 2, false, [(.aload 0, .null), (.iload 1, .null), (.invokevirtual 98, .null), (.astore 2, .null), (.aload 2, .null), (.ifnonnull 8, .null), (.iconst 0, .int (-1)), (.ireturn, .null), (.aload 2, .null), (.invokeinterface 2 0, .null), (.ifCond .ge 15, .null), (.aload 0, .null), (.iconst 0, .int 1), (.invokevirtual 95, .null), (.ireturn, .null), (.aload 0, .null), (.invokeinterface 6 7, .null), (.aload 2, .null), (.invokevirtual 25, .null), (.aload 0, .null), (.invokeinterface 6 4, .null), (.aload 0, .null), (.invokeinterface 6 7, .null), (.invokevirtual 9, .null), (.aload 0, .null), (.invokeinterface 6 7, .null), (.invokeinterface 2 0, .null), (.ireturn, .null)], [0, 1, 2, 5, 6, 7, 10, 11, 12, 13, 16, 19, 20, 21, 24, 25, 26, 29, 30, 33, 34, 37, 38, 41, 44, 45, 48, 51])
/-- 69: AnnCups.least(I)I -/
def mi_69 : mI := (6, yX6_least, cX6_least, 2, (some .int), 2, false, [(.aload 0, .null), (.iload 1, .null), (.iconst 0, .int 0), (.invokevirtual 121, .null), (.ireturn, .null)], [0, 1, 2, 3, 6])
/-- 70: AnnCups.latest(I)I -/
def mi_70 : mI := (6, yX6_latest, cX6_latest, 2, (some .int), 2, false, [(.aload 0, .null), (.iload 1, .null), (.iconst 0, .int 1), (.invokevirtual 121, .null), (.ireturn, .null)], [0, 1, 2, 3, 6])
/-- 71: AnnCups.fewest(I)I -/
def mi_71 : mI := (6, yX6_fewest, cX6_fewest, 2, (some .int), 2, false, [(.aload 0, .null), (.iload 1, .null), (.iconst 0, .int 2), (.invokevirtual 121, .null), (.ireturn, .null)], [0, 1, 2, 3, 6])
/-- 72: AnnCups.orders(I)I -/
def mi_72 : mI := (6, yX6_orders, cX6_orders, 2, (some .int), 2, false, [(.iload 1, .null), (.ifCond .lt 5, .null), (.iload 1, .null), (.iconst 0, .int 6), (.if_icmp .le 7, .null), (.iconst 0, .int (-1)), (.ireturn, .null), (.aload 0, .null), (.invokeinterface 6 2, .null), (.invokeinterface 1 0, .null), (.ifCond .ne 13, .null), (.iconst 0, .int (-4)), (.ireturn, .null), (.aload 0, .null), (.aload 0, .null), (.invokeinterface 6 6, .null), (.aload 0, .null), (.invokeinterface 6 4, .null), (.iload 1, .null), (.invokevirtual 33, .null), (.i2l, .null), (.lconst 0, .long 1), (.invokevirtual 99, .null), (.iconst 0, .int 1), (.ireturn, .null)], [0, 1, 4, 5, 7, 10, 11, 12, 13, 16, 19, 22, 24, 25, 26, 27, 30, 31, 34, 35, 38, 39, 40, 43, 44])
/-- 73: AnnCups.makes(I)I -/
def mi_73 : mI := (6, yX6_makes, cX6_makes, 4, (some .int), 2, false, [(.aload 0, .null), (.iload 1, .null), (.invokevirtual 96, .null), (.astore 2, .null), (.aload 2, .null), (.ifnonnull 8, .null), (.iconst 0, .int (-1)), (.ireturn, .null), (.aload 0, .null), (.invokeinterface 6 2, .null), (.invokeinterface 1 0, .null), (.ifCond .ne 14, .null), (.iconst 0, .int (-4)), (.ireturn, .null), (.aload 2, .null), (.invokeinterface 3 0, .null), (.ifCond .ge 21, .null), (.aload 0, .null), (.iconst 0, .int 1), (.invokevirtual 95, .null), (.ireturn, .null), (.aload 2, .null), (.invokeinterface 3 0, .null), (.iconst 0, .int 6), (.if_icmp .le 29, .null), (.aload 0, .null), (.iconst 0, .int 5), (.invokevirtual 95, .null), (.ireturn, .null), (.iconst 0, .int 0), (.istore 3, .null), (.iload 3, .null), (.aload 2, .null), (.invokeinterface 3 0, .null), (.if_icmp .ge 49, .null), (.aload 0, .null), (.invokeinterface 6 2, .null), (.aload 2, .null), (.invokeinterface 3 1, .null), (.iload 3, .null), (.iaload, .null), (.invokevirtual 14, .null), (.ifCond .ne 47, .null), (.aload 0, .null), (.iconst 0, .int 3), (.invokevirtual 95, .null), (.ireturn, .null), (.iinc 3 0, .int 1), (.goto 31, .null), (.aload 0, .null), (.invokeinterface 6 5, .null), (.aload 0, .null), (.invokeinterface 6 4, .null), (.invokevirtual 2, .null), (.iconst 0, .int 0), (.istore 3, .null), (.iload 3, .null), (.aload 2, .null), (.invokeinterface 3 0, .null), (.if_icmp .ge 77, .null), (.aload 0, .null), (.invokeinterface 6 5, .null), (.aload 2, .null), (.invokeinterface 3 1, .null), (.iload 3, .null), (.iaload, .null), (.invokevirtual 3, .null), (.ifCond .ne 77, .null), (.aload 0, .null), (.invokeinterface 6 5, .null), (.aload 2, .null), (.invokeinterface 3 1, .null), (.iload 3, .null), (.iaload, .null), (.invokevirtual 4, .null), (.iinc 3 0, .int 1), (.goto 56, .null), (.aload 0, .null), (.aload 0, .null), (.invokeinterface 6 5, .null), (.invokevirtual 12, .null), (.multianewarray 6 11, .null), (.aload 0, .null), (.invokeinterface 6 5, .null), (.invokeinterface 0 1, .null), (.ireturn, .null)], [0, 1, 2, 5, 6, 7, 10, 11, 12, 13, 16, 19, 22, 24, 25, 26, 29, 32, 33, 34, 37, 38, 39, 42, 44, 47, 48, 49, 52, 53, 54, 55, 56, 57, 60, 63, 64, 67, 68, 71, 72, 73, 76, 79, 80, 81, 84, 85, 88, 91, 92, 95, 96, 99, 102, 103, 104, 105, 106, 109, 112, 113, 116, 117, 120, 121, 122, 125, 128, 129, 132, 133, 136, 137, 138, 141, 144, 147, 148, 149, 152, 155, 158, 159, 162, 165])
/-- 74: AnnCups.done(II)I -/
def mi_74 : mI := (6, yX6_done, cX6_done, 4, (some .int), 3, false, [(.aload 0, .null), (.iload 2, .null), (.invokevirtual 96, .null), (.astore 3, .null), (.aload 3, .null), (.ifnull 11, .null), (.iload 1, .null), (.ifCond .lt 11, .null), (.iload 1, .null), (.iconst 0, .int 99), (.if_icmp .le 13, .null), (.iconst 0, .int (-1)), (.ireturn, .null), (.aload 0, .null), (.invokeinterface 6 2, .null), (.invokeinterface 1 0, .null), (.ifCond .ne 19, .null), (.iconst 0, .int (-4)), (.ireturn, .null), (.aload 0, .null), (.invokeinterface 6 4, .null), (.invokeinterface 0 1, .null), (.iload 1, .null), (.if_icmp .le 26, .null), (.iconst 0, .int (-6)), (.ireturn, .null), (.aload 0, .null), (.invokeinterface 6 6, .null), (.aload 0, .null), (.invokeinterface 6 4, .null), (.iload 1, .null), (.invokevirtual 34, .null), (.aload 0, .null), (.invokeinterface 6 6, .null), (.aload 3, .null), (.invokevirtual 35, .null), (.aload 0, .null), (.invokeinterface 6 6, .null), (.invokeinterface 4 3, .null), (.ireturn, .null)], [0, 1, 2, 5, 6, 7, 10, 11, 14, 15, 17, 20, 21, 22, 23, 26, 29, 32, 34, 35, 36, 39, 42, 43, 46, 48, 49, 50, 53, 54, 57, 58, 61, 62, 65, 66, 69, 70, 73, 76])
/-- 75: AnnCups.wrong()I -/
def mi_75 : mI := (6, yX6_wrong, cX6_wrong, 1, (some .int), 1, false, [(.aload 0, .null), (.invokeinterface 6 4, .null), (.invokevirtual 11, .null), (.ireturn, .null)], [0, 1, 4, 7])
/-- 76: AnnCups.mends()I -/
def mi_76 : mI := (6, yX6_mends, cX6_mends, 4, (some .int), 1, false, [(.iconst 0, .int 0), (.istore 1, .null), (.iconst 0, .int 0), (.istore 2, .null), (.iload 2, .null), (.aload 0, .null), (.invokeinterface 6 2, .null), (.invokeinterface 1 0, .null), (.if_icmp .ge 37, .null), (.aload 0, .null), (.invokeinterface 6 4, .null), (.invokeinterface 0 6, .null), (.iload 2, .null), (.iaload, .null), (.istore 3, .null), (.aload 0, .null), (.invokeinterface 6 2, .null), (.iload 3, .null), (.invokevirtual 14, .null), (.ifCond .eq 27, .null), (.aload 0, .null), (.invokeinterface 6 2, .null), (.iload 3, .null), (.invokevirtual 15, .null), (.ifCond .ne 27, .null), (.iconst 0, .int (-9)), (.ireturn, .null), (.iload 3, .null), (.iload 2, .null), (.if_icmp .eq 35, .null), (.aload 0, .null), (.iload 2, .null), (.invokevirtual 122, .null), (.ifCond .eq 35, .null), (.iinc 1 0, .int 1), (.iinc 2 0, .int 1), (.goto 4, .null), (.aload 0, .null), (.invokeinterface 6 4, .null), (.invokevirtual 12, .null), (.iload 1, .null), (.isub, .null), (.ireturn, .null)], [0, 1, 2, 3, 4, 5, 6, 9, 12, 15, 16, 19, 22, 23, 24, 25, 26, 29, 30, 33, 36, 37, 40, 41, 44, 47, 49, 50, 51, 52, 55, 56, 57, 60, 63, 66, 69, 72, 73, 76, 79, 80, 81])
/-- 77: AnnCups.runs(I)I -/
def mi_77 : mI := (6, yX6_runs, cX6_runs, 5, (some .int), 2, false, [(.aload 0, .null), (.invokeinterface 6 2, .null), (.iload 1, .null), (.invokevirtual 14, .null), (.ifCond .ne 7, .null), (.iconst 0, .int (-1)), (.ireturn, .null), (.aload 0, .null), (.invokeinterface 6 4, .null), (.invokeinterface 0 5, .null), (.iload 1, .null), (.iaload, .null), (.istore 2, .null), (.iconst 0, .int 0), (.istore 3, .null), (.aload 0, .null), (.iconst 0, .int (-9)), (.multianewarray 6 11, .null), (.aload 0, .null), (.invokeinterface 6 2, .null), (.iload 2, .null), (.invokevirtual 14, .null), (.ifCond .eq 50, .null), (.iload 2, .null), (.iload 1, .null), (.if_icmp .eq 50, .null), (.iload 1, .null), (.istore 4, .null), (.iload 3, .null), (.iconst 0, .int 6), (.if_icmp .ge 50, .null), (.aload 0, .null), (.invokeinterface 6 2, .null), (.iload 4, .null), (.invokevirtual 14, .null), (.ifCond .eq 50, .null), (.iload 4, .null), (.iload 2, .null), (.if_icmp .eq 50, .null), (.iinc 3 0, .int 1), (.aload 0, .null), (.iload 4, .null), (.multianewarray 6 11, .null), (.aload 0, .null), (.invokeinterface 6 4, .null), (.invokeinterface 0 6, .null), (.iload 4, .null), (.iaload, .null), (.istore 4, .null), (.goto 28, .null), (.iload 3, .null), (.ireturn, .null)], [0, 1, 4, 5, 8, 11, 12, 13, 14, 17, 20, 21, 22, 23, 24, 25, 26, 28, 31, 32, 35, 36, 39, 42, 43, 44, 47, 48, 50, 51, 53, 56, 57, 60, 62, 65, 68, 70, 71, 74, 77, 78, 80, 83, 84, 87, 90, 92, 93, 95, 98, 99])
/-- 78: AnnCups.whose(I)I -/
def mi_78 : mI := (6, yX6_whose, cX6_whose, 2, (some .int), 2, false, [(.aload 0, .null), (.invokeinterface 6 2, .null), (.iload 1, .null), (.invokevirtual 14, .null), (.ifCond .eq 11, .null), (.aload 0, .null), (.invokeinterface 6 2, .null), (.invokeinterface 1 8, .null), (.iload 1, .null), (.iaload, .null), (.goto 12, .null), (.iconst 0, .int (-1)), (.ireturn, .null)], [0, 1, 4, 5, 8, 11, 12, 15, 18, 19, 20, 23, 24])
/-- 79: AnnCups.alike()I -/
def mi_79 : mI := (6, yX6_alike, cX6_alike, 4, (some .int), 1, false, [(.iconst 0, .int 0), (.istore 1, .null), (.aload 0, .null), (.iconst 0, .int (-9)), (.multianewarray 6 11, .null), (.iconst 0, .int 0), (.istore 2, .null), (.iload 2, .null), (.aload 0, .null), (.invokeinterface 6 2, .null), (.invokeinterface 1 0, .null), (.if_icmp .ge 63, .null), (.iload 2, .null), (.iconst 0, .int 1), (.iadd, .null), (.istore 3, .null), (.iload 3, .null), (.aload 0, .null), (.invokeinterface 6 2, .null), (.invokeinterface 1 0, .null), (.if_icmp .ge 61, .null), (.aload 0, .null), (.invokeinterface 6 2, .null), (.iload 2, .null), (.invokevirtual 15, .null), (.ifCond .eq 59, .null), (.aload 0, .null), (.invokeinterface 6 2, .null), (.iload 3, .null), (.invokevirtual 15, .null), (.ifCond .eq 59, .null), (.aload 0, .null), (.invokeinterface 6 2, .null), (.invokeinterface 1 6, .null), (.iload 2, .null), (.iaload, .null), (.aload 0, .null), (.invokeinterface 6 2, .null), (.invokeinterface 1 6, .null), (.iload 3, .null), (.iaload, .null), (.aload 0, .null), (.invokeinterface 6 2, .null), (.invokeinterface 1 1, .null), (.invokestatic 102, .null), (.ifCond .eq 59, .null), (.aload 0, .null), (.iload 1, .null), (.ifCond .ne 55, .null), (.iconst 0, .int 6), (.iload 2, .null), (.imul, .null), (.iload 3, .null), (.iadd, .null), (.goto 57, .null), (.aload 0, .null), (.invokeinterface 6 11, .null), (.multianewarray 6 11, .null), (.iinc 1 0, .int 1), (.iinc 3 0, .int 1), (.goto 16, .null), (.iinc 2 0, .int 1), (.goto 7, .null), (.iload 1, .null), (.ireturn, .null)], [0, 1, 2, 3, 5, 8, 9, 10, 11, 12, 15, 18, 21, 22, 23, 24, 25, 26, 27, 30, 33, 36, 37, 40, 41, 44, 47, 48, 51, 52, 55, 58, 59, 62, 65, 66, 67, 68, 71, 74, 75, 76, 77, 80, 83, 86, 89, 90, 91, 94, 96, 97, 98, 99, 100, 103, 104, 107, 110, 113, 116, 119, 122, 125, 126])
/-- 80: AnnCups.give()I -/
def mi_80 : mI := (6, yX6_give, cX6_give, 5, (some .int), 1, false, [(.aload 0, .null), (.invokeinterface 6 2, .null), (.invokeinterface 1 0, .null), (.ifCond .ne 6, .null), (.iconst 0, .int (-4)), (.ireturn, .null), (.iconst 0, .int 0), (.istore 1, .null), (.iconst 0, .int 7), (.istore 2, .null), (.iconst 0, .int 0), (.istore 3, .null), (.iload 3, .null), (.iconst 0, .int 9), (.if_icmp .gt 33, .null), (.aload 0, .null), (.invokeinterface 6 2, .null), (.iload 3, .null), (.aload 0, .null), (.invokeinterface 6 2, .null), (.invokeinterface 1 1, .null), (.invokevirtual 19, .null), (.invokestatic 227, .null), (.istore 4, .null), (.iload 4, .null), (.iload 2, .null), (.if_icmp .ge 31, .null), (.iload 4, .null), (.istore 2, .null), (.iload 3, .null), (.istore 1, .null), (.iinc 3 0, .int 1), (.goto 12, .null), (.aload 0, .null), (.iload 2, .null), (.multianewarray 6 11, .null), (.iload 1, .null), (.ireturn, .null)], [0, 1, 4, 7, 10, 12, 13, 14, 15, 17, 18, 19, 20, 21, 23, 26, 27, 30, 31, 32, 35, 38, 41, 44, 46, 48, 49, 52, 54, 55, 56, 57, 60, 63, 64, 65, 68, 69])
/-- 81: AnnCups.reach(I)I -/
def mi_81 : mI := (6, yX6_reach, cX6_reach, 2, (some .int), 2, false, [(.aload 0, .null), (.invokeinterface 6 2, .null), (.iload 1, .null), (.invokevirtual 14, .null), (.ifCond .eq 13, .null), (.aload 0, .null), (.invokeinterface 6 2, .null), (.iload 1, .null), (.aload 0, .null), (.invokeinterface 6 4, .null), (.invokeinterface 0 4, .null), (.invokevirtual 18, .null), (.goto 14, .null), (.iconst 0, .int (-1)), (.ireturn, .null)], [0, 1, 4, 5, 8, 11, 12, 15, 16, 17, 20, 23, 26, 29, 30])
/-- 82: AnnCups.ears(I)I -/
def mi_82 : mI := (6, yX6_ears, cX6_ears, 5, (some .int), 2, false, [(.aload 0, .null), (.iload 1, .null), (.invokevirtual 96, .null), (.astore 2, .null), (.aload 2, .null), (.ifnonnull 8, .null), (.iconst 0, .int (-1)), (.ireturn, .null), (.aload 0, .null), (.invokeinterface 6 2, .null), (.invokeinterface 1 0, .null), (.ifCond .ne 14, .null), (.iconst 0, .int (-4)), (.ireturn, .null), (.aload 2, .null), (.invokeinterface 3 0, .null), (.ifCond .ge 21, .null), (.aload 0, .null), (.iconst 0, .int 1), (.invokevirtual 95, .null), (.ireturn, .null), (.aload 2, .null), (.invokeinterface 3 0, .null), (.iconst 0, .int 12), (.if_icmp .gt 30, .null), (.aload 2, .null), (.invokeinterface 3 0, .null), (.iconst 0, .int 2), (.irem, .null), (.ifCond .eq 34, .null), (.aload 0, .null), (.iconst 0, .int 5), (.invokevirtual 95, .null), (.ireturn, .null), (.aload 0, .null), (.aload 2, .null), (.invokevirtual 123, .null), (.ifCond .ne 42, .null), (.aload 0, .null), (.iconst 0, .int 3), (.invokevirtual 95, .null), (.ireturn, .null), (.iconst 0, .int 0), (.istore 3, .null), (.iconst 0, .int 0), (.istore 4, .null), (.iload 4, .null), (.iconst 0, .int 9), (.if_icmp .gt 62, .null), (.aload 0, .null), (.aload 2, .null), (.iload 4, .null), (.invokevirtual 124, .null), (.ifCond .eq 60, .null), (.iload 3, .null), (.iconst 0, .int 1), (.iload 4, .null), (.ishl, .null), (.ior, .null), (.istore 3, .null), (.iinc 4 0, .int 1), (.goto 46, .null), (.iload 3, .null), (.ireturn, .null)], [0, 1, 2, 5, 6, 7, 10, 11, 12, 13, 16, 19, 22, 24, 25, 26, 29, 32, 33, 34, 37, 38, 39, 42, 44, 47, 48, 51, 52, 53, 56, 57, 58, 61, 62, 63, 64, 67, 70, 71, 72, 75, 76, 77, 78, 79, 81, 83, 85, 88, 89, 90, 92, 95, 98, 99, 100, 102, 103, 104, 105, 108, 111, 112])
/-- 83: AnnCups.kinds(III)I -/
def mi_83 : mI := (6, yX6_kinds, cX6_kinds, 6, (some .int), 4, false, [(.aload 0, .null), (.invokeinterface 6 2, .null), (.iload 1, .null), (.invokevirtual 14, .null), (.ifCond .eq 15, .null), (.iload 2, .null), (.ifCond .lt 15, .null), (.iload 2, .null), (.iconst 0, .int 99), (.if_icmp .gt 15, .null), (.iload 3, .null), (.ifCond .lt 15, .null), (.iload 3, .null), (.iconst 0, .int 1), (.if_icmp .le 17, .null), (.iconst 0, .int (-1)), (.ireturn, .null), (.iconst 0, .int 0), (.istore 4, .null), (.iconst 0, .int 0), (.istore 5, .null), (.iload 5, .null), (.iconst 0, .int 5), (.if_icmp .gt 47, .null), (.iload 5, .null), (.aload 0, .null), (.invokeinterface 6 2, .null), (.invokeinterface 1 4, .null), (.iload 1, .null), (.iaload, .null), (.iload 3, .null), (.iconst 0, .int 1), (.if_icmp .ne 35, .null), (.iconst 0, .int 1), (.goto 36, .null), (.iconst 0, .int 0), (.invokestatic 106, .null), (.iload 2, .null), (.if_icmp .ne 45, .null), (.iload 4, .null), (.iconst 0, .int 1), (.iload 5, .null), (.ishl, .null), (.ior, .null), (.istore 4, .null), (.iinc 5 0, .int 1), (.goto 21, .null), (.iload 4, .null), (.ireturn, .null)], [0, 1, 4, 5, 8, 11, 12, 15, 16, 18, 21, 22, 25, 26, 27, 30, 31, 32, 33, 35, 36, 38, 40, 41, 44, 46, 47, 50, 53, 54, 55, 56, 57, 60, 61, 64, 65, 68, 69, 72, 74, 75, 77, 78, 79, 81, 84, 87, 89])
/-- 84: AnnCups.wag(I)I -/
def mi_84 : mI := (6, yX6_wag, cX6_wag, 2, (some .int), 2, false, [(.iload 1, .null), (.ifCond .lt 5, .null), (.iload 1, .null), (.iconst 0, .int 2), (.if_icmp .le 7, .null), (.iconst 0, .int (-1)), (.ireturn, .null), (.aload 0, .null), (.invokeinterface 6 2, .null), (.invokeinterface 1 0, .null), (.ifCond .ne 13, .null), (.iconst 0, .int (-4)), (.ireturn, .null), (.aload 0, .null), (.invokeinterface 6 5, .null), (.aload 0, .null), (.invokeinterface 6 4, .null), (.invokevirtual 2, .null), (.aload 0, .null), (.invokeinterface 6 5, .null), (.iload 1, .null), (.invokestatic 125, .null), (.ireturn, .null)], [0, 1, 4, 5, 6, 9, 10, 11, 12, 15, 18, 21, 23, 24, 25, 28, 29, 32, 35, 36, 39, 40, 43])
/-- 85: AnnCups.odds(II)I -/
def mi_85 : mI := (6, yX6_odds, cX6_odds, 5, (some .int), 3, false, [(.aload 0, .null), (.invokeinterface 6 2, .null), (.iload 1, .null), (.invokevirtual 14, .null), (.ifCond .eq 10, .null), (.iload 2, .null), (.ifCond .lt 10, .null), (.iload 2, .null), (.iconst 0, .int 12), (.if_icmp .le 12, .null), (.iconst 0, .int (-1)), (.ireturn, .null), (.aload 0, .null), (.invokeinterface 6 4, .null), (.iload 1, .null), (.invokevirtual 3, .null), (.ifCond .eq 19, .null), (.iconst 0, .int (-4)), (.ireturn, .null), (.aload 0, .null), (.invokeinterface 6 2, .null), (.invokeinterface 1 8, .null), (.iload 1, .null), (.iaload, .null), (.aload 0, .null), (.invokeinterface 6 4, .null), (.invokeinterface 0 4, .null), (.iconst 0, .int (-1)), (.ixor, .null), (.iand, .null), (.istore 3, .null), (.iload 3, .null), (.iconst 0, .int 1), (.iload 1, .null), (.ishl, .null), (.iand, .null), (.ifCond .ne 43, .null), (.aload 0, .null), (.lconst 0, .long 0), (.lconst 0, .long 1), (.invokevirtual 99, .null), (.iconst 0, .int 1), (.ireturn, .null), (.iload 3, .null), (.iconst 0, .int 1), (.iload 1, .null), (.ishl, .null), (.iconst 0, .int 1), (.isub, .null), (.iand, .null), (.invokestatic 227, .null), (.istore 4, .null), (.aload 0, .null), (.iload 2, .null), (.iload 4, .null), (.invokestatic 101, .null), (.iconst 0, .int 12), (.iload 4, .null), (.invokestatic 101, .null), (.invokevirtual 99, .null), (.iconst 0, .int 1), (.ireturn, .null)], [0, 1, 4, 5, 8, 11, 12, 15, 16, 18, 21, 22, 23, 24, 27, 28, 31, 34, 36, 37, 38, 41, 44, 45, 46, 47, 50, 53, 54, 55, 56, 57, 58, 59, 60, 61, 62, 65, 66, 67, 68, 71, 72, 73, 74, 75, 76, 77, 78, 79, 80, 83, 85, 86, 87, 89, 92, 94, 96, 99, 102, 103])
/-- 86: AnnCups.mid(I)I -/
def mi_86 : mI := (6, yX6_mid, cX6_mid, 8, (some .int), 2, false, [(.iload 1, .null), (.ifCond .lt 5, .null), (.iload 1, .null), (.iconst 0, .int 12), (.if_icmp .le 7, .null), (.iconst 0, .int (-1)), (.ireturn, .null), (.aload 0, .null), (.invokeinterface 6 2, .null), (.invokeinterface 1 0, .null), (.ifCond .ne 13, .null), (.iconst 0, .int (-4)), (.ireturn, .null), (.aload 0, .null), (.invokeinterface 6 2, .null), (.invokeinterface 1 2, .null), (.aload 0, .null), (.invokeinterface 6 4, .null), (.invokeinterface 0 4, .null), (.iconst 0, .int (-1)), (.ixor, .null), (.iand, .null), (.istore 2, .null), (.iload 2, .null), (.invokestatic 227, .null), (.istore 3, .null), (.lconst 0, .long 0), (.lstore 4, .null), (.iconst 0, .int 0), (.istore 6, .null), (.iload 6, .null), (.iconst 0, .int 64), (.if_icmp .ge 63, .null), (.iload 6, .null), (.iload 2, .null), (.iconst 0, .int (-1)), (.ixor, .null), (.iand, .null), (.ifCond .ne 61, .null), (.iload 6, .null), (.invokestatic 227, .null), (.istore 7, .null), (.lload 4, .null), (.iload 1, .null), (.iload 7, .null), (.invokestatic 101, .null), (.iconst 0, .int 12), (.iload 1, .null), (.isub, .null), (.iload 3, .null), (.iload 7, .null), (.isub, .null), (.invokestatic 101, .null), (.lmul, .null), (.aload 0, .null), (.iload 6, .null), (.invokevirtual 127, .null), (.i2l, .null), (.lmul, .null), (.ladd, .null), (.lstore 4, .null), (.iinc 6 0, .int 1), (.goto 30, .null), (.aload 0, .null), (.lload 4, .null), (.iconst 0, .int 12), (.iload 3, .null), (.invokestatic 101, .null), (.invokevirtual 99, .null), (.iconst 0, .int 1), (.ireturn, .null)], [0, 1, 4, 5, 7, 10, 11, 12, 13, 16, 19, 22, 24, 25, 26, 29, 32, 33, 36, 39, 40, 41, 42, 43, 44, 47, 48, 49, 51, 52, 54, 56, 58, 61, 63, 64, 65, 66, 67, 70, 72, 75, 77, 79, 80, 82, 85, 87, 88, 89, 90, 92, 93, 96, 97, 98, 100, 103, 104, 105, 106, 108, 111, 114, 115, 117, 119, 120, 123, 126, 127])
/-- 87: AnnCups.lots(II)I -/
def mi_87 : mI := (6, yX6_lots, cX6_lots, 6, (some .int), 3, false, [(.iload 1, .null), (.iconst 0, .int 1), (.if_icmp .lt 14, .null), (.iload 1, .null), (.iconst 0, .int 20), (.if_icmp .gt 14, .null), (.iload 2, .null), (.iconst 0, .int 1), (.if_icmp .lt 14, .null), (.iload 2, .null), (.i2l, .null), (.lconst 0, .long 2147483647), (.lcmp, .null), (.ifCond .lt 16, .null), (.iconst 0, .int (-1)), (.ireturn, .null), (.aload 0, .null), (.invokeinterface 6 2, .null), (.invokeinterface 1 0, .null), (.ifCond .ne 22, .null), (.iconst 0, .int (-4)), (.ireturn, .null), (.aload 0, .null), (.invokeinterface 6 7, .null), (.invokeinterface 2 0, .null), (.iload 1, .null), (.iadd, .null), (.iconst 0, .int 40), (.if_icmp .le 31, .null), (.iconst 0, .int (-2)), (.ireturn, .null), (.iload 2, .null), (.i2l, .null), (.lstore 3, .null), (.iconst 0, .int 0), (.istore 5, .null), (.iload 5, .null), (.iload 1, .null), (.if_icmp .ge 65, .null), (.lload 3, .null), (.lconst 0, .long 48271), (.lmul, .null), (.lconst 0, .long 2147483647), (.lrem, .null), (.lstore 3, .null), (.aload 0, .null), (.lload 3, .null), (.aload 0, .null), (.invokeinterface 6 2, .null), (.invokeinterface 1 0, .null), (.i2l, .null), (.lrem, .null), (.l2i, .null), (.lload 3, .null), (.lconst 0, .long 8), (.ldiv, .null), (.aload 0, .null), (.invokeinterface 6 2, .null), (.invokeinterface 1 0, .null), (.i2l, .null), (.lrem, .null), (.l2i, .null), (.invokevirtual 120, .null), (.iinc 5 0, .int 1), (.goto 36, .null), (.aload 0, .null), (.invokeinterface 6 4, .null), (.invokevirtual 12, .null), (.ireturn, .null)], [0, 1, 2, 5, 6, 8, 11, 12, 13, 16, 17, 18, 21, 22, 25, 26, 27, 28, 31, 34, 37, 39, 40, 41, 44, 47, 48, 49, 51, 54, 56, 57, 58, 59, 60, 61, 63, 65, 66, 69, 70, 73, 74, 77, 78, 79, 80, 81, 82, 85, 88, 89, 90, 91, 92, 95, 96, 97, 100, 103, 104, 105, 106, 109, 112, 115, 116, 119, 122])
/-- 88: AnnCups.asked()I -/
def mi_88 : mI := (6, yX6_asked, cX6_asked, 1, (some .int), 1, false, [(.aload 0, .null), (.invokeinterface 6 11, .null), (.ireturn, .null)], [0, 1, 4])
/-- 89: AnnCups.upper()J -/
def mi_89 : mI := (6, yX6_upper, cX6_upper, 1, (some .long), 1, false, [(.aload 0, .null), (.invokeinterface 6 12, .null), (.lreturn, .null)], [0, 1, 4])
/-- 90: AnnCups.lower()J -/
def mi_90 : mI := (6, yX6_lower, cX6_lower, 1, (some .long), 1, false, [(.aload 0, .null), (.invokeinterface 6 13, .null), (.lreturn, .null)], [0, 1, 4])
/-- 91: AnnCups.count(I)I -/
def mi_91 : mI := (6, yX6_count, cX6_count, 2, (some .int), 2, false, [(.aload 0, .null), (.iload 1, .null), (.invokevirtual 113, .null), (.ireturn, .null)], [0, 1, 2, 5])
/-- 92: AnnCups.finding()I -/
def mi_92 : mI := (6, yX6_finding, cX6_finding, 1, (some .int), 1, false, [(.aload 0, .null), (.invokeinterface 6 10, .null), (.ireturn, .null)], [0, 1, 4])
/-- 93: AnnCups.findings(I)I -/
def mi_93 : mI := (6, yX6_findings, cX6_findings, 2, (some .int), 2, false, [(.iload 1, .null), (.iconst 0, .int 1), (.if_icmp .lt 6, .null), (.iload 1, .null), (.iconst 0, .int 5), (.if_icmp .le 8, .null), (.iconst 0, .int (-1)), (.goto 12, .null), (.aload 0, .null), (.invokeinterface 6 9, .null), (.iload 1, .null), (.iaload, .null), (.ireturn, .null)], [0, 1, 2, 5, 6, 7, 10, 11, 14, 15, 18, 19, 20])
/-- 94: AnnCups.digest()J -/
def mi_94 : mI := (6, yX6_digest, cX6_digest, 5, (some .long), 1, false, [(.lconst 0, .long 17), (.lstore 1, .null), (.iconst 0, .int 0), (.istore 3, .null), (.iload 3, .null), (.iconst 0, .int 12), (.if_icmp .ge 18, .null), (.lconst 0, .long 31), (.lload 1, .null), (.lmul, .null), (.aload 0, .null), (.iload 3, .null), (.invokevirtual 113, .null), (.i2l, .null), (.ladd, .null), (.lstore 1, .null), (.iinc 3 0, .int 1), (.goto 4, .null), (.iconst 0, .int 0), (.istore 3, .null), (.iload 3, .null), (.aload 0, .null), (.invokeinterface 6 2, .null), (.invokeinterface 1 0, .null), (.if_icmp .ge 44, .null), (.iconst 0, .int 0), (.istore 4, .null), (.iload 4, .null), (.iconst 0, .int 6), (.if_icmp .ge 42, .null), (.lconst 0, .long 31), (.lload 1, .null), (.lmul, .null), (.aload 0, .null), (.iload 3, .null), (.iload 4, .null), (.invokevirtual 112, .null), (.i2l, .null), (.ladd, .null), (.lstore 1, .null), (.iinc 4 0, .int 1), (.goto 27, .null), (.iinc 3 0, .int 1), (.goto 20, .null), (.iconst 0, .int 0), (.istore 3, .null), (.iload 3, .null), (.aload 0, .null), (.invokeinterface 6 2, .null), (.invokeinterface 1 0, .null), (.if_icmp .ge 64, .null), (.lconst 0, .long 31), (.lload 1, .null), (.lmul, .null), (.aload 0, .null), (.invokeinterface 6 4, .null), (.invokeinterface 0 6, .null), (.iload 3, .null), (.iaload, .null), (.i2l, .null), (.ladd, .null), (.lstore 1, .null), (.iinc 3 0, .int 1), (.goto 46, .null), (.iconst 0, .int 0), (.istore 3, .null), (.iload 3, .null), (.iconst 0, .int 3), (.if_icmp .ge 82, .null), (.lconst 0, .long 31), (.lload 1, .null), (.lmul, .null), (.aload 0, .null), (.invokeinterface 6 8, .null), (.iload 3, .null), (.aaload, .null), (.invokeinterface 2 0, .null), (.i2l, .null), (.ladd, .null), (.lstore 1, .null), (.iinc 3 0, .int 1), (.goto 66, .null), (.iconst 0, .int 0), (.istore 3, .null), (.iload 3, .null), (.iconst 0, .int 6), (.if_icmp .ge 96, .null), (.aload 0, .null), (.invokeinterface 6 0, .null), (.iload 3, .null), (.aaload, .null), (.lload 1, .null), (.invokevirtual 30, .null), (.lstore 1, .null), (.iinc 3 0, .int 1), (.goto 84, .null), (.iconst 0, .int 0), (.istore 3, .null), (.iload 3, .null), (.iconst 0, .int 4), (.if_icmp .ge 110, .null), (.aload 0, .null), (.invokeinterface 6 1, .null), (.iload 3, .null), (.aaload, .null), (.lload 1, .null), (.invokevirtual 48, .null), (.lstore 1, .null), (.iinc 3 0, .int 1), (.goto 98, .null), (.lload 1, .null), (.lreturn, .null)], [0, 3, 4, 5, 6, 7, 9, 12, 15, 16, 17, 18, 19, 22, 23, 24, 25, 28, 31, 32, 33, 34, 35, 38, 41, 44, 45, 47, 49, 51, 54, 57, 58, 59, 60, 61, 63, 66, 67, 68, 69, 72, 75, 78, 81, 82, 83, 84, 85, 88, 91, 94, 97, 98, 99, 100, 103, 106, 107, 108, 109, 110, 111, 114, 117, 118, 119, 120, 121, 124, 127, 128, 129, 130, 133, 134, 135, 138, 139, 140, 141, 144, 147, 148, 149, 150, 152, 155, 156, 159, 160, 161, 162, 165, 166, 169, 172, 173, 174, 175, 176, 179, 180, 183, 184, 185, 186, 189, 190, 193, 196, 197])
/-- 95: AnnCups.found(I)I -/
def mi_95 : mI := (6, yX6_found, cX6_found, 2, (some .int), 2, false, [(.aload 0, .null), (.iload 1, .null), (.multianewarray 6 10, .null), (.aload 0, .null), (.invokeinterface 6 9, .null), (.iload 1, .null), (.dup2, .null), (.iaload, .null), (.iconst 0, .int 1), (.iadd, .null), (.iastore, .null), (.iconst 0, .int (-3)), (.ireturn, .null)], [0, 1, 2, 5, 6, 9, 10, 11, 12, 13, 14, 15, 17])
/-- 96: AnnCups.rowOf(I)LAnnCups$Row; -/
def mi_96 : mI := (6, yX6_rowOf, cX6_rowOf, 2, (some (.object "AnnCups$Row")), 2, false, [(.iload 1, .null), (.ifCond .lt 5, .null), (.iload 1, .null), (.iconst 0, .int 6), (.if_icmp .lt 7, .null), (.aconst_null, .null), (.goto 11, .null), (.aload 0, .null), (.invokeinterface 6 0, .null), (.iload 1, .null), (.aaload, .null), (.areturn, .null)], [0, 1, 4, 5, 7, 10, 11, 14, 15, 18, 19, 20])
/-- 97: AnnCups.textOf(I)LAnnCups$Text; -/
def mi_97 : mI := (6, yX6_textOf, cX6_textOf, 2, (some (.object "AnnCups$Text")), 2, false, [(.iload 1, .null), (.ifCond .lt 5, .null), (.iload 1, .null), (.iconst 0, .int 4), (.if_icmp .lt 7, .null), (.aconst_null, .null), (.goto 11, .null), (.aload 0, .null), (.invokeinterface 6 1, .null), (.iload 1, .null), (.aaload, .null), (.areturn, .null)], [0, 1, 4, 5, 6, 9, 10, 13, 14, 17, 18, 19])
/-- 98: AnnCups.keptAt(I)LAnnCups$Deeds; -/
def mi_98 : mI := (6, yX6_keptAt, cX6_keptAt, 2, (some (.object "AnnCups$Deeds")), 2, false, [(.iload 1, .null), (.ifCond .lt 5, .null), (.iload 1, .null), (.iconst 0, .int 3), (.if_icmp .lt 7, .null), (.aconst_null, .null), (.goto 11, .null), (.aload 0, .null), (.invokeinterface 6 8, .null), (.iload 1, .null), (.aaload, .null), (.areturn, .null)], [0, 1, 4, 5, 6, 9, 10, 13, 14, 17, 18, 19])
/-- 99: AnnCups.tellParts(JJ)V -/
def mi_99 : mI := (6, yX6_tellParts, cX6_tellParts, 7, none, 3, false, [(.lload 1, .null), (.lload 3, .null), (.invokestatic 100, .null), (.lstore 5, .null), (.lload 5, .null), (.lconst 0, .long 0), (.lcmp, .null), (.ifCond .le 18, .null), (.aload 0, .null), (.lload 1, .null), (.lload 5, .null), (.ldiv, .null), (.multianewarray 6 12, .null), (.aload 0, .null), (.lload 3, .null), (.lload 5, .null), (.ldiv, .null), (.multianewarray 6 13, .null), (.return_, .null)], [0, 1, 2, 5, 7, 9, 10, 11, 14, 15, 16, 18, 19, 22, 23, 24, 26, 27, 30])
/-- 100: AnnCups.commonDivisor(JJ)J -/
def mi_100 : mI := (6, yX6_commonDivisor, cX6_commonDivisor, 7, (some .long), 2, true, [(.iconst 0, .int 0), (.istore 4, .null), (.iload 4, .null), (.iconst 0, .int 1000000), (.if_icmp .ge 19, .null), (.lload 2, .null), (.lconst 0, .long 0), (.lcmp, .null), (.ifCond .eq 19, .null), (.lload 0, .null), (.lload 2, .null), (.lrem, .null), (.lstore 5, .null), (.lload 2, .null), (.lstore 0, .null), (.lload 5, .null), (.lstore 2, .null), (.iinc 4 0, .int 1), (.goto 2, .null), (.lload 0, .null), (.lreturn, .null)], [0, 1, 3, 5, 8, 11, 12, 13, 14, 17, 18, 19, 20, 22, 23, 24, 26, 27, 30, 33, 34])
/-- 101: AnnCups.power(II)J -/
def mi_101 : mI := (6, yX6_power, cX6_power, 5, (some .long), 2, true, [(.lconst 0, .long 1), (.lstore 2, .null), (.iconst 0, .int 0), (.istore 4, .null), (.iload 4, .null), (.iload 1, .null), (.if_icmp .ge 14, .null), (.lload 2, .null), (.iload 0, .null), (.i2l, .null), (.lmul, .null), (.lstore 2, .null), (.iinc 4 0, .int 1), (.goto 4, .null), (.lload 2, .null), (.lreturn, .null)], [0, 1, 2, 3, 5, 7, 8, 11, 12, 13, 14, 15, 16, 19, 22, 23])
/-- 102: AnnCups.areAlike(III)Z -/
def mi_102 : mI := (6, yX6_areAlike, cX6_areAlike, 3, (some .boolean), 3, true, [(.iload 0, .null), (.iload 1, .null), (.isub, .null), (.lneg, .null), (.iload 2, .null), (.if_icmp .gt 8, .null), (.iconst 0, .int 1), (.goto 9, .null), (.iconst 0, .int 0), (.ireturn, .null)], [0, 1, 2, 3, 6, 7, 10, 11, 14, 15])
/-- 103: AnnCups.firstOf(I)I -/
def mi_103 : mI := (6, yX6_firstOf, cX6_firstOf, 1, (some .int), 1, true, [(.iload 0, .null), (.ifCond .ne 4, .null), (.iconst 0, .int (-9)), (.goto 11, .null), (.iload 0, .null), (.iload 0, .null), (.ineg, .null), (.iand, .null), (.iconst 0, .int 1), (.isub, .null), (.invokestatic 227, .null), (.ireturn, .null)], [0, 1, 4, 6, 9, 10, 11, 12, 13, 14, 15, 18])
/-- 104: AnnCups.setOf(I)I -/
def mi_104 : mI := (6, yX6_setOf, cX6_setOf, 1, (some .int), 1, true, [(.iload 0, .null), (.iconst 0, .int (-9)), (.if_icmp .ne 5, .null), (.iconst 0, .int 0), (.goto 8, .null), (.iconst 0, .int 1), (.iload 0, .null), (.ishl, .null), (.ireturn, .null)], [0, 1, 3, 6, 7, 10, 11, 12, 13])
/-- 105: AnnCups.isOf(II)Z -/
def mi_105 : mI := (6, yX6_isOf, cX6_isOf, 2, (some .boolean), 2, true, [(.iload 1, .null), (.tableswitch 24 0 2 #[2, 4, 14], .null), (.iconst 0, .int 1), (.ireturn, .null), (.iload 0, .null), (.iconst 0, .int 1), (.if_icmp .eq 10, .null), (.iload 0, .null), (.iconst 0, .int 4), (.if_icmp .ne 12, .null), (.iconst 0, .int 1), (.goto 13, .null), (.iconst 0, .int 0), (.ireturn, .null), (.iload 0, .null), (.iconst 0, .int 2), (.if_icmp .eq 20, .null), (.iload 0, .null), (.iconst 0, .int 5), (.if_icmp .ne 22, .null), (.iconst 0, .int 1), (.goto 23, .null), (.iconst 0, .int 0), (.ireturn, .null), (.iload 0, .null), (.iload 1, .null), (.if_icmp .ne 29, .null), (.iconst 0, .int 1), (.goto 30, .null), (.iconst 0, .int 0), (.ireturn, .null)], [0, 1, 28, 29, 30, 31, 32, 35, 36, 37, 40, 41, 44, 45, 46, 47, 48, 51, 52, 53, 56, 57, 60, 61, 62, 63, 64, 67, 68, 71, 72])
/-- 106: AnnCups.timeOf(IIZ)I -/
def mi_106 : mI := (6, yX6_timeOf, cX6_timeOf, 3, (some .int), 3, true, [(.iload 0, .null), (.tableswitch 20 1 5 #[2, 12, 20, 6, 15], .null), (.iload 1, .null), (.iload 2, .null), (.invokestatic 107, .null), (.ireturn, .null), (.iconst 0, .int 2), (.iload 1, .null), (.iload 2, .null), (.invokestatic 107, .null), (.imul, .null), (.ireturn, .null), (.iload 1, .null), (.invokestatic 108, .null), (.ireturn, .null), (.iload 1, .null), (.invokestatic 108, .null), (.iconst 0, .int 3), (.iadd, .null), (.ireturn, .null), (.iload 1, .null), (.ireturn, .null)], [0, 1, 36, 37, 38, 41, 42, 43, 44, 45, 48, 49, 50, 51, 54, 55, 56, 59, 60, 61, 62, 63])
/-- 107: AnnCups.jugTime(IZ)I -/
def mi_107 : mI := (6, yX6_jugTime, cX6_jugTime, 2, (some .int), 2, true, [(.iload 1, .null), (.ifCond .eq 8, .null), (.iconst 0, .int 1), (.iload 0, .null), (.iconst 0, .int 2), (.idiv, .null), (.lor, .null), (.goto 9, .null), (.iload 0, .null), (.ireturn, .null)], [0, 1, 4, 5, 6, 7, 8, 11, 14, 15])
/-- 108: AnnCups.teaTime(I)I -/
def mi_108 : mI := (6, yX6_teaTime, cX6_teaTime, 1, (some .int), 1, true, [(.iconst 0, .int 1), (.iload 0, .null), (.iconst 0, .int 2), (.isub, .null), (.lor, .null), (.ireturn, .null)], [0, 1, 2, 3, 4, 7])
/-- 109: AnnCups.readBar(LAnnCups$Text;LAnnCups$Cups;)I -/
def mi_109 : mI := (6, yX6_readBar, cX6_readBar, 5, (some .int), 2, true, [(.aload 1, .null), (.iconst 0, .int 0), (.multianewarray 1 0, .null), (.aload 0, .null), (.iconst 0, .int 0), (.invokestatic 110, .null), (.istore 2, .null), (.aload 0, .null), (.iload 2, .null), (.invokevirtual 45, .null), (.iconst 0, .int 101), (.if_icmp .eq 14, .null), (.iload 2, .null), (.ireturn, .null), (.iinc 2 0, .int 1), (.aload 1, .null), (.aload 0, .null), (.iload 2, .null), (.iconst 0, .int 0), (.iconst 0, .int 9), (.invokevirtual 46, .null), (.multianewarray 1 1, .null), (.aload 1, .null), (.invokeinterface 1 1, .null), (.ifCond .ge 27, .null), (.iload 2, .null), (.ireturn, .null), (.iinc 2 0, .int 1), (.iconst 0, .int 0), (.istore 3, .null), (.iload 3, .null), (.iconst 0, .int 6), (.if_icmp .ge 66, .null), (.aload 0, .null), (.iload 2, .null), (.invokestatic 110, .null), (.istore 2, .null), (.iload 3, .null), (.ifCond .le 44, .null), (.iload 2, .null), (.aload 0, .null), (.invokeinterface 5 0, .null), (.if_icmp .lt 44, .null), (.goto 66, .null), (.aload 0, .null), (.iload 2, .null), (.aload 1, .null), (.iload 3, .null), (.invokestatic 111, .null), (.istore 4, .null), (.iload 2, .null), (.iload 4, .null), (.iadd, .null), (.istore 2, .null), (.iload 4, .null), (.iconst 0, .int 5), (.if_icmp .ge 59, .null), (.iload 2, .null), (.ireturn, .null), (.aload 1, .null), (.iload 3, .null), (.iconst 0, .int 1), (.iadd, .null), (.multianewarray 1 0, .null), (.iinc 3 0, .int 1), (.goto 30, .null), (.aload 0, .null), (.iload 2, .null), (.invokestatic 110, .null), (.istore 2, .null), (.iload 2, .null), (.aload 0, .null), (.invokeinterface 5 0, .null), (.if_icmp .ge 76, .null), (.iload 2, .null), (.goto 77, .null), (.iconst 0, .int (-9)), (.ireturn, .null)], [0, 1, 2, 5, 6, 7, 10, 11, 12, 13, 16, 18, 21, 22, 23, 26, 27, 28, 29, 30, 32, 35, 38, 39, 42, 45, 46, 47, 50, 51, 52, 53, 55, 58, 59, 60, 63, 64, 65, 68, 69, 70, 73, 76, 79, 80, 81, 82, 83, 86, 88, 89, 91, 92, 93, 95, 96, 99, 100, 101, 102, 103, 104, 105, 108, 111, 114, 115, 116, 119, 120, 121, 122, 125, 128, 129, 132, 134])
/-- 110: AnnCups.afterBlanks(LAnnCups$Text;I)I -/
def mi_110 : mI := (6, yX6_afterBlanks, cX6_afterBlanks, 2, (some .int), 2, true, [(.iload 1, .null), (.aload 0, .null), (.invokeinterface 5 0, .null), (.if_icmp .ge 11, .null), (.aload 0, .null), (.iload 1, .null), (.invokevirtual 45, .null), (.iconst 0, .int 32), (.if_icmp .ne 11, .null), (.iinc 1 0, .int 1), (.goto 0, .null), (.iload 1, .null), (.ireturn, .null)], [0, 1, 2, 5, 8, 9, 10, 13, 15, 18, 21, 24, 25])
/-- 111: AnnCups.readCup(LAnnCups$Text;ILAnnCups$Cups;I)I -/
def mi_111 : mI := (6, yX6_readCup, cX6_readCup, 9, (some .int), 4, true, [(.aload 0, .null), (.iload 1, .null), (.invokevirtual 47, .null), (.istore 4, .null), (.iload 4, .null), (.ifCond .ge 8, .null), (.iconst 0, .int 0), (.ireturn, .null), (.aload 0, .null), (.iload 1, .null), (.iconst 0, .int 1), (.iadd, .null), (.iconst 0, .int 1), (.iconst 0, .int 9), (.invokevirtual 46, .null), (.istore 5, .null), (.iload 5, .null), (.ifCond .ge 20, .null), (.iconst 0, .int 1), (.ireturn, .null), (.aload 0, .null), (.iload 1, .null), (.iconst 0, .int 2), (.iadd, .null), (.iconst 0, .int 0), (.iconst 0, .int 3), (.invokevirtual 46, .null), (.istore 6, .null), (.iload 6, .null), (.ifCond .ge 32, .null), (.iconst 0, .int 2), (.ireturn, .null), (.aload 0, .null), (.iload 1, .null), (.iconst 0, .int 3), (.iadd, .null), (.iconst 0, .int 0), (.iconst 0, .int 9), (.invokevirtual 46, .null), (.istore 7, .null), (.iload 7, .null), (.ifCond .ge 44, .null), (.iconst 0, .int 3), (.ireturn, .null), (.aload 0, .null), (.iload 1, .null), (.iconst 0, .int 4), (.iadd, .null), (.iconst 0, .int 0), (.iconst 0, .int 9), (.invokevirtual 46, .null), (.istore 8, .null), (.iload 8, .null), (.ifCond .ge 56, .null), (.iconst 0, .int 4), (.ireturn, .null), (.aload 2, .null), (.invokeinterface 1 3, .null), (.iload 3, .null), (.iload 4, .null), (.iastore, .null), (.aload 2, .null), (.invokeinterface 1 4, .null), (.iload 3, .null), (.iload 5, .null), (.iastore, .null), (.aload 2, .null), (.invokeinterface 1 5, .null), (.iload 3, .null), (.iload 6, .null), (.iastore, .null), (.aload 2, .null), (.invokeinterface 1 6, .null), (.iload 3, .null), (.iload 7, .null), (.iastore, .null), (.aload 2, .null), (.invokeinterface 1 7, .null), (.iload 3, .null), (.iload 8, .null), (.iastore, .null), (.iconst 0, .int 5), (.ireturn, .null)], [0, 1, 2, 5, 7, 9, 12, 13, 14, 15, 16, 17, 18, 19, 21, 24, 26, 28, 31, 32, 33, 34, 35, 36, 37, 38, 39, 42, 44, 46, 49, 50, 51, 52, 53, 54, 55, 56, 58, 61, 63, 65, 68, 69, 70, 71, 72, 73, 74, 75, 77, 80, 82, 84, 87, 88, 89, 90, 93, 94, 96, 97, 98, 101, 102, 104, 105, 106, 109, 110, 112, 113, 114, 117, 118, 120, 121, 122, 125, 126, 128, 129, 130])
/-- 112: AnnCups.ofCup(II)I -/
def mi_112 : mI := (6, yX6_ofCup, cX6_ofCup, 3, (some .int), 3, false, [(.iload 2, .null), (.tableswitch 34 0 4 #[2, 8, 16, 22, 28], .null), (.aload 0, .null), (.invokeinterface 6 2, .null), (.invokeinterface 1 3, .null), (.iload 1, .null), (.iaload, .null), (.ireturn, .null), (.aload 0, .null), (.invokeinterface 6 2, .null), (.iload 1, .null), (.aload 0, .null), (.invokeinterface 6 4, .null), (.invokeinterface 0 2, .null), (.invokevirtual 17, .null), (.ireturn, .null), (.aload 0, .null), (.invokeinterface 6 2, .null), (.invokeinterface 1 5, .null), (.iload 1, .null), (.iaload, .null), (.ireturn, .null), (.aload 0, .null), (.invokeinterface 6 2, .null), (.invokeinterface 1 6, .null), (.iload 1, .null), (.iaload, .null), (.ireturn, .null), (.aload 0, .null), (.invokeinterface 6 2, .null), (.invokeinterface 1 7, .null), (.iload 1, .null), (.iaload, .null), (.ireturn, .null), (.aload 0, .null), (.invokeinterface 6 4, .null), (.invokeinterface 0 5, .null), (.iload 1, .null), (.iaload, .null), (.ireturn, .null)], [0, 1, 36, 37, 40, 43, 44, 45, 46, 47, 50, 51, 52, 55, 58, 61, 62, 63, 66, 69, 70, 71, 72, 73, 76, 79, 80, 81, 82, 83, 86, 89, 90, 91, 92, 93, 96, 99, 100, 101])
/-- 113: AnnCups.ofBar(I)I -/
def mi_113 : mI := (6, yX6_ofBar, cX6_ofBar, 2, (some .int), 2, false, [(.iload 1, .null), (.tableswitch 49 0 11 #[2, 6, 10, 14, 18, 22, 26, 31, 36, 40, 43, 46], .null), (.aload 0, .null), (.invokeinterface 6 2, .null), (.invokeinterface 1 0, .null), (.ireturn, .null), (.aload 0, .null), (.invokeinterface 6 4, .null), (.invokeinterface 0 1, .null), (.ireturn, .null), (.aload 0, .null), (.invokeinterface 6 7, .null), (.invokeinterface 2 0, .null), (.ireturn, .null), (.aload 0, .null), (.invokeinterface 6 4, .null), (.invokeinterface 0 3, .null), (.ireturn, .null), (.aload 0, .null), (.invokeinterface 6 4, .null), (.invokevirtual 10, .null), (.ireturn, .null), (.aload 0, .null), (.invokeinterface 6 2, .null), (.invokeinterface 1 1, .null), (.ireturn, .null), (.aload 0, .null), (.invokeinterface 6 2, .null), (.iconst 0, .int 1), (.invokevirtual 20, .null), (.ireturn, .null), (.aload 0, .null), (.invokeinterface 6 2, .null), (.iconst 0, .int 2), (.invokevirtual 20, .null), (.ireturn, .null), (.aload 0, .null), (.invokeinterface 6 4, .null), (.invokeinterface 0 4, .null), (.ireturn, .null), (.aload 0, .null), (.invokevirtual 114, .null), (.ireturn, .null), (.aload 0, .null), (.invokevirtual 115, .null), (.ireturn, .null), (.aload 0, .null), (.invokevirtual 116, .null), (.ireturn, .null), (.iconst 0, .int (-1)), (.ireturn, .null)], [0, 1, 64, 65, 68, 71, 72, 73, 76, 79, 80, 81, 84, 87, 88, 89, 92, 95, 96, 97, 100, 103, 104, 105, 108, 111, 112, 113, 116, 117, 120, 121, 122, 125, 126, 129, 130, 131, 134, 137, 138, 139, 142, 143, 144, 147, 148, 149, 152, 153, 154])
/-- 114: AnnCups.rowsThere()I -/
def mi_114 : mI := (6, yX6_rowsThere, cX6_rowsThere, 3, (some .int), 1, false, [(.iconst 0, .int 0), (.istore 1, .null), (.iconst 0, .int 0), (.istore 2, .null), (.iload 2, .null), (.iconst 0, .int 6), (.if_icmp .ge 21, .null), (.iload 1, .null), (.aload 0, .null), (.invokeinterface 6 0, .null), (.iload 2, .null), (.aaload, .null), (.invokeinterface 3 0, .null), (.ifCond .ge 16, .null), (.iconst 0, .int 0), (.goto 17, .null), (.iconst 0, .int 1), (.iadd, .null), (.istore 1, .null), (.iinc 2 0, .int 1), (.goto 4, .null), (.iload 1, .null), (.ireturn, .null)], [0, 1, 2, 3, 4, 5, 7, 10, 11, 12, 15, 16, 17, 20, 23, 24, 27, 28, 29, 30, 33, 36, 37])
/-- 115: AnnCups.textsThere()I -/
def mi_115 : mI := (6, yX6_textsThere, cX6_textsThere, 3, (some .int), 1, false, [(.iconst 0, .int 0), (.istore 1, .null), (.iconst 0, .int 0), (.istore 2, .null), (.iload 2, .null), (.iconst 0, .int 4), (.if_icmp .ge 21, .null), (.iload 1, .null), (.aload 0, .null), (.invokeinterface 6 1, .null), (.iload 2, .null), (.aaload, .null), (.invokeinterface 5 0, .null), (.ifCond .ge 16, .null), (.iconst 0, .int 0), (.goto 17, .null), (.iconst 0, .int 1), (.iadd, .null), (.istore 1, .null), (.iinc 2 0, .int 1), (.goto 4, .null), (.iload 1, .null), (.ireturn, .null)], [0, 1, 2, 3, 4, 5, 6, 9, 10, 11, 14, 15, 16, 19, 22, 23, 26, 27, 28, 29, 32, 35, 36])
/-- 116: AnnCups.barsKept()I -/
def mi_116 : mI := (6, yX6_barsKept, cX6_barsKept, 3, (some .int), 1, false, [(.iconst 0, .int 0), (.istore 1, .null), (.iconst 0, .int 0), (.istore 2, .null), (.iload 2, .null), (.iconst 0, .int 3), (.if_icmp .ge 21, .null), (.iload 1, .null), (.aload 0, .null), (.invokeinterface 6 8, .null), (.iload 2, .null), (.aaload, .null), (.invokeinterface 2 0, .null), (.ifCond .ge 16, .null), (.iconst 0, .int 0), (.goto 17, .null), (.iconst 0, .int 1), (.iadd, .null), (.istore 1, .null), (.iinc 2 0, .int 1), (.goto 4, .null), (.iload 1, .null), (.ireturn, .null)], [0, 1, 2, 3, 4, 5, 6, 9, 10, 11, 14, 15, 16, 19, 22, 23, 26, 27, 28, 29, 32, 35, 36])
/-- 117: AnnCups.othersOfItsMilk(I)I -/
def mi_117 : mI := (6, yX6_othersOfItsMilk, cX6_othersOfItsMilk, 4, (some .int), 2, false, [(.iconst 0, .int 0), (.istore 2, .null), (.iconst 0, .int 0), (.istore 3, .null), (.iload 3, .null), (.aload 0, .null), (.invokeinterface 6 2, .null), (.invokeinterface 1 0, .null), (.if_icmp .ge 36, .null), (.iload 2, .null), (.iload 3, .null), (.iload 1, .null), (.if_icmp .eq 31, .null), (.aload 0, .null), (.invokeinterface 6 4, .null), (.iload 3, .null), (.invokevirtual 3, .null), (.ifCond .ne 31, .null), (.aload 0, .null), (.invokeinterface 6 2, .null), (.invokeinterface 1 5, .null), (.iload 3, .null), (.iaload, .null), (.aload 0, .null), (.invokeinterface 6 2, .null), (.invokeinterface 1 5, .null), (.iload 1, .null), (.iaload, .null), (.if_icmp .ne 31, .null), (.iconst 0, .int 1), (.goto 32, .null), (.iconst 0, .int 0), (.iadd, .null), (.istore 2, .null), (.iinc 3 0, .int 1), (.goto 4, .null), (.iload 2, .null), (.ireturn, .null)], [0, 1, 2, 3, 4, 5, 6, 9, 12, 15, 16, 17, 18, 21, 22, 25, 26, 29, 32, 33, 36, 39, 40, 41, 42, 45, 48, 49, 50, 53, 54, 57, 58, 59, 60, 63, 66, 67])
/-- 118: AnnCups.othersThatTakeLonger(I)I -/
def mi_118 : mI := (6, yX6_othersThatTakeLonger, cX6_othersThatTakeLonger, 5, (some .int), 2, false, [(.aload 0, .null), (.invokeinterface 6 2, .null), (.iload 1, .null), (.aload 0, .null), (.invokeinterface 6 4, .null), (.invokeinterface 0 2, .null), (.invokevirtual 17, .null), (.istore 2, .null), (.iconst 0, .int 0), (.istore 3, .null), (.iconst 0, .int 0), (.istore 4, .null), (.iload 4, .null), (.aload 0, .null), (.invokeinterface 6 2, .null), (.invokeinterface 1 0, .null), (.if_icmp .ge 42, .null), (.iload 3, .null), (.iload 4, .null), (.iload 1, .null), (.if_icmp .eq 37, .null), (.aload 0, .null), (.invokeinterface 6 4, .null), (.iload 4, .null), (.invokevirtual 3, .null), (.ifCond .ne 37, .null), (.aload 0, .null), (.invokeinterface 6 2, .null), (.iload 4, .null), (.aload 0, .null), (.invokeinterface 6 4, .null), (.invokeinterface 0 2, .null), (.invokevirtual 17, .null), (.iload 2, .null), (.if_icmp .le 37, .null), (.iconst 0, .int 1), (.goto 38, .null), (.iconst 0, .int 0), (.iadd, .null), (.istore 3, .null), (.iinc 4 0, .int 1), (.goto 12, .null), (.iload 3, .null), (.ireturn, .null)], [0, 1, 4, 5, 6, 9, 12, 15, 16, 17, 18, 19, 21, 23, 24, 27, 30, 33, 34, 36, 37, 40, 41, 44, 46, 49, 52, 53, 56, 58, 59, 62, 65, 68, 69, 72, 73, 76, 77, 78, 79, 82, 85, 86])
/-- 119: AnnCups.perform(III)V -/
def mi_119 : mI := (6, yX6_perform, cX6_perform, 4, none, 4, false, [(.aload 0, .null), (.invokeinterface 6 7, .null), (.iload 1, .null), (.iload 2, .null), (.iload 3, .null), (.invokevirtual 24, .null), (.aload 0, .null), (.invokeinterface 6 4, .null), (.iload 1, .null), (.iload 2, .null), (.iload 3, .null), (.invokevirtual 8, .null), (.return_, .null)], [0, 1, 4, 5, 6, 7, 10, 11, 14, 15, 16, 17, 20])
/-- 120: AnnCups.performLot(II)V -/
def mi_120 : mI := (6, yX6_performLot, cX6_performLot, 4, none, 3, false, [(.aload 0, .null), (.invokeinterface 6 4, .null), (.invokeinterface 0 5, .null), (.iload 1, .null), (.iaload, .null), (.istore 3, .null), (.iload 3, .null), (.iconst 0, .int (-9)), (.if_icmp .ne 15, .null), (.aload 0, .null), (.iconst 0, .int 1), (.iload 1, .null), (.iconst 0, .int 0), (.invokevirtual 119, .null), (.goto 48, .null), (.iload 3, .null), (.iconst 0, .int 6), (.if_icmp .ne 24, .null), (.aload 0, .null), (.iconst 0, .int 3), (.iload 1, .null), (.iconst 0, .int 0), (.invokevirtual 119, .null), (.goto 48, .null), (.aload 0, .null), (.invokeinterface 6 2, .null), (.iload 3, .null), (.invokevirtual 14, .null), (.ifCond .eq 43, .null), (.iload 3, .null), (.iload 2, .null), (.if_icmp .eq 43, .null), (.aload 0, .null), (.invokeinterface 6 2, .null), (.iload 2, .null), (.invokevirtual 15, .null), (.ifCond .eq 43, .null), (.aload 0, .null), (.iconst 0, .int 2), (.iload 3, .null), (.iload 2, .null), (.invokevirtual 119, .null), (.goto 48, .null), (.aload 0, .null), (.iconst 0, .int 0), (.iconst 0, .int 0), (.iconst 0, .int 0), (.invokevirtual 119, .null), (.return_, .null)], [0, 1, 4, 7, 8, 9, 10, 11, 13, 16, 17, 18, 19, 20, 23, 26, 27, 29, 32, 33, 34, 35, 36, 39, 42, 43, 46, 47, 50, 53, 54, 55, 58, 59, 62, 63, 66, 69, 70, 71, 72, 73, 76, 79, 80, 81, 82, 83, 86])
/-- 121: AnnCups.bestOrder(II)I -/
def mi_121 : mI := (6, yX6_bestOrder, cX6_bestOrder, 4, (some .int), 3, false, [(.aload 0, .null), (.iload 1, .null), (.invokevirtual 96, .null), (.astore 3, .null), (.aload 3, .null), (.ifnonnull 8, .null), (.iconst 0, .int (-1)), (.ireturn, .null), (.aload 0, .null), (.invokeinterface 6 2, .null), (.invokeinterface 1 0, .null), (.ifCond .ne 14, .null), (.iconst 0, .int (-4)), (.ireturn, .null), (.aload 0, .null), (.invokeinterface 6 6, .null), (.aload 0, .null), (.invokeinterface 6 4, .null), (.iload 2, .null), (.invokevirtual 32, .null), (.aload 0, .null), (.invokeinterface 6 6, .null), (.aload 3, .null), (.invokevirtual 35, .null), (.aload 0, .null), (.invokeinterface 6 6, .null), (.invokeinterface 4 4, .null), (.ireturn, .null)], [0, 1, 2, 5, 6, 7, 10, 11, 12, 13, 16, 19, 22, 24, 25, 26, 29, 30, 33, 34, 37, 38, 41, 42, 45, 46, 49, 52])
/-- 122: AnnCups.leadsRing(I)Z -/
def mi_122 : mI := (6, yX6_leadsRing, cX6_leadsRing, 4, (some .boolean), 2, false, [(.iload 1, .null), (.istore 2, .null), (.iconst 0, .int 0), (.istore 3, .null), (.iload 3, .null), (.iconst 0, .int 6), (.if_icmp .ge 30, .null), (.aload 0, .null), (.invokeinterface 6 4, .null), (.invokeinterface 0 6, .null), (.iload 2, .null), (.iaload, .null), (.istore 2, .null), (.aload 0, .null), (.invokeinterface 6 2, .null), (.iload 2, .null), (.invokevirtual 14, .null), (.ifCond .eq 21, .null), (.iload 2, .null), (.iload 1, .null), (.if_icmp .ge 23, .null), (.iconst 0, .int 0), (.ireturn, .null), (.iload 2, .null), (.iload 1, .null), (.if_icmp .ne 28, .null), (.iconst 0, .int 1), (.ireturn, .null), (.iinc 3 0, .int 1), (.goto 4, .null), (.iconst 0, .int 0), (.ireturn, .null)], [0, 1, 2, 3, 4, 5, 7, 10, 11, 14, 17, 18, 19, 20, 21, 24, 25, 28, 31, 32, 33, 36, 37, 38, 39, 40, 43, 44, 45, 48, 51, 52])
/-- 123: AnnCups.tellsWhoTookWhat(LAnnCups$Row;)Z -/
def mi_123 : mI := (6, yX6_tellsWhoTookWhat, cX6_tellsWhoTookWhat, 6, (some .boolean), 2, false, [(.aload 0, .null), (.invokeinterface 6 4, .null), (.invokeinterface 0 3, .null), (.istore 2, .null), (.iconst 0, .int 0), (.istore 3, .null), (.iload 3, .null), (.iconst 0, .int 1), (.iadd, .null), (.aload 1, .null), (.invokeinterface 3 0, .null), (.if_icmp .ge 53, .null), (.aload 1, .null), (.invokeinterface 3 1, .null), (.iload 3, .null), (.iaload, .null), (.istore 4, .null), (.aload 1, .null), (.invokeinterface 3 1, .null), (.iload 3, .null), (.iconst 0, .int 1), (.iadd, .null), (.iaload, .null), (.istore 5, .null), (.aload 0, .null), (.invokeinterface 6 2, .null), (.iload 4, .null), (.invokevirtual 14, .null), (.ifCond .eq 43, .null), (.iload 2, .null), (.iconst 0, .int 1), (.iload 4, .null), (.ishl, .null), (.iand, .null), (.ifCond .ne 43, .null), (.aload 0, .null), (.invokeinterface 6 2, .null), (.iload 5, .null), (.invokevirtual 14, .null), (.ifCond .ne 45, .null), (.iload 5, .null), (.iconst 0, .int (-9)), (.if_icmp .eq 45, .null), (.iconst 0, .int 0), (.ireturn, .null), (.iload 2, .null), (.iconst 0, .int 1), (.iload 4, .null), (.ishl, .null), (.ior, .null), (.istore 2, .null), (.iinc 3 0, .int 2), (.goto 6, .null), (.iconst 0, .int 1), (.ireturn, .null)], [0, 1, 4, 7, 8, 9, 10, 11, 12, 13, 14, 17, 20, 21, 24, 25, 26, 28, 29, 32, 33, 34, 35, 36, 38, 39, 42, 44, 47, 50, 51, 52, 54, 55, 56, 59, 60, 63, 65, 68, 71, 73, 75, 78, 79, 80, 81, 82, 84, 85, 86, 87, 90, 93, 94])
/-- 124: AnnCups.wouldTakeSo(LAnnCups$Row;I)Z -/
def mi_124 : mI := (6, yX6_wouldTakeSo, cX6_wouldTakeSo, 7, (some .boolean), 3, false, [(.aload 0, .null), (.invokeinterface 6 4, .null), (.invokeinterface 0 4, .null), (.istore 3, .null), (.iconst 0, .int 0), (.istore 4, .null), (.iload 4, .null), (.iconst 0, .int 1), (.iadd, .null), (.aload 1, .null), (.invokeinterface 3 0, .null), (.if_icmp .ge 56, .null), (.aload 1, .null), (.invokeinterface 3 1, .null), (.iload 4, .null), (.iaload, .null), (.istore 5, .null), (.aload 0, .null), (.invokeinterface 6 2, .null), (.iload 5, .null), (.invokevirtual 14, .null), (.ifCond .ne 24, .null), (.iconst 0, .int 0), (.ireturn, .null), (.aload 0, .null), (.invokeinterface 6 2, .null), (.aload 0, .null), (.invokeinterface 6 2, .null), (.invokeinterface 1 7, .null), (.iload 5, .null), (.iaload, .null), (.iload 2, .null), (.invokevirtual 19, .null), (.iload 3, .null), (.iconst 0, .int (-1)), (.ixor, .null), (.iand, .null), (.invokestatic 103, .null), (.istore 6, .null), (.iload 6, .null), (.aload 1, .null), (.invokeinterface 3 1, .null), (.iload 4, .null), (.iconst 0, .int 1), (.iadd, .null), (.iaload, .null), (.if_icmp .eq 49, .null), (.iconst 0, .int 0), (.ireturn, .null), (.iload 3, .null), (.iload 6, .null), (.invokestatic 104, .null), (.ior, .null), (.istore 3, .null), (.iinc 4 0, .int 2), (.goto 6, .null), (.iconst 0, .int 1), (.ireturn, .null)], [0, 1, 4, 7, 8, 9, 11, 13, 14, 15, 16, 19, 22, 23, 26, 28, 29, 31, 32, 35, 37, 40, 43, 44, 45, 46, 49, 50, 53, 56, 58, 59, 60, 63, 64, 65, 66, 67, 70, 72, 74, 75, 78, 80, 81, 82, 83, 86, 87, 88, 89, 91, 94, 95, 96, 99, 102, 103])
/-- 125: AnnCups.barTurn(LAnnCups$Counter;I)I -/
def mi_125 : mI := (6, yX6_barTurn, cX6_barTurn, 7, (some .int), 2, true, [(.iload 1, .null), (.ifCond .gt 5, .null), (.aload 0, .null), (.invokevirtual 12, .null), (.ireturn, .null), (.aload 0, .null), (.invokeinterface 0 3, .null), (.aload 0, .null), (.invokeinterface 0 0, .null), (.invokevirtual 16, .null), (.if_icmp .ne 15, .null), (.aload 0, .null), (.iload 1, .null), (.invokestatic 126, .null), (.ireturn, .null), (.iconst 0, .int 7), (.istore 2, .null), (.iconst 0, .int 0), (.istore 3, .null), (.iload 3, .null), (.aload 0, .null), (.invokeinterface 0 0, .null), (.invokeinterface 1 0, .null), (.if_icmp .ge 54, .null), (.aload 0, .null), (.iload 3, .null), (.invokevirtual 3, .null), (.ifCond .ne 52, .null), (.aload 0, .null), (.invokeinterface 0 1, .null), (.istore 4, .null), (.aload 0, .null), (.invokeinterface 0 2, .null), (.istore 5, .null), (.aload 0, .null), (.invokeinterface 0 4, .null), (.istore 6, .null), (.aload 0, .null), (.iload 3, .null), (.invokevirtual 4, .null), (.iload 2, .null), (.aload 0, .null), (.iload 1, .null), (.invokestatic 126, .null), (.lxor, .null), (.istore 2, .null), (.aload 0, .null), (.iload 3, .null), (.iload 4, .null), (.iload 5, .null), (.iload 6, .null), (.invokevirtual 5, .null), (.iinc 3 0, .int 1), (.goto 19, .null), (.iload 2, .null), (.ireturn, .null)], [0, 1, 4, 5, 8, 9, 10, 13, 14, 17, 20, 23, 24, 25, 28, 29, 31, 32, 33, 34, 35, 36, 39, 42, 45, 46, 47, 50, 53, 54, 57, 59, 60, 63, 65, 66, 69, 71, 72, 73, 76, 77, 78, 79, 82, 85, 86, 87, 88, 90, 92, 94, 97, 100, 103, 104])
/-- 126: AnnCups.wagTurn(LAnnCups$Counter;I)I -/
def mi_126 : mI := (6, yX6_wagTurn, cX6_wagTurn, 5, (some .int), 2, true, [(.aload 0, .null), (.iload 1, .null), (.iconst 0, .int 1), (.isub, .null), (.invokestatic 125, .null), (.istore 2, .null), (.iconst 0, .int 0), (.istore 3, .null), (.iload 3, .null), (.aload 0, .null), (.invokeinterface 0 0, .null), (.invokeinterface 1 0, .null), (.if_icmp .ge 54, .null), (.iload 3, .null), (.iconst 0, .int 1), (.iadd, .null), (.istore 4, .null), (.iload 4, .null), (.aload 0, .null), (.invokeinterface 0 0, .null), (.invokeinterface 1 0, .null), (.if_icmp .ge 52, .null), (.aload 0, .null), (.invokeinterface 0 6, .null), (.iload 3, .null), (.iaload, .null), (.iconst 0, .int (-9)), (.if_icmp .eq 50, .null), (.aload 0, .null), (.invokeinterface 0 6, .null), (.iload 4, .null), (.iaload, .null), (.iconst 0, .int (-9)), (.if_icmp .eq 50, .null), (.aload 0, .null), (.iload 3, .null), (.iload 4, .null), (.invokevirtual 6, .null), (.iload 2, .null), (.aload 0, .null), (.iload 1, .null), (.iconst 0, .int 1), (.isub, .null), (.invokestatic 125, .null), (.lor, .null), (.istore 2, .null), (.aload 0, .null), (.iload 3, .null), (.iload 4, .null), (.invokevirtual 6, .null), (.iinc 4 0, .int 1), (.goto 17, .null), (.iinc 3 0, .int 1), (.goto 8, .null), (.iload 2, .null), (.ireturn, .null)], [0, 1, 2, 3, 4, 7, 8, 9, 10, 11, 12, 15, 18, 21, 22, 23, 24, 26, 28, 29, 32, 35, 38, 39, 42, 43, 44, 46, 49, 50, 53, 55, 56, 58, 61, 62, 63, 65, 68, 69, 70, 71, 72, 73, 76, 79, 80, 81, 82, 84, 87, 90, 93, 96, 99, 100])
/-- 127: AnnCups.wrongWithout(I)I -/
def mi_127 : mI := (6, yX6_wrongWithout, cX6_wrongWithout, 6, (some .int), 2, false, [(.aload 0, .null), (.invokeinterface 6 4, .null), (.invokeinterface 0 4, .null), (.iload 1, .null), (.ior, .null), (.istore 2, .null), (.aload 0, .null), (.invokeinterface 6 4, .null), (.invokevirtual 12, .null), (.istore 3, .null), (.iconst 0, .int 0), (.istore 4, .null), (.iload 4, .null), (.aload 0, .null), (.invokeinterface 6 2, .null), (.invokeinterface 1 0, .null), (.if_icmp .ge 47, .null), (.aload 0, .null), (.invokeinterface 6 4, .null), (.iload 4, .null), (.invokevirtual 3, .null), (.ifCond .ne 45, .null), (.aload 0, .null), (.invokeinterface 6 2, .null), (.iload 4, .null), (.iload 2, .null), (.invokevirtual 18, .null), (.istore 5, .null), (.iload 2, .null), (.iload 5, .null), (.invokestatic 104, .null), (.ior, .null), (.istore 2, .null), (.iload 3, .null), (.iload 5, .null), (.iconst 0, .int (-9)), (.if_icmp .eq 42, .null), (.iload 5, .null), (.iload 4, .null), (.if_icmp .eq 42, .null), (.iconst 0, .int 1), (.goto 43, .null), (.iconst 0, .int 0), (.iadd, .null), (.istore 3, .null), (.iinc 4 0, .int 1), (.goto 12, .null), (.iload 3, .null), (.ireturn, .null)], [0, 1, 4, 7, 8, 9, 10, 11, 14, 17, 18, 19, 21, 23, 24, 27, 30, 33, 34, 37, 39, 42, 45, 46, 49, 51, 52, 55, 57, 58, 60, 63, 64, 65, 66, 68, 70, 73, 75, 77, 80, 81, 84, 85, 86, 87, 90, 93, 94])
/-- 128: AnnCupsModel.<init>()V -/
def mi_128 : mI := (7, yX7_init, cX7_init, 2, none, 1, false, [(.aload 0, .null), (.pop, .null), (.aload 0, .null), (.iconst 0, .int 6), (.anewarray 29, .null), (.multianewarray 7 0, .null), (.aload 0, .null), (.iconst 0, .int 240), (.anewarray 30, .null), (.multianewarray 7 1, .null), (.aload 0, .null), (.iconst 0, .int 4), (.anewarray 31, .null), (.multianewarray 7 2, .null), (.aload 0, .null), (.iconst 0, .int 240), (.anewarray 32, .null), (.multianewarray 7 3, .null), (.aload 0, .null), (.iconst 0, .int 6), (.anewarray 33, .null), (.multianewarray 7 6, .null), (.aload 0, .null), (.iconst 0, .int 6), (.anewarray 34, .null), (.multianewarray 7 7, .null), (.aload 0, .null), (.iconst 0, .int 6), (.anewarray 35, .null), (.multianewarray 7 8, .null), (.aload 0, .null), (.iconst 0, .int 6), (.anewarray 36, .null), (.multianewarray 7 9, .null), (.aload 0, .null), (.iconst 0, .int 6), (.anewarray 37, .null), (.multianewarray 7 10, .null), (.aload 0, .null), (.iconst 0, .int 9), (.anewarray 38, .null), (.multianewarray 7 11, .null), (.aload 0, .null), (.iconst 0, .int 9), (.anewarray 39, .null), (.multianewarray 7 12, .null), (.aload 0, .null), (.iconst 0, .int 360), (.anewarray 40, .null), (.multianewarray 7 14, .null), (.aload 0, .null), (.iconst 0, .int 1110), (.anewarray 41, .null), (.multianewarray 7 15, .null), (.aload 0, .null), (.iconst 0, .int 3), (.anewarray 42, .null), (.multianewarray 7 16, .null), (.aload 0, .null), (.lconst 0, .long 1), (.multianewarray 7 19, .null), (.aload 0, .null), (.iconst 0, .int 6), (.anewarray 43, .null), (.multianewarray 7 21, .null), (.aload 0, .null), (.iconst 0, .int 30), (.anewarray 44, .null), (.multianewarray 7 25, .null), (.aload 0, .null), (.iconst 0, .int 6), (.anewarray 45, .null), (.multianewarray 7 27, .null), (.aload 0, .null), (.iconst 0, .int 6), (.anewarray 46, .null), (.multianewarray 7 28, .null), (.aload 0, .null), (.iconst 0, .int 63), (.anewarray 47, .null), (.multianewarray 7 30, .null), (.aload 0, .null), (.iconst 0, .int 7), (.anewarray 48, .null), (.multianewarray 7 31, .null), (.aload 0, .null), (.iconst 0, .int 45), (.anewarray 49, .null), (.multianewarray 7 32, .null), (.aload 0, .null), (.iconst 0, .int 5), (.anewarray 50, .null), (.multianewarray 7 33, .null), (.aload 0, .null), (.iconst 0, .int 5), (.anewarray 51, .null), (.multianewarray 7 34, .null), (.iconst 0, .int 0), (.istore 1, .null), (.iload 1, .null), (.iconst 0, .int 6), (.if_icmp .ge 109, .null), (.aload 0, .null), (.invokeinterface 7 0, .null), (.iload 1, .null), (.iconst 0, .int (-1)), (.iastore, .null), (.iinc 1 0, .int 1), (.goto 99, .null), (.iconst 0, .int 0), (.istore 1, .null), (.iload 1, .null), (.iconst 0, .int 4), (.if_icmp .ge 121, .null), (.aload 0, .null), (.invokeinterface 7 2, .null), (.iload 1, .null), (.iconst 0, .int (-1)), (.iastore, .null), (.iinc 1 0, .int 1), (.goto 111, .null), (.aload 0, .null), (.invokevirtual 153, .null), (.return_, .null)], [0, 1, 4, 5, 7, 9, 12, 13, 16, 18, 21, 22, 23, 25, 28, 29, 32, 34, 37, 38, 40, 42, 45, 46, 48, 50, 53, 54, 56, 58, 61, 62, 64, 66, 69, 70, 72, 74, 77, 78, 80, 82, 85, 86, 88, 90, 93, 94, 97, 99, 102, 103, 106, 108, 111, 112, 113, 115, 118, 119, 120, 123, 124, 126, 128, 131, 132, 134, 136, 139, 140, 142, 144, 147, 148, 150, 152, 155, 156, 158, 160, 163, 164, 166, 168, 171, 172, 174, 176, 179, 180, 181, 183, 186, 187, 188, 190, 193, 194, 195, 196, 198, 201, 202, 205, 206, 207, 208, 211, 214, 215, 216, 217, 218, 221, 222, 225, 226, 227, 228, 231, 234, 235, 238])
/-- 129: AnnCupsModel.in(JJJ)Z -/
def mi_129 : mI := (7, yX7_in, cX7_in, 6, (some .boolean), 3, true, [(.lload 0, .null), (.lload 2, .null), (.lcmp, .null), (.ifCond .lt 10, .null), (.lload 0, .null), (.lload 4, .null), (.lcmp, .null), (.ifCond .gt 10, .null), (.iconst 0, .int 1), (.goto 11, .null), (.iconst 0, .int 0), (.ireturn, .null)], [0, 1, 2, 3, 6, 7, 9, 10, 13, 14, 17, 18])
/-- 130: AnnCupsModel.has(II)Z -/
def mi_130 : mI := (7, yX7_has, cX7_has, 2, (some .boolean), 2, true, [(.iload 0, .null), (.iload 1, .null), (.ishr, .null), (.iconst 0, .int 1), (.iand, .null), (.iconst 0, .int 1), (.if_icmp .ne 9, .null), (.iconst 0, .int 1), (.goto 10, .null), (.iconst 0, .int 0), (.ireturn, .null)], [0, 1, 2, 3, 4, 5, 6, 9, 10, 13, 14])
/-- 131: AnnCupsModel.bits(I)I -/
def mi_131 : mI := (7, yX7_bits, cX7_bits, 3, (some .int), 1, true, [(.iconst 0, .int 0), (.istore 1, .null), (.iload 0, .null), (.istore 2, .null), (.iload 2, .null), (.ifCond .eq 14, .null), (.iinc 1 0, .int 1), (.iload 2, .null), (.iload 2, .null), (.iconst 0, .int 1), (.isub, .null), (.iand, .null), (.istore 2, .null), (.goto 4, .null), (.iload 1, .null), (.ireturn, .null)], [0, 1, 2, 3, 4, 5, 8, 11, 12, 13, 14, 15, 16, 17, 20, 21])
/-- 132: AnnCupsModel.found(I)I -/
def mi_132 : mI := (7, yX7_found, cX7_found, 2, (some .int), 2, false, [(.aload 0, .null), (.iload 1, .null), (.multianewarray 7 20, .null), (.aload 0, .null), (.invokeinterface 7 21, .null), (.iload 1, .null), (.dup2, .null), (.iaload, .null), (.iconst 0, .int 1), (.iadd, .null), (.iastore, .null), (.iconst 0, .int (-3)), (.ireturn, .null)], [0, 1, 2, 5, 6, 9, 10, 11, 12, 13, 14, 15, 17])
/-- 133: AnnCupsModel.tell(I)I -/
def mi_133 : mI := (7, yX7_tell, cX7_tell, 2, (some .int), 2, false, [(.aload 0, .null), (.iload 1, .null), (.multianewarray 7 17, .null), (.iconst 0, .int 1), (.ireturn, .null)], [0, 1, 2, 5, 6])
/-- 134: AnnCupsModel.answer(II)I -/
def mi_134 : mI := (7, yX7_answer, cX7_answer, 3, (some .int), 3, false, [(.aload 0, .null), (.iload 2, .null), (.multianewarray 7 17, .null), (.iload 1, .null), (.ireturn, .null)], [0, 1, 2, 5, 6])
/-- 135: AnnCupsModel.isRow(I)Z -/
def mi_135 : mI := (7, yX7_isRow, cX7_isRow, 1, (some .boolean), 1, true, [(.iload 0, .null), (.i2l, .null), (.lconst 0, .long 0), (.lconst 0, .long 5), (.invokestatic 129, .null), (.ireturn, .null)], [0, 1, 2, 3, 6, 9])
/-- 136: AnnCupsModel.isText(I)Z -/
def mi_136 : mI := (7, yX7_isText, cX7_isText, 1, (some .boolean), 1, true, [(.iload 0, .null), (.i2l, .null), (.lconst 0, .long 0), (.lconst 0, .long 3), (.invokestatic 129, .null), (.ireturn, .null)], [0, 1, 2, 3, 6, 9])
/-- 137: AnnCupsModel.row(II)I -/
def mi_137 : mI := (7, yX7_row, cX7_row, 4, (some .int), 3, false, [(.iload 1, .null), (.invokestatic 135, .null), (.ifCond .eq 6, .null), (.iload 2, .null), (.iconst 0, .int 40), (.if_icmp .le 8, .null), (.iconst 0, .int (-1)), (.ireturn, .null), (.iload 2, .null), (.ifCond .ge 14, .null), (.aload 0, .null), (.iconst 0, .int 5), (.invokevirtual 132, .null), (.ireturn, .null), (.aload 0, .null), (.invokeinterface 7 0, .null), (.iload 1, .null), (.iload 2, .null), (.iastore, .null), (.iconst 0, .int 0), (.istore 3, .null), (.iload 3, .null), (.iconst 0, .int 40), (.if_icmp .ge 35, .null), (.aload 0, .null), (.invokeinterface 7 1, .null), (.iconst 0, .int 40), (.iload 1, .null), (.imul, .null), (.iload 3, .null), (.iadd, .null), (.iconst 0, .int 0), (.iastore, .null), (.iinc 3 0, .int 1), (.goto 21, .null), (.iload 2, .null), (.ireturn, .null)], [0, 1, 4, 7, 8, 10, 13, 14, 15, 16, 19, 20, 21, 24, 25, 26, 29, 30, 31, 32, 33, 34, 35, 37, 40, 41, 44, 46, 47, 48, 49, 50, 51, 52, 55, 58, 59])
/-- 138: AnnCupsModel.lay(III)I -/
def mi_138 : mI := (7, yX7_lay, cX7_lay, 5, (some .int), 4, false, [(.iload 1, .null), (.invokestatic 135, .null), (.ifCond .ne 5, .null), (.iconst 0, .int (-1)), (.ireturn, .null), (.aload 0, .null), (.invokeinterface 7 0, .null), (.iload 1, .null), (.iaload, .null), (.ifCond .ge 14, .null), (.aload 0, .null), (.iconst 0, .int 1), (.invokevirtual 132, .null), (.ireturn, .null), (.iload 2, .null), (.i2l, .null), (.lconst 0, .long 0), (.aload 0, .null), (.invokeinterface 7 0, .null), (.iload 1, .null), (.iaload, .null), (.iconst 0, .int 1), (.isub, .null), (.i2l, .null), (.invokestatic 129, .null), (.ifCond .ne 30, .null), (.aload 0, .null), (.iconst 0, .int 2), (.invokevirtual 132, .null), (.ireturn, .null), (.aload 0, .null), (.invokeinterface 7 1, .null), (.iconst 0, .int 40), (.iload 1, .null), (.imul, .null), (.iload 2, .null), (.iadd, .null), (.iaload, .null), (.istore 4, .null), (.aload 0, .null), (.invokeinterface 7 1, .null), (.iconst 0, .int 40), (.iload 1, .null), (.imul, .null), (.iload 2, .null), (.iadd, .null), (.iload 3, .null), (.iastore, .null), (.aload 0, .null), (.iload 4, .null), (.invokevirtual 133, .null), (.ireturn, .null)], [0, 1, 4, 7, 8, 9, 10, 13, 14, 15, 18, 19, 20, 23, 24, 25, 26, 27, 28, 31, 32, 33, 34, 35, 36, 39, 42, 43, 44, 47, 48, 49, 52, 54, 55, 56, 57, 58, 59, 61, 62, 65, 67, 68, 69, 70, 71, 72, 73, 74, 76, 79])
/-- 139: AnnCupsModel.at(II)I -/
def mi_139 : mI := (7, yX7_at, cX7_at, 3, (some .int), 3, false, [(.iload 1, .null), (.invokestatic 135, .null), (.ifCond .ne 5, .null), (.iconst 0, .int (-1)), (.ireturn, .null), (.aload 0, .null), (.invokeinterface 7 0, .null), (.iload 1, .null), (.iaload, .null), (.ifCond .ge 14, .null), (.aload 0, .null), (.iconst 0, .int 1), (.invokevirtual 132, .null), (.ireturn, .null), (.iload 2, .null), (.i2l, .null), (.lconst 0, .long 0), (.aload 0, .null), (.invokeinterface 7 0, .null), (.iload 1, .null), (.iaload, .null), (.iconst 0, .int 1), (.isub, .null), (.i2l, .null), (.invokestatic 129, .null), (.ifCond .eq 37, .null), (.aload 0, .null), (.aload 0, .null), (.invokeinterface 7 1, .null), (.iconst 0, .int 40), (.iload 1, .null), (.imul, .null), (.iload 2, .null), (.iadd, .null), (.iaload, .null), (.invokevirtual 133, .null), (.goto 40, .null), (.aload 0, .null), (.iconst 0, .int 2), (.invokevirtual 132, .null), (.ireturn, .null)], [0, 1, 4, 7, 8, 9, 10, 13, 14, 15, 18, 19, 20, 23, 24, 25, 26, 27, 28, 31, 32, 33, 34, 35, 36, 39, 42, 43, 44, 47, 49, 50, 51, 52, 53, 54, 57, 60, 61, 62, 65])
/-- 140: AnnCupsModel.tear(I)I -/
def mi_140 : mI := (7, yX7_tear, cX7_tear, 2, (some .int), 2, false, [(.iload 1, .null), (.invokestatic 135, .null), (.ifCond .ne 5, .null), (.iconst 0, .int (-1)), (.ireturn, .null), (.aload 0, .null), (.invokeinterface 7 0, .null), (.iload 1, .null), (.iaload, .null), (.ifCond .ge 14, .null), (.aload 0, .null), (.iconst 0, .int 1), (.invokevirtual 132, .null), (.ireturn, .null), (.aload 0, .null), (.invokeinterface 7 0, .null), (.iload 1, .null), (.iconst 0, .int (-1)), (.iastore, .null), (.iconst 0, .int 1), (.ireturn, .null)], [0, 1, 4, 7, 8, 9, 10, 13, 14, 15, 18, 19, 20, 23, 24, 25, 28, 29, 30, 31, 32])
/-- 141: AnnCupsModel.copy(IIIII)I -/
def mi_141 : mI := (7, yX7_copy, cX7_copy, 8, (some .int), 6, false, [(.iload 1, .null), (.invokestatic 135, .null), (.ifCond .eq 6, .null), (.iload 3, .null), (.invokestatic 135, .null), (.ifCond .ne 8, .null), (.iconst 0, .int (-1)), (.ireturn, .null), (.iload 5, .null), (.ifCond .ge 14, .null), (.aload 0, .null), (.iconst 0, .int 5), (.invokevirtual 132, .null), (.ireturn, .null), (.aload 0, .null), (.invokeinterface 7 0, .null), (.iload 1, .null), (.iaload, .null), (.ifCond .lt 24, .null), (.aload 0, .null), (.invokeinterface 7 0, .null), (.iload 3, .null), (.iaload, .null), (.ifCond .ge 28, .null), (.aload 0, .null), (.iconst 0, .int 1), (.invokevirtual 132, .null), (.ireturn, .null), (.iload 2, .null), (.ifCond .lt 56, .null), (.iload 4, .null), (.ifCond .lt 56, .null), (.iload 2, .null), (.i2l, .null), (.iload 5, .null), (.i2l, .null), (.ladd, .null), (.aload 0, .null), (.invokeinterface 7 0, .null), (.iload 1, .null), (.iaload, .null), (.i2l, .null), (.lcmp, .null), (.ifCond .gt 56, .null), (.iload 4, .null), (.i2l, .null), (.iload 5, .null), (.i2l, .null), (.ladd, .null), (.aload 0, .null), (.invokeinterface 7 0, .null), (.iload 3, .null), (.iaload, .null), (.i2l, .null), (.lcmp, .null), (.ifCond .le 60, .null), (.aload 0, .null), (.iconst 0, .int 2), (.invokevirtual 132, .null), (.ireturn, .null), (.iconst 0, .int 0), (.istore 6, .null), (.iload 6, .null), (.iload 5, .null), (.if_icmp .ge 98, .null), (.iload 4, .null), (.iload 2, .null), (.if_icmp .le 74, .null), (.iload 5, .null), (.iconst 0, .int 1), (.isub, .null), (.iload 6, .null), (.isub, .null), (.goto 75, .null), (.iload 6, .null), (.istore 7, .null), (.aload 0, .null), (.invokeinterface 7 1, .null), (.iconst 0, .int 40), (.iload 3, .null), (.imul, .null), (.iload 4, .null), (.iadd, .null), (.iload 7, .null), (.iadd, .null), (.aload 0, .null), (.invokeinterface 7 1, .null), (.iconst 0, .int 40), (.iload 1, .null), (.imul, .null), (.iload 2, .null), (.iadd, .null), (.iload 7, .null), (.iadd, .null), (.iaload, .null), (.iastore, .null), (.iinc 6 0, .int 1), (.goto 62, .null), (.iconst 0, .int 1), (.ireturn, .null)], [0, 1, 4, 7, 8, 11, 14, 15, 16, 18, 21, 22, 23, 26, 27, 28, 31, 32, 33, 36, 37, 40, 41, 42, 45, 46, 47, 50, 51, 52, 55, 57, 60, 61, 62, 64, 65, 66, 67, 70, 71, 72, 73, 74, 77, 79, 80, 82, 83, 84, 85, 88, 89, 90, 91, 92, 95, 96, 97, 100, 101, 102, 104, 106, 108, 111, 113, 114, 117, 119, 120, 121, 123, 124, 127, 129, 131, 132, 135, 137, 138, 139, 141, 142, 144, 145, 146, 149, 151, 152, 153, 154, 155, 157, 158, 159, 160, 163, 166, 167])
/-- 142: AnnCupsModel.mean(I)I -/
def mi_142 : mI := (7, yX7_mean, cX7_mean, 5, (some .int), 2, false, [(.iload 1, .null), (.invokestatic 135, .null), (.ifCond .ne 5, .null), (.iconst 0, .int (-1)), (.ireturn, .null), (.aload 0, .null), (.invokeinterface 7 0, .null), (.iload 1, .null), (.iaload, .null), (.ifCond .ge 14, .null), (.aload 0, .null), (.iconst 0, .int 1), (.invokevirtual 132, .null), (.ireturn, .null), (.aload 0, .null), (.invokeinterface 7 0, .null), (.iload 1, .null), (.iaload, .null), (.ifCond .ne 23, .null), (.aload 0, .null), (.iconst 0, .int 4), (.invokevirtual 132, .null), (.ireturn, .null), (.lconst 0, .long 0), (.lstore 2, .null), (.iconst 0, .int 0), (.istore 4, .null), (.iload 4, .null), (.aload 0, .null), (.invokeinterface 7 0, .null), (.iload 1, .null), (.iaload, .null), (.if_icmp .ge 47, .null), (.lload 2, .null), (.aload 0, .null), (.invokeinterface 7 1, .null), (.iconst 0, .int 40), (.iload 1, .null), (.imul, .null), (.iload 4, .null), (.iadd, .null), (.iaload, .null), (.i2l, .null), (.ladd, .null), (.lstore 2, .null), (.iinc 4 0, .int 1), (.goto 27, .null), (.aload 0, .null), (.lload 2, .null), (.aload 0, .null), (.invokeinterface 7 0, .null), (.iload 1, .null), (.iaload, .null), (.i2l, .null), (.ldiv, .null), (.l2i, .null), (.invokevirtual 133, .null), (.ireturn, .null)], [0, 1, 4, 7, 8, 9, 10, 13, 14, 15, 18, 19, 20, 23, 24, 25, 28, 29, 30, 33, 34, 35, 38, 39, 40, 41, 42, 44, 46, 47, 50, 51, 52, 55, 56, 57, 60, 62, 63, 64, 66, 67, 68, 69, 70, 71, 74, 77, 78, 79, 80, 83, 84, 85, 86, 87, 88, 91])
/-- 143: AnnCupsModel.text(II)I -/
def mi_143 : mI := (7, yX7_text, cX7_text, 4, (some .int), 3, false, [(.iload 1, .null), (.invokestatic 136, .null), (.ifCond .eq 6, .null), (.iload 2, .null), (.iconst 0, .int 60), (.if_icmp .le 8, .null), (.iconst 0, .int (-1)), (.ireturn, .null), (.iload 2, .null), (.ifCond .ge 14, .null), (.aload 0, .null), (.iconst 0, .int 5), (.invokevirtual 132, .null), (.ireturn, .null), (.aload 0, .null), (.invokeinterface 7 2, .null), (.iload 1, .null), (.iload 2, .null), (.iastore, .null), (.iconst 0, .int 0), (.istore 3, .null), (.iload 3, .null), (.iconst 0, .int 60), (.if_icmp .ge 35, .null), (.aload 0, .null), (.invokeinterface 7 3, .null), (.iconst 0, .int 60), (.iload 1, .null), (.imul, .null), (.iload 3, .null), (.iadd, .null), (.iconst 0, .int 32), (.iastore, .null), (.iinc 3 0, .int 1), (.goto 21, .null), (.iload 2, .null), (.ireturn, .null)], [0, 1, 4, 7, 8, 10, 13, 14, 15, 16, 19, 20, 21, 24, 25, 26, 29, 30, 31, 32, 33, 34, 35, 37, 40, 41, 44, 46, 47, 48, 49, 50, 52, 53, 56, 59, 60])
/-- 144: AnnCupsModel.put(III)I -/
def mi_144 : mI := (7, yX7_put, cX7_put, 5, (some .int), 4, false, [(.iload 1, .null), (.invokestatic 136, .null), (.ifCond .ne 5, .null), (.iconst 0, .int (-1)), (.ireturn, .null), (.aload 0, .null), (.invokeinterface 7 2, .null), (.iload 1, .null), (.iaload, .null), (.ifCond .ge 14, .null), (.aload 0, .null), (.iconst 0, .int 1), (.invokevirtual 132, .null), (.ireturn, .null), (.iload 2, .null), (.i2l, .null), (.lconst 0, .long 0), (.aload 0, .null), (.invokeinterface 7 2, .null), (.iload 1, .null), (.iaload, .null), (.iconst 0, .int 1), (.isub, .null), (.i2l, .null), (.invokestatic 129, .null), (.ifCond .ne 30, .null), (.aload 0, .null), (.iconst 0, .int 2), (.invokevirtual 132, .null), (.ireturn, .null), (.aload 0, .null), (.invokeinterface 7 3, .null), (.iconst 0, .int 60), (.iload 1, .null), (.imul, .null), (.iload 2, .null), (.iadd, .null), (.iaload, .null), (.istore 4, .null), (.aload 0, .null), (.invokeinterface 7 3, .null), (.iconst 0, .int 60), (.iload 1, .null), (.imul, .null), (.iload 2, .null), (.iadd, .null), (.iload 3, .null), (.i2b, .null), (.iastore, .null), (.iload 4, .null), (.iconst 0, .int 1000), (.iadd, .null), (.ireturn, .null)], [0, 1, 4, 7, 8, 9, 10, 13, 14, 15, 18, 19, 20, 23, 24, 25, 26, 27, 28, 31, 32, 33, 34, 35, 36, 39, 42, 43, 44, 47, 48, 49, 52, 54, 55, 56, 57, 58, 59, 61, 62, 65, 67, 68, 69, 70, 71, 72, 73, 74, 76, 79, 80])
/-- 145: AnnCupsModel.byteAt(I)I -/
def mi_145 : mI := (7, yX7_byteAt, cX7_byteAt, 2, (some .int), 2, false, [(.aload 0, .null), (.invokeinterface 7 22, .null), (.aload 0, .null), (.invokeinterface 7 2, .null), (.iload 1, .null), (.iaload, .null), (.if_icmp .ge 17, .null), (.aload 0, .null), (.invokeinterface 7 3, .null), (.iconst 0, .int 60), (.iload 1, .null), (.imul, .null), (.aload 0, .null), (.invokeinterface 7 22, .null), (.iadd, .null), (.iaload, .null), (.goto 18, .null), (.iconst 0, .int (-1000)), (.ireturn, .null)], [0, 1, 4, 5, 8, 9, 10, 13, 14, 17, 19, 20, 21, 22, 25, 26, 27, 30, 33])
/-- 146: AnnCupsModel.blanks(I)V -/
def mi_146 : mI := (7, yX7_blanks, cX7_blanks, 2, none, 2, false, [(.aload 0, .null), (.iload 1, .null), (.invokevirtual 145, .null), (.iconst 0, .int 32), (.if_icmp .ne 12, .null), (.aload 0, .null), (.dup, .null), (.invokeinterface 7 22, .null), (.iconst 0, .int 1), (.iadd, .null), (.multianewarray 7 22, .null), (.goto 0, .null), (.return_, .null)], [0, 1, 2, 5, 7, 10, 11, 12, 15, 16, 17, 20, 23])
/-- 147: AnnCupsModel.kindOf(I)I -/
def mi_147 : mI := (7, yX7_kindOf, cX7_kindOf, 1, (some .int), 1, true, [(.iload 0, .null), (.iconst 0, .int 99), (.if_icmp .ne 5, .null), (.iconst 0, .int 0), (.goto 31, .null), (.iload 0, .null), (.iconst 0, .int 106), (.if_icmp .ne 10, .null), (.iconst 0, .int 1), (.goto 31, .null), (.iload 0, .null), (.iconst 0, .int 116), (.if_icmp .ne 15, .null), (.iconst 0, .int 2), (.goto 31, .null), (.iload 0, .null), (.iconst 0, .int 103), (.if_icmp .ne 20, .null), (.iconst 0, .int 3), (.goto 31, .null), (.iload 0, .null), (.iconst 0, .int 102), (.if_icmp .ne 25, .null), (.iconst 0, .int 4), (.goto 31, .null), (.iload 0, .null), (.iconst 0, .int 100), (.if_icmp .ne 30, .null), (.iconst 0, .int 5), (.goto 31, .null), (.iconst 0, .int (-1)), (.ireturn, .null)], [0, 1, 3, 6, 7, 10, 11, 13, 16, 17, 20, 21, 23, 26, 27, 30, 31, 33, 36, 37, 40, 41, 43, 46, 47, 50, 51, 53, 56, 57, 60, 61])
/-- 148: AnnCupsModel.takes(III)Z -/
def mi_148 : mI := (7, yX7_takes, cX7_takes, 4, (some .boolean), 4, false, [(.aload 0, .null), (.aload 0, .null), (.iload 1, .null), (.invokevirtual 145, .null), (.iconst 0, .int 48), (.isub, .null), (.multianewarray 7 26, .null), (.aload 0, .null), (.invokeinterface 7 26, .null), (.i2l, .null), (.iload 2, .null), (.i2l, .null), (.iload 3, .null), (.i2l, .null), (.invokestatic 129, .null), (.ifCond .ne 18, .null), (.iconst 0, .int 0), (.ireturn, .null), (.aload 0, .null), (.dup, .null), (.invokeinterface 7 22, .null), (.iconst 0, .int 1), (.iadd, .null), (.multianewarray 7 22, .null), (.iconst 0, .int 1), (.ireturn, .null)], [0, 1, 2, 3, 6, 8, 9, 12, 13, 16, 17, 18, 19, 20, 21, 24, 27, 28, 29, 30, 31, 34, 35, 36, 39, 40])
/-- 149: AnnCupsModel.readsEars(I)Z -/
def mi_149 : mI := (7, yX7_readsEars, cX7_readsEars, 2, (some .boolean), 2, false, [(.aload 0, .null), (.iload 1, .null), (.invokevirtual 145, .null), (.iconst 0, .int 101), (.if_icmp .eq 7, .null), (.iconst 0, .int 0), (.ireturn, .null), (.aload 0, .null), (.dup, .null), (.invokeinterface 7 22, .null), (.iconst 0, .int 1), (.iadd, .null), (.multianewarray 7 22, .null), (.aload 0, .null), (.iload 1, .null), (.iconst 0, .int 0), (.iconst 0, .int 9), (.invokevirtual 148, .null), (.ifCond .ne 21, .null), (.iconst 0, .int 0), (.ireturn, .null), (.aload 0, .null), (.aload 0, .null), (.invokeinterface 7 26, .null), (.multianewarray 7 23, .null), (.iconst 0, .int 1), (.ireturn, .null)], [0, 1, 2, 5, 7, 10, 11, 12, 13, 14, 17, 18, 19, 22, 23, 24, 25, 27, 30, 33, 34, 35, 36, 37, 40, 43, 44])
/-- 150: AnnCupsModel.readsCup(I)Z -/
def mi_150 : mI := (7, yX7_readsCup, cX7_readsCup, 5, (some .boolean), 2, false, [(.aload 0, .null), (.iload 1, .null), (.invokevirtual 145, .null), (.invokestatic 147, .null), (.istore 2, .null), (.iload 2, .null), (.ifCond .lt 11, .null), (.aload 0, .null), (.invokeinterface 7 24, .null), (.iconst 0, .int 6), (.if_icmp .ne 13, .null), (.iconst 0, .int 0), (.ireturn, .null), (.aload 0, .null), (.dup, .null), (.invokeinterface 7 22, .null), (.iconst 0, .int 1), (.iadd, .null), (.multianewarray 7 22, .null), (.iconst 0, .int 5), (.aload 0, .null), (.invokeinterface 7 24, .null), (.imul, .null), (.istore 3, .null), (.aload 0, .null), (.invokeinterface 7 25, .null), (.iload 3, .null), (.iload 2, .null), (.iastore, .null), (.iconst 0, .int 1), (.istore 4, .null), (.iload 4, .null), (.iconst 0, .int 5), (.if_icmp .ge 62, .null), (.aload 0, .null), (.iload 1, .null), (.iload 4, .null), (.iconst 0, .int 1), (.if_icmp .ne 41, .null), (.iconst 0, .int 1), (.goto 42, .null), (.iconst 0, .int 0), (.iload 4, .null), (.iconst 0, .int 2), (.if_icmp .ne 47, .null), (.iconst 0, .int 3), (.goto 48, .null), (.iconst 0, .int 9), (.invokevirtual 148, .null), (.ifCond .ne 52, .null), (.iconst 0, .int 0), (.ireturn, .null), (.aload 0, .null), (.invokeinterface 7 25, .null), (.iload 3, .null), (.iload 4, .null), (.iadd, .null), (.aload 0, .null), (.invokeinterface 7 26, .null), (.iastore, .null), (.iinc 4 0, .int 1), (.goto 31, .null), (.aload 0, .null), (.dup, .null), (.invokeinterface 7 24, .null), (.iconst 0, .int 1), (.iadd, .null), (.multianewarray 7 24, .null), (.iconst 0, .int 1), (.ireturn, .null)], [0, 1, 2, 5, 8, 9, 10, 13, 14, 17, 19, 22, 23, 24, 25, 26, 29, 30, 31, 34, 35, 36, 39, 40, 41, 42, 45, 46, 47, 48, 49, 51, 53, 54, 57, 58, 59, 61, 62, 65, 66, 69, 70, 72, 73, 76, 77, 80, 82, 85, 88, 89, 90, 91, 94, 95, 97, 98, 99, 102, 103, 106, 109, 110, 111, 114, 115, 116, 119, 120])
/-- 151: AnnCupsModel.faultOf(I)I -/
def mi_151 : mI := (7, yX7_faultOf, cX7_faultOf, 3, (some .int), 2, false, [(.aload 0, .null), (.iconst 0, .int 0), (.multianewarray 7 22, .null), (.aload 0, .null), (.iconst 0, .int 0), (.multianewarray 7 24, .null), (.aload 0, .null), (.iload 1, .null), (.invokevirtual 146, .null), (.aload 0, .null), (.iload 1, .null), (.invokevirtual 149, .null), (.istore 2, .null), (.iload 2, .null), (.ifCond .eq 35, .null), (.aload 0, .null), (.iload 1, .null), (.invokevirtual 146, .null), (.aload 0, .null), (.invokeinterface 7 22, .null), (.aload 0, .null), (.invokeinterface 7 2, .null), (.iload 1, .null), (.iaload, .null), (.if_icmp .ne 30, .null), (.aload 0, .null), (.invokeinterface 7 24, .null), (.ifCond .le 30, .null), (.iconst 0, .int (-9)), (.ireturn, .null), (.aload 0, .null), (.iload 1, .null), (.invokevirtual 150, .null), (.istore 2, .null), (.goto 13, .null), (.aload 0, .null), (.invokeinterface 7 22, .null), (.ireturn, .null)], [0, 1, 2, 5, 6, 7, 10, 11, 12, 15, 16, 17, 20, 21, 22, 25, 26, 27, 30, 31, 34, 35, 38, 39, 40, 43, 44, 47, 50, 52, 53, 54, 55, 58, 59, 62, 63, 66])
/-- 152: AnnCupsModel.fault(I)I -/
def mi_152 : mI := (7, yX7_fault, cX7_fault, 2, (some .int), 2, false, [(.iload 1, .null), (.invokestatic 136, .null), (.ifCond .ne 5, .null), (.iconst 0, .int (-1)), (.ireturn, .null), (.aload 0, .null), (.invokeinterface 7 2, .null), (.iload 1, .null), (.iaload, .null), (.ifCond .ge 14, .null), (.aload 0, .null), (.iconst 0, .int 1), (.invokevirtual 132, .null), (.goto 17, .null), (.aload 0, .null), (.iload 1, .null), (.invokevirtual 151, .null), (.ireturn, .null)], [0, 1, 4, 7, 8, 9, 10, 13, 14, 15, 18, 19, 20, 23, 26, 27, 28, 31])
/-- 153: AnnCupsModel.begins()V -/
def mi_153 : mI := (7, yX7_begins, cX7_begins, 2, none, 1, false, [(.iconst 0, .int 0), (.istore 1, .null), (.iload 1, .null), (.iconst 0, .int 6), (.if_icmp .ge 14, .null), (.aload 0, .null), (.invokeinterface 7 11, .null), (.iconst 0, .int 0), (.iload 1, .null), (.iadd, .null), (.iconst 0, .int (-9)), (.iastore, .null), (.iinc 1 0, .int 1), (.goto 2, .null), (.aload 0, .null), (.invokeinterface 7 11, .null), (.iconst 0, .int 6), (.iconst 0, .int 0), (.iastore, .null), (.aload 0, .null), (.invokeinterface 7 11, .null), (.iconst 0, .int 7), (.iconst 0, .int 0), (.iastore, .null), (.aload 0, .null), (.invokeinterface 7 11, .null), (.iconst 0, .int 8), (.iconst 0, .int (-9)), (.iastore, .null), (.aload 0, .null), (.iconst 0, .int 0), (.multianewarray 7 13, .null), (.iconst 0, .int 0), (.istore 1, .null), (.iload 1, .null), (.iconst 0, .int 3), (.if_icmp .ge 44, .null), (.aload 0, .null), (.invokeinterface 7 16, .null), (.iload 1, .null), (.iconst 0, .int 0), (.bastore, .null), (.iinc 1 0, .int 1), (.goto 34, .null), (.return_, .null)], [0, 1, 2, 3, 5, 8, 9, 12, 13, 14, 15, 17, 18, 21, 24, 25, 28, 30, 31, 32, 33, 36, 38, 39, 40, 41, 44, 46, 48, 49, 50, 51, 54, 55, 56, 57, 58, 61, 62, 65, 66, 67, 68, 71, 74])
/-- 154: AnnCupsModel.bar(I)I -/
def mi_154 : mI := (7, yX7_bar, cX7_bar, 3, (some .int), 2, false, [(.iload 1, .null), (.invokestatic 136, .null), (.ifCond .ne 5, .null), (.iconst 0, .int (-1)), (.ireturn, .null), (.aload 0, .null), (.invokeinterface 7 2, .null), (.iload 1, .null), (.iaload, .null), (.ifCond .ge 14, .null), (.aload 0, .null), (.iconst 0, .int 1), (.invokevirtual 132, .null), (.ireturn, .null), (.aload 0, .null), (.iload 1, .null), (.invokevirtual 151, .null), (.iconst 0, .int (-9)), (.if_icmp .eq 21, .null), (.iconst 0, .int (-4)), (.ireturn, .null), (.aload 0, .null), (.aload 0, .null), (.invokeinterface 7 24, .null), (.multianewarray 7 4, .null), (.aload 0, .null), (.aload 0, .null), (.invokeinterface 7 23, .null), (.multianewarray 7 5, .null), (.iconst 0, .int 0), (.istore 2, .null), (.iload 2, .null), (.aload 0, .null), (.invokeinterface 7 4, .null), (.if_icmp .ge 95, .null), (.aload 0, .null), (.invokeinterface 7 6, .null), (.iload 2, .null), (.aload 0, .null), (.invokeinterface 7 25, .null), (.iconst 0, .int 5), (.iload 2, .null), (.imul, .null), (.iaload, .null), (.iastore, .null), (.aload 0, .null), (.invokeinterface 7 7, .null), (.iload 2, .null), (.aload 0, .null), (.invokeinterface 7 25, .null), (.iconst 0, .int 5), (.iload 2, .null), (.imul, .null), (.iconst 0, .int 1), (.iadd, .null), (.iaload, .null), (.iastore, .null), (.aload 0, .null), (.invokeinterface 7 8, .null), (.iload 2, .null), (.aload 0, .null), (.invokeinterface 7 25, .null), (.iconst 0, .int 5), (.iload 2, .null), (.imul, .null), (.iconst 0, .int 2), (.iadd, .null), (.iaload, .null), (.iastore, .null), (.aload 0, .null), (.invokeinterface 7 9, .null), (.iload 2, .null), (.aload 0, .null), (.invokeinterface 7 25, .null), (.iconst 0, .int 5), (.iload 2, .null), (.imul, .null), (.iconst 0, .int 3), (.iadd, .null), (.iaload, .null), (.iastore, .null), (.aload 0, .null), (.invokeinterface 7 10, .null), (.iload 2, .null), (.aload 0, .null), (.invokeinterface 7 25, .null), (.iconst 0, .int 5), (.iload 2, .null), (.imul, .null), (.iconst 0, .int 4), (.iadd, .null), (.iaload, .null), (.iastore, .null), (.iinc 2 0, .int 1), (.goto 31, .null), (.aload 0, .null), (.invokevirtual 153, .null), (.aload 0, .null), (.invokeinterface 7 4, .null), (.ireturn, .null)], [0, 1, 4, 7, 8, 9, 10, 13, 14, 15, 18, 19, 20, 23, 24, 25, 26, 29, 31, 34, 36, 37, 38, 39, 42, 45, 46, 47, 50, 53, 54, 55, 56, 57, 60, 63, 64, 67, 68, 69, 72, 73, 74, 75, 76, 77, 78, 81, 82, 83, 86, 87, 88, 89, 90, 91, 92, 93, 94, 97, 98, 99, 102, 103, 104, 105, 106, 107, 108, 109, 110, 113, 114, 115, 118, 119, 120, 121, 122, 123, 124, 125, 126, 129, 130, 131, 134, 135, 136, 137, 138, 139, 140, 141, 144, 147, 148, 151, 152, 155])
/-- 155: AnnCupsModel.isCup(I)Z -/
def mi_155 : mI := (7, yX7_isCup, cX7_isCup, 2, (some .boolean), 2, false, [(.iload 1, .null), (.i2l, .null), (.lconst 0, .long 0), (.aload 0, .null), (.invokeinterface 7 4, .null), (.iconst 0, .int 1), (.isub, .null), (.i2l, .null), (.invokestatic 129, .null), (.ireturn, .null)], [0, 1, 2, 3, 4, 7, 8, 9, 10, 13])
/-- 156: AnnCupsModel.isThere(I)Z -/
def mi_156 : mI := (7, yX7_isThere, cX7_isThere, 2, (some .boolean), 2, false, [(.aload 0, .null), (.invokeinterface 7 6, .null), (.iload 1, .null), (.iaload, .null), (.iconst 0, .int 3), (.if_icmp .eq 8, .null), (.iconst 0, .int 1), (.goto 9, .null), (.iconst 0, .int 0), (.ireturn, .null)], [0, 1, 4, 5, 6, 7, 10, 11, 14, 15])
/-- 157: AnnCupsModel.takesAs(IIZ)I -/
def mi_157 : mI := (7, yX7_takesAs, cX7_takesAs, 5, (some .int), 3, true, [(.iload 2, .null), (.ifCond .ne 4, .null), (.iload 1, .null), (.goto 12, .null), (.iload 1, .null), (.iconst 0, .int 1), (.if_icmp .le 11, .null), (.iload 1, .null), (.iconst 0, .int 2), (.idiv, .null), (.goto 12, .null), (.iconst 0, .int 1), (.istore 3, .null), (.iload 1, .null), (.iconst 0, .int 2), (.if_icmp .le 20, .null), (.iload 1, .null), (.iconst 0, .int 2), (.isub, .null), (.goto 21, .null), (.iconst 0, .int 1), (.istore 4, .null), (.iload 0, .null), (.tableswitch 36 1 5 #[24, 30, 36, 26, 32], .null), (.iload 3, .null), (.ireturn, .null), (.iconst 0, .int 2), (.iload 3, .null), (.imul, .null), (.ireturn, .null), (.iload 4, .null), (.ireturn, .null), (.iload 4, .null), (.iconst 0, .int 3), (.iadd, .null), (.ireturn, .null), (.iload 1, .null), (.ireturn, .null)], [0, 1, 4, 5, 8, 9, 10, 13, 14, 15, 16, 19, 20, 21, 22, 23, 26, 27, 28, 29, 32, 33, 35, 36, 72, 73, 74, 75, 76, 77, 78, 80, 81, 83, 84, 85, 86, 87])
/-- 158: AnnCupsModel.takesOf([II)I -/
def mi_158 : mI := (7, yX7_takesOf, cX7_takesOf, 3, (some .int), 3, false, [(.aload 0, .null), (.invokeinterface 7 6, .null), (.iload 2, .null), (.iaload, .null), (.aload 0, .null), (.invokeinterface 7 7, .null), (.iload 2, .null), (.iaload, .null), (.aload 1, .null), (.iconst 0, .int 8), (.iaload, .null), (.iconst 0, .int (-9)), (.if_icmp .eq 26, .null), (.aload 0, .null), (.invokeinterface 7 8, .null), (.aload 1, .null), (.iconst 0, .int 8), (.iaload, .null), (.iaload, .null), (.aload 0, .null), (.invokeinterface 7 8, .null), (.iload 2, .null), (.iaload, .null), (.if_icmp .ne 26, .null), (.iconst 0, .int 1), (.goto 27, .null), (.iconst 0, .int 0), (.invokestatic 157, .null), (.ireturn, .null)], [0, 1, 4, 5, 6, 7, 10, 11, 12, 13, 15, 16, 18, 21, 22, 25, 26, 28, 29, 30, 31, 34, 35, 36, 39, 40, 43, 44, 47])
/-- 159: AnnCupsModel.abs(I)I -/
def mi_159 : mI := (7, yX7_abs, cX7_abs, 1, (some .int), 1, true, [(.iload 0, .null), (.ifCond .ge 5, .null), (.iload 0, .null), (.ineg, .null), (.goto 6, .null), (.iload 0, .null), (.ireturn, .null)], [0, 1, 4, 5, 6, 9, 10])
/-- 160: AnnCupsModel.whoTakes([III)I -/
def mi_160 : mI := (7, yX7_whoTakes, cX7_whoTakes, 5, (some .int), 4, false, [(.iconst 0, .int 0), (.istore 4, .null), (.iload 4, .null), (.aload 0, .null), (.invokeinterface 7 4, .null), (.if_icmp .ge 32, .null), (.aload 0, .null), (.iload 4, .null), (.invokevirtual 156, .null), (.ifCond .eq 30, .null), (.aload 1, .null), (.iconst 0, .int 7), (.iaload, .null), (.iload 4, .null), (.invokestatic 130, .null), (.ifCond .ne 30, .null), (.aload 0, .null), (.invokeinterface 7 9, .null), (.iload 4, .null), (.iaload, .null), (.aload 0, .null), (.invokeinterface 7 10, .null), (.iload 2, .null), (.iaload, .null), (.isub, .null), (.invokestatic 159, .null), (.iload 3, .null), (.if_icmp .gt 30, .null), (.iload 4, .null), (.ireturn, .null), (.iinc 4 0, .int 1), (.goto 2, .null), (.iconst 0, .int (-9)), (.ireturn, .null)], [0, 1, 3, 5, 6, 9, 12, 13, 15, 18, 21, 22, 24, 25, 27, 30, 33, 34, 37, 39, 40, 41, 44, 45, 46, 47, 50, 51, 54, 56, 57, 60, 63, 65])
/-- 161: AnnCupsModel.makesOn([III)V -/
def mi_161 : mI := (7, yX7_makesOn, cX7_makesOn, 5, none, 4, false, [(.aload 1, .null), (.iconst 0, .int 6), (.dup2, .null), (.iaload, .null), (.aload 0, .null), (.aload 1, .null), (.iload 2, .null), (.invokevirtual 158, .null), (.iadd, .null), (.iastore, .null), (.aload 1, .null), (.iconst 0, .int 8), (.iload 2, .null), (.iastore, .null), (.aload 0, .null), (.aload 1, .null), (.iload 2, .null), (.iload 3, .null), (.invokevirtual 160, .null), (.istore 4, .null), (.aload 1, .null), (.iconst 0, .int 0), (.iload 2, .null), (.iadd, .null), (.iload 4, .null), (.iconst 0, .int (-9)), (.if_icmp .ne 29, .null), (.iconst 0, .int 6), (.goto 30, .null), (.iload 4, .null), (.iastore, .null), (.aload 1, .null), (.iconst 0, .int 7), (.dup2, .null), (.iaload, .null), (.iload 4, .null), (.iconst 0, .int (-9)), (.if_icmp .ne 40, .null), (.iconst 0, .int 0), (.goto 43, .null), (.iconst 0, .int 1), (.iload 4, .null), (.ishl, .null), (.ior, .null), (.iastore, .null), (.return_, .null)], [0, 1, 3, 4, 5, 6, 7, 8, 11, 12, 13, 14, 16, 17, 18, 19, 20, 21, 22, 25, 27, 28, 29, 30, 31, 33, 35, 38, 40, 43, 45, 46, 47, 49, 50, 51, 53, 55, 58, 59, 62, 63, 65, 66, 67, 68])
/-- 162: AnnCupsModel.isMade([II)Z -/
def mi_162 : mI := (7, yX7_isMade, cX7_isMade, 2, (some .boolean), 2, true, [(.aload 0, .null), (.iconst 0, .int 0), (.iload 1, .null), (.iadd, .null), (.iaload, .null), (.iconst 0, .int (-9)), (.if_icmp .eq 9, .null), (.iconst 0, .int 1), (.goto 10, .null), (.iconst 0, .int 0), (.ireturn, .null)], [0, 1, 2, 3, 4, 5, 7, 10, 11, 14, 15])
/-- 163: AnnCupsModel.wrongOf([I)I -/
def mi_163 : mI := (7, yX7_wrongOf, cX7_wrongOf, 4, (some .int), 2, false, [(.iconst 0, .int 0), (.istore 2, .null), (.iconst 0, .int 0), (.istore 3, .null), (.iload 3, .null), (.aload 0, .null), (.invokeinterface 7 4, .null), (.if_icmp .ge 39, .null), (.iload 2, .null), (.aload 1, .null), (.iconst 0, .int 0), (.iload 3, .null), (.iadd, .null), (.iaload, .null), (.i2l, .null), (.lconst 0, .long 0), (.lconst 0, .long 5), (.invokestatic 129, .null), (.ifCond .eq 34, .null), (.aload 1, .null), (.iconst 0, .int 0), (.iload 3, .null), (.iadd, .null), (.iaload, .null), (.iload 3, .null), (.if_icmp .eq 34, .null), (.iconst 0, .int 1), (.aload 1, .null), (.iconst 0, .int 0), (.iload 3, .null), (.iadd, .null), (.iaload, .null), (.ishl, .null), (.goto 35, .null), (.iconst 0, .int 0), (.ior, .null), (.istore 2, .null), (.iinc 3 0, .int 1), (.goto 4, .null), (.iload 2, .null), (.ireturn, .null)], [0, 1, 2, 3, 4, 5, 6, 9, 12, 13, 14, 15, 16, 17, 18, 19, 20, 23, 26, 29, 30, 31, 32, 33, 34, 35, 38, 39, 40, 41, 42, 43, 44, 45, 48, 49, 50, 51, 54, 57, 58])
/-- 164: AnnCupsModel.heldBy([II)I -/
def mi_164 : mI := (7, yX7_heldBy, cX7_heldBy, 4, (some .int), 3, false, [(.iconst 0, .int 0), (.istore 3, .null), (.iload 3, .null), (.aload 0, .null), (.invokeinterface 7 4, .null), (.if_icmp .ge 17, .null), (.aload 1, .null), (.iconst 0, .int 0), (.iload 3, .null), (.iadd, .null), (.iaload, .null), (.iload 2, .null), (.if_icmp .ne 15, .null), (.iload 3, .null), (.ireturn, .null), (.iinc 3 0, .int 1), (.goto 2, .null), (.iconst 0, .int (-9)), (.ireturn, .null)], [0, 1, 2, 3, 4, 7, 10, 11, 12, 13, 14, 15, 16, 19, 20, 21, 24, 27, 29])
/-- 165: AnnCupsModel.madeOf([I)I -/
def mi_165 : mI := (7, yX7_madeOf, cX7_madeOf, 4, (some .int), 2, false, [(.iconst 0, .int 0), (.istore 2, .null), (.iconst 0, .int 0), (.istore 3, .null), (.iload 3, .null), (.aload 0, .null), (.invokeinterface 7 4, .null), (.if_icmp .ge 22, .null), (.iload 2, .null), (.aload 1, .null), (.iload 3, .null), (.invokestatic 162, .null), (.ifCond .eq 17, .null), (.iconst 0, .int 1), (.iload 3, .null), (.ishl, .null), (.goto 18, .null), (.iconst 0, .int 0), (.ior, .null), (.istore 2, .null), (.iinc 3 0, .int 1), (.goto 4, .null), (.iload 2, .null), (.ireturn, .null)], [0, 1, 2, 3, 4, 5, 6, 9, 12, 13, 14, 15, 18, 21, 22, 23, 24, 27, 28, 29, 30, 33, 36, 37])
/-- 166: AnnCupsModel.standing()I -/
def mi_166 : mI := (7, yX7_standing, cX7_standing, 3, (some .int), 1, false, [(.iconst 0, .int 0), (.istore 1, .null), (.iconst 0, .int 0), (.istore 2, .null), (.iload 2, .null), (.aload 0, .null), (.invokeinterface 7 4, .null), (.if_icmp .ge 26, .null), (.iload 1, .null), (.aload 0, .null), (.invokeinterface 7 11, .null), (.iconst 0, .int 0), (.iload 2, .null), (.iadd, .null), (.iaload, .null), (.iconst 0, .int 6), (.if_icmp .ne 21, .null), (.iconst 0, .int 1), (.iload 2, .null), (.ishl, .null), (.goto 22, .null), (.iconst 0, .int 0), (.ior, .null), (.istore 1, .null), (.iinc 2 0, .int 1), (.goto 4, .null), (.iload 1, .null), (.ireturn, .null)], [0, 1, 2, 3, 4, 5, 6, 9, 12, 13, 14, 17, 18, 19, 20, 21, 23, 26, 27, 28, 29, 32, 33, 34, 35, 38, 41, 42])
/-- 167: AnnCupsModel.told(II)I -/
def mi_167 : mI := (7, yX7_told, cX7_told, 3, (some .int), 3, false, [(.iload 2, .null), (.tableswitch 28 0 4 #[2, 7, 13, 18, 23], .null), (.aload 0, .null), (.invokeinterface 7 6, .null), (.iload 1, .null), (.iaload, .null), (.ireturn, .null), (.aload 0, .null), (.aload 0, .null), (.invokeinterface 7 11, .null), (.iload 1, .null), (.invokevirtual 158, .null), (.ireturn, .null), (.aload 0, .null), (.invokeinterface 7 8, .null), (.iload 1, .null), (.iaload, .null), (.ireturn, .null), (.aload 0, .null), (.invokeinterface 7 9, .null), (.iload 1, .null), (.iaload, .null), (.ireturn, .null), (.aload 0, .null), (.invokeinterface 7 10, .null), (.iload 1, .null), (.iaload, .null), (.ireturn, .null), (.aload 0, .null), (.invokeinterface 7 11, .null), (.iconst 0, .int 0), (.iload 1, .null), (.iadd, .null), (.iaload, .null), (.ireturn, .null)], [0, 1, 36, 37, 40, 41, 42, 43, 44, 45, 48, 49, 52, 53, 54, 57, 58, 59, 60, 61, 64, 65, 66, 67, 68, 71, 72, 73, 74, 75, 78, 79, 80, 81, 82])
/-- 168: AnnCupsModel.cup(II)I -/
def mi_168 : mI := (7, yX7_cup, cX7_cup, 3, (some .int), 3, false, [(.aload 0, .null), (.iload 1, .null), (.invokevirtual 155, .null), (.ifCond .eq 17, .null), (.iload 2, .null), (.i2l, .null), (.lconst 0, .long 0), (.lconst 0, .long 5), (.invokestatic 129, .null), (.ifCond .eq 17, .null), (.aload 0, .null), (.aload 0, .null), (.iload 1, .null), (.iload 2, .null), (.invokevirtual 167, .null), (.invokevirtual 133, .null), (.goto 18, .null), (.iconst 0, .int (-1)), (.ireturn, .null)], [0, 1, 2, 5, 8, 9, 10, 11, 14, 17, 20, 21, 22, 23, 24, 27, 30, 33, 34])
/-- 169: AnnCupsModel.isOf(II)Z -/
def mi_169 : mI := (7, yX7_isOf, cX7_isOf, 2, (some .boolean), 2, true, [(.iload 0, .null), (.iload 1, .null), (.if_icmp .eq 15, .null), (.iload 1, .null), (.iconst 0, .int 1), (.if_icmp .ne 9, .null), (.iload 0, .null), (.iconst 0, .int 4), (.if_icmp .eq 15, .null), (.iload 1, .null), (.iconst 0, .int 2), (.if_icmp .ne 17, .null), (.iload 0, .null), (.iconst 0, .int 5), (.if_icmp .ne 17, .null), (.iconst 0, .int 1), (.goto 18, .null), (.iconst 0, .int 0), (.ireturn, .null)], [0, 1, 2, 5, 6, 7, 10, 11, 12, 15, 16, 17, 20, 21, 22, 25, 26, 29, 30])
/-- 170: AnnCupsModel.whoseOf(I)I -/
def mi_170 : mI := (7, yX7_whoseOf, cX7_whoseOf, 4, (some .int), 2, false, [(.iconst 0, .int 0), (.istore 2, .null), (.iconst 0, .int 0), (.istore 3, .null), (.iload 3, .null), (.aload 0, .null), (.invokeinterface 7 4, .null), (.if_icmp .ge 35, .null), (.iload 2, .null), (.aload 0, .null), (.iload 3, .null), (.invokevirtual 156, .null), (.ifCond .eq 30, .null), (.aload 0, .null), (.invokeinterface 7 9, .null), (.iload 3, .null), (.iaload, .null), (.aload 0, .null), (.invokeinterface 7 10, .null), (.iload 1, .null), (.iaload, .null), (.isub, .null), (.invokestatic 159, .null), (.aload 0, .null), (.invokeinterface 7 5, .null), (.if_icmp .gt 30, .null), (.iconst 0, .int 1), (.iload 3, .null), (.ishl, .null), (.goto 31, .null), (.iconst 0, .int 0), (.ior, .null), (.istore 2, .null), (.iinc 3 0, .int 1), (.goto 4, .null), (.iload 2, .null), (.ireturn, .null)], [0, 1, 2, 3, 4, 5, 6, 9, 12, 13, 14, 15, 18, 21, 22, 25, 26, 27, 28, 31, 32, 33, 34, 37, 38, 41, 44, 45, 46, 47, 50, 51, 52, 53, 56, 59, 60])
/-- 171: AnnCupsModel.others(IZ)I -/
def mi_171 : mI := (7, yX7_others, cX7_others, 6, (some .int), 3, false, [(.iconst 0, .int 0), (.istore 3, .null), (.iconst 0, .int 0), (.istore 4, .null), (.iload 4, .null), (.aload 0, .null), (.invokeinterface 7 4, .null), (.if_icmp .ge 56, .null), (.iload 2, .null), (.ifCond .eq 23, .null), (.aload 0, .null), (.invokeinterface 7 8, .null), (.iload 4, .null), (.iaload, .null), (.aload 0, .null), (.invokeinterface 7 8, .null), (.iload 1, .null), (.iaload, .null), (.if_icmp .ne 21, .null), (.iconst 0, .int 1), (.goto 37, .null), (.iconst 0, .int 0), (.goto 37, .null), (.aload 0, .null), (.aload 0, .null), (.invokeinterface 7 11, .null), (.iload 4, .null), (.invokevirtual 158, .null), (.aload 0, .null), (.aload 0, .null), (.invokeinterface 7 11, .null), (.iload 1, .null), (.invokevirtual 158, .null), (.if_icmp .le 36, .null), (.iconst 0, .int 1), (.goto 37, .null), (.iconst 0, .int 0), (.istore 5, .null), (.iload 3, .null), (.iload 4, .null), (.iload 1, .null), (.if_icmp .eq 51, .null), (.aload 0, .null), (.invokeinterface 7 11, .null), (.iload 4, .null), (.invokestatic 162, .null), (.ifCond .ne 51, .null), (.iload 5, .null), (.ifCond .eq 51, .null), (.iconst 0, .int 1), (.goto 52, .null), (.iconst 0, .int 0), (.iadd, .null), (.istore 3, .null), (.iinc 4 0, .int 1), (.goto 4, .null), (.iload 3, .null), (.ireturn, .null)], [0, 1, 2, 3, 5, 7, 8, 11, 14, 15, 18, 19, 22, 24, 25, 26, 29, 30, 31, 34, 35, 38, 39, 42, 43, 44, 47, 49, 52, 53, 54, 57, 58, 61, 64, 65, 68, 69, 71, 72, 74, 75, 78, 79, 82, 84, 87, 90, 92, 95, 96, 99, 100, 101, 102, 105, 108, 109])
/-- 172: AnnCupsModel.mark(II)I -/
def mi_172 : mI := (7, yX7_mark, cX7_mark, 3, (some .int), 3, false, [(.aload 0, .null), (.iload 1, .null), (.invokevirtual 155, .null), (.ifCond .eq 10, .null), (.iload 2, .null), (.i2l, .null), (.lconst 0, .long 1), (.lconst 0, .long 5), (.invokestatic 129, .null), (.ifCond .ne 12, .null), (.iconst 0, .int (-1)), (.ireturn, .null), (.aload 0, .null), (.invokeinterface 7 6, .null), (.iload 1, .null), (.iaload, .null), (.iload 2, .null), (.invokestatic 169, .null), (.ifCond .ne 23, .null), (.aload 0, .null), (.iconst 0, .int 3), (.invokevirtual 132, .null), (.ireturn, .null), (.iload 2, .null), (.tableswitch 48 1 4 #[25, 30, 35, 40], .null), (.aload 0, .null), (.iload 1, .null), (.iconst 0, .int 1), (.invokevirtual 171, .null), (.ireturn, .null), (.aload 0, .null), (.iload 1, .null), (.iconst 0, .int 0), (.invokevirtual 171, .null), (.ireturn, .null), (.aload 0, .null), (.iload 1, .null), (.invokevirtual 170, .null), (.invokestatic 131, .null), (.ireturn, .null), (.iconst 0, .int 4), (.aload 0, .null), (.invokeinterface 7 7, .null), (.iload 1, .null), (.iaload, .null), (.iconst 0, .int 1), (.invokestatic 157, .null), (.ireturn, .null), (.iconst 0, .int 2), (.aload 0, .null), (.invokeinterface 7 7, .null), (.iload 1, .null), (.iaload, .null), (.iconst 0, .int 0), (.invokestatic 157, .null), (.ireturn, .null)], [0, 1, 2, 5, 8, 9, 10, 11, 14, 17, 20, 21, 22, 23, 26, 27, 28, 29, 32, 35, 36, 37, 40, 41, 42, 72, 73, 74, 75, 78, 79, 80, 81, 82, 85, 86, 87, 88, 91, 94, 95, 96, 97, 100, 101, 102, 103, 106, 107, 108, 109, 112, 113, 114, 115, 118])
/-- 173: AnnCupsModel.holds(I)I -/
def mi_173 : mI := (7, yX7_holds, cX7_holds, 2, (some .int), 2, false, [(.aload 0, .null), (.iload 1, .null), (.invokevirtual 155, .null), (.ifCond .eq 10, .null), (.aload 0, .null), (.aload 0, .null), (.invokeinterface 7 11, .null), (.iload 1, .null), (.invokevirtual 164, .null), (.goto 11, .null), (.iconst 0, .int (-1)), (.ireturn, .null)], [0, 1, 2, 5, 8, 9, 10, 13, 14, 17, 20, 21])
/-- 174: AnnCupsModel.copies([II[III)V -/
def mi_174 : mI := (7, yX7_copies, cX7_copies, 6, none, 5, true, [(.iconst 0, .int 0), (.istore 5, .null), (.iload 5, .null), (.iload 4, .null), (.if_icmp .ge 17, .null), (.aload 2, .null), (.iload 3, .null), (.iload 5, .null), (.iadd, .null), (.aload 0, .null), (.iload 1, .null), (.iload 5, .null), (.iadd, .null), (.iaload, .null), (.iastore, .null), (.iinc 5 0, .int 1), (.goto 2, .null), (.return_, .null)], [0, 1, 3, 5, 7, 10, 11, 12, 14, 15, 16, 17, 19, 20, 21, 22, 25, 28])
/-- 175: AnnCupsModel.remember()V -/
def mi_175 : mI := (7, yX7_remember, cX7_remember, 1, none, 1, false, [(.aload 0, .null), (.invokeinterface 7 11, .null), (.iconst 0, .int 0), (.aload 0, .null), (.invokeinterface 7 14, .null), (.iconst 0, .int 9), (.aload 0, .null), (.invokeinterface 7 13, .null), (.imul, .null), (.iconst 0, .int 9), (.invokestatic 174, .null), (.aload 0, .null), (.dup, .null), (.invokeinterface 7 13, .null), (.iconst 0, .int 1), (.iadd, .null), (.multianewarray 7 13, .null), (.return_, .null)], [0, 1, 4, 5, 6, 9, 11, 12, 15, 16, 18, 21, 22, 23, 26, 27, 28, 31])
/-- 176: AnnCupsModel.make(I)I -/
def mi_176 : mI := (7, yX7_make, cX7_make, 2, (some .int), 2, false, [(.aload 0, .null), (.iload 1, .null), (.invokevirtual 155, .null), (.ifCond .ne 6, .null), (.iconst 0, .int (-1)), (.ireturn, .null), (.aload 0, .null), (.invokeinterface 7 11, .null), (.iload 1, .null), (.invokestatic 162, .null), (.ifCond .eq 13, .null), (.iconst 0, .int (-4)), (.ireturn, .null), (.aload 0, .null), (.invokeinterface 7 13, .null), (.iconst 0, .int 40), (.if_icmp .ne 19, .null), (.iconst 0, .int (-2)), (.ireturn, .null), (.aload 0, .null), (.invokevirtual 175, .null), (.aload 0, .null), (.aload 0, .null), (.invokeinterface 7 11, .null), (.iload 1, .null), (.aload 0, .null), (.invokeinterface 7 5, .null), (.invokevirtual 161, .null), (.aload 0, .null), (.invokeinterface 7 11, .null), (.iconst 0, .int 0), (.iload 1, .null), (.iadd, .null), (.iaload, .null), (.iconst 0, .int 6), (.if_icmp .ne 38, .null), (.iconst 0, .int (-9)), (.goto 44, .null), (.aload 0, .null), (.invokeinterface 7 11, .null), (.iconst 0, .int 0), (.iload 1, .null), (.iadd, .null), (.iaload, .null), (.ireturn, .null)], [0, 1, 2, 5, 8, 9, 10, 11, 14, 15, 18, 21, 23, 24, 25, 28, 30, 33, 35, 36, 37, 40, 41, 42, 45, 46, 47, 50, 53, 54, 57, 58, 59, 60, 61, 63, 66, 68, 71, 72, 75, 76, 77, 78, 79])
/-- 177: AnnCupsModel.changes([III)V -/
def mi_177 : mI := (7, yX7_changes, cX7_changes, 6, none, 4, false, [(.aload 0, .null), (.aload 1, .null), (.iload 2, .null), (.invokevirtual 164, .null), (.istore 4, .null), (.aload 0, .null), (.aload 1, .null), (.iload 3, .null), (.invokevirtual 164, .null), (.istore 5, .null), (.iload 4, .null), (.iconst 0, .int (-9)), (.if_icmp .eq 28, .null), (.aload 1, .null), (.iconst 0, .int 0), (.iload 4, .null), (.iadd, .null), (.iload 3, .null), (.iastore, .null), (.aload 1, .null), (.iconst 0, .int 7), (.dup2, .null), (.iaload, .null), (.iconst 0, .int 1), (.iload 3, .null), (.ishl, .null), (.ior, .null), (.iastore, .null), (.iload 5, .null), (.iconst 0, .int (-9)), (.if_icmp .eq 46, .null), (.aload 1, .null), (.iconst 0, .int 0), (.iload 5, .null), (.iadd, .null), (.iload 2, .null), (.iastore, .null), (.aload 1, .null), (.iconst 0, .int 7), (.dup2, .null), (.iaload, .null), (.iconst 0, .int 1), (.iload 2, .null), (.ishl, .null), (.ior, .null), (.iastore, .null), (.return_, .null)], [0, 1, 2, 3, 6, 8, 9, 10, 11, 14, 16, 18, 20, 23, 24, 25, 27, 28, 29, 30, 31, 33, 34, 35, 36, 37, 38, 39, 40, 42, 44, 47, 48, 49, 51, 52, 53, 54, 55, 57, 58, 59, 60, 61, 62, 63, 64])
/-- 178: AnnCupsModel.change(II)I -/
def mi_178 : mI := (7, yX7_change, cX7_change, 3, (some .int), 3, false, [(.aload 0, .null), (.iload 1, .null), (.invokevirtual 155, .null), (.ifCond .eq 19, .null), (.aload 0, .null), (.iload 2, .null), (.invokevirtual 155, .null), (.ifCond .eq 19, .null), (.iload 1, .null), (.iload 2, .null), (.if_icmp .eq 19, .null), (.aload 0, .null), (.iload 1, .null), (.invokevirtual 156, .null), (.ifCond .eq 19, .null), (.aload 0, .null), (.iload 2, .null), (.invokevirtual 156, .null), (.ifCond .ne 21, .null), (.iconst 0, .int (-1)), (.ireturn, .null), (.aload 0, .null), (.aload 0, .null), (.invokeinterface 7 11, .null), (.iload 1, .null), (.invokevirtual 164, .null), (.iconst 0, .int (-9)), (.if_icmp .ne 37, .null), (.aload 0, .null), (.aload 0, .null), (.invokeinterface 7 11, .null), (.iload 2, .null), (.invokevirtual 164, .null), (.iconst 0, .int (-9)), (.if_icmp .ne 37, .null), (.iconst 0, .int (-4)), (.ireturn, .null), (.aload 0, .null), (.invokeinterface 7 13, .null), (.iconst 0, .int 40), (.if_icmp .ne 43, .null), (.iconst 0, .int (-2)), (.ireturn, .null), (.aload 0, .null), (.invokevirtual 175, .null), (.aload 0, .null), (.aload 0, .null), (.invokeinterface 7 11, .null), (.iload 1, .null), (.iload 2, .null), (.invokevirtual 177, .null), (.aload 0, .null), (.aload 0, .null), (.invokeinterface 7 11, .null), (.invokevirtual 163, .null), (.invokestatic 131, .null), (.ireturn, .null)], [0, 1, 2, 5, 8, 9, 10, 13, 16, 17, 18, 21, 22, 23, 26, 29, 30, 31, 34, 37, 38, 39, 40, 41, 44, 45, 48, 50, 53, 54, 55, 58, 59, 62, 64, 67, 69, 70, 71, 74, 76, 79, 81, 82, 83, 86, 87, 88, 91, 92, 93, 96, 97, 98, 101, 104, 107])
/-- 179: AnnCupsModel.toss(I)I -/
def mi_179 : mI := (7, yX7_toss, cX7_toss, 2, (some .int), 2, false, [(.aload 0, .null), (.iload 1, .null), (.invokevirtual 155, .null), (.ifCond .ne 6, .null), (.iconst 0, .int (-1)), (.ireturn, .null), (.aload 0, .null), (.invokeinterface 7 11, .null), (.iconst 0, .int 0), (.iload 1, .null), (.iadd, .null), (.iaload, .null), (.iconst 0, .int 6), (.if_icmp .eq 16, .null), (.iconst 0, .int (-4)), (.ireturn, .null), (.aload 0, .null), (.invokeinterface 7 13, .null), (.iconst 0, .int 40), (.if_icmp .ne 22, .null), (.iconst 0, .int (-2)), (.ireturn, .null), (.aload 0, .null), (.invokevirtual 175, .null), (.aload 0, .null), (.invokeinterface 7 11, .null), (.iconst 0, .int 0), (.iload 1, .null), (.iadd, .null), (.iconst 0, .int 7), (.iastore, .null), (.aload 0, .null), (.invokevirtual 166, .null), (.invokestatic 131, .null), (.ireturn, .null)], [0, 1, 2, 5, 8, 9, 10, 11, 14, 15, 16, 17, 18, 20, 23, 25, 26, 27, 30, 32, 35, 37, 38, 39, 42, 43, 46, 47, 48, 49, 51, 52, 53, 56, 59])
/-- 180: AnnCupsModel.undo(I)I -/
def mi_180 : mI := (7, yX7_undo, cX7_undo, 3, (some .int), 2, false, [(.iload 1, .null), (.i2l, .null), (.lconst 0, .long 0), (.aload 0, .null), (.invokeinterface 7 13, .null), (.i2l, .null), (.invokestatic 129, .null), (.ifCond .ne 10, .null), (.iconst 0, .int (-1)), (.ireturn, .null), (.aload 0, .null), (.invokeinterface 7 13, .null), (.iload 1, .null), (.isub, .null), (.istore 2, .null), (.iload 2, .null), (.ifCond .le 27, .null), (.aload 0, .null), (.invokeinterface 7 14, .null), (.iconst 0, .int 9), (.iload 1, .null), (.imul, .null), (.aload 0, .null), (.invokeinterface 7 11, .null), (.iconst 0, .int 0), (.iconst 0, .int 9), (.invokestatic 174, .null), (.aload 0, .null), (.iload 1, .null), (.multianewarray 7 13, .null), (.iload 2, .null), (.ireturn, .null)], [0, 1, 2, 3, 4, 7, 8, 11, 14, 15, 16, 17, 20, 21, 22, 23, 24, 27, 28, 31, 33, 34, 35, 36, 39, 40, 42, 45, 46, 47, 50, 51])
/-- 181: AnnCupsModel.keep(I)I -/
def mi_181 : mI := (7, yX7_keep, cX7_keep, 2, (some .int), 2, false, [(.iload 1, .null), (.i2l, .null), (.lconst 0, .long 0), (.lconst 0, .long 2), (.invokestatic 129, .null), (.ifCond .ne 8, .null), (.iconst 0, .int (-1)), (.ireturn, .null), (.aload 0, .null), (.invokeinterface 7 4, .null), (.ifCond .ne 13, .null), (.iconst 0, .int (-4)), (.ireturn, .null), (.aload 0, .null), (.invokeinterface 7 11, .null), (.iconst 0, .int 0), (.aload 0, .null), (.invokeinterface 7 15, .null), (.iconst 0, .int 370), (.iload 1, .null), (.imul, .null), (.iconst 0, .int 9), (.invokestatic 174, .null), (.aload 0, .null), (.invokeinterface 7 14, .null), (.iconst 0, .int 0), (.aload 0, .null), (.invokeinterface 7 15, .null), (.iconst 0, .int 370), (.iload 1, .null), (.imul, .null), (.iconst 0, .int 9), (.iadd, .null), (.iconst 0, .int 360), (.invokestatic 174, .null), (.aload 0, .null), (.invokeinterface 7 15, .null), (.iconst 0, .int 370), (.iload 1, .null), (.imul, .null), (.iconst 0, .int 369), (.iadd, .null), (.aload 0, .null), (.invokeinterface 7 13, .null), (.iastore, .null), (.aload 0, .null), (.invokeinterface 7 16, .null), (.iload 1, .null), (.iconst 0, .int 1), (.bastore, .null), (.aload 0, .null), (.invokeinterface 7 13, .null), (.ireturn, .null)], [0, 1, 2, 3, 6, 9, 12, 13, 14, 15, 18, 21, 23, 24, 25, 28, 29, 30, 33, 36, 37, 38, 40, 43, 44, 47, 48, 49, 52, 55, 56, 57, 59, 60, 63, 66, 67, 70, 73, 74, 75, 78, 79, 80, 83, 84, 85, 88, 89, 90, 91, 92, 95])
/-- 182: AnnCupsModel.on(I)I -/
def mi_182 : mI := (7, yX7_on, cX7_on, 2, (some .int), 2, false, [(.iload 1, .null), (.i2l, .null), (.lconst 0, .long 0), (.lconst 0, .long 2), (.invokestatic 129, .null), (.ifCond .ne 8, .null), (.iconst 0, .int (-1)), (.ireturn, .null), (.aload 0, .null), (.invokeinterface 7 16, .null), (.iload 1, .null), (.baload, .null), (.ifCond .ne 17, .null), (.aload 0, .null), (.iconst 0, .int 1), (.invokevirtual 132, .null), (.ireturn, .null), (.aload 0, .null), (.invokeinterface 7 15, .null), (.iconst 0, .int 370), (.iload 1, .null), (.imul, .null), (.aload 0, .null), (.invokeinterface 7 11, .null), (.iconst 0, .int 0), (.iconst 0, .int 9), (.invokestatic 174, .null), (.aload 0, .null), (.invokeinterface 7 15, .null), (.iconst 0, .int 370), (.iload 1, .null), (.imul, .null), (.iconst 0, .int 9), (.iadd, .null), (.aload 0, .null), (.invokeinterface 7 14, .null), (.iconst 0, .int 0), (.iconst 0, .int 360), (.invokestatic 174, .null), (.aload 0, .null), (.aload 0, .null), (.invokeinterface 7 15, .null), (.iconst 0, .int 370), (.iload 1, .null), (.imul, .null), (.iconst 0, .int 369), (.iadd, .null), (.iaload, .null), (.multianewarray 7 13, .null), (.aload 0, .null), (.invokeinterface 7 13, .null), (.ireturn, .null)], [0, 1, 2, 3, 6, 9, 12, 13, 14, 15, 18, 19, 20, 23, 24, 25, 28, 29, 30, 33, 36, 37, 38, 39, 42, 43, 45, 48, 49, 52, 55, 56, 57, 59, 60, 61, 64, 65, 68, 71, 72, 73, 76, 79, 80, 81, 84, 85, 86, 89, 90, 93])
/-- 183: AnnCupsModel.firstOrder()V -/
def mi_183 : mI := (7, yX7_firstOrder, cX7_firstOrder, 2, none, 1, false, [(.aload 0, .null), (.iconst 0, .int 0), (.multianewarray 7 29, .null), (.iconst 0, .int 0), (.istore 1, .null), (.iload 1, .null), (.aload 0, .null), (.invokeinterface 7 4, .null), (.if_icmp .ge 28, .null), (.aload 0, .null), (.invokeinterface 7 11, .null), (.iload 1, .null), (.invokestatic 162, .null), (.ifCond .ne 26, .null), (.aload 0, .null), (.invokeinterface 7 27, .null), (.aload 0, .null), (.invokeinterface 7 29, .null), (.iload 1, .null), (.iastore, .null), (.aload 0, .null), (.dup, .null), (.invokeinterface 7 29, .null), (.iconst 0, .int 1), (.iadd, .null), (.multianewarray 7 29, .null), (.iinc 1 0, .int 1), (.goto 5, .null), (.return_, .null)], [0, 1, 2, 5, 6, 7, 8, 9, 12, 15, 16, 19, 20, 23, 26, 27, 30, 31, 34, 35, 36, 37, 38, 41, 42, 43, 46, 49, 52])
/-- 184: AnnCupsModel.exchanges(II)V -/
def mi_184 : mI := (7, yX7_exchanges, cX7_exchanges, 4, none, 3, false, [(.aload 0, .null), (.invokeinterface 7 27, .null), (.iload 1, .null), (.iaload, .null), (.istore 3, .null), (.aload 0, .null), (.invokeinterface 7 27, .null), (.iload 1, .null), (.aload 0, .null), (.invokeinterface 7 27, .null), (.iload 2, .null), (.iaload, .null), (.iastore, .null), (.aload 0, .null), (.invokeinterface 7 27, .null), (.iload 2, .null), (.iload 3, .null), (.iastore, .null), (.return_, .null)], [0, 1, 4, 5, 6, 7, 8, 11, 12, 13, 16, 17, 18, 19, 20, 23, 24, 25, 26])
/-- 185: AnnCupsModel.nextOrder()Z -/
def mi_185 : mI := (7, yX7_nextOrder, cX7_nextOrder, 5, (some .boolean), 1, false, [(.aload 0, .null), (.invokeinterface 7 29, .null), (.iconst 0, .int 2), (.isub, .null), (.istore 1, .null), (.iload 1, .null), (.ifCond .lt 20, .null), (.aload 0, .null), (.invokeinterface 7 27, .null), (.iload 1, .null), (.iaload, .null), (.aload 0, .null), (.invokeinterface 7 27, .null), (.iload 1, .null), (.iconst 0, .int 1), (.iadd, .null), (.iaload, .null), (.if_icmp .le 20, .null), (.iinc 1 0, .int (-1)), (.goto 5, .null), (.iload 1, .null), (.ifCond .ge 24, .null), (.iconst 0, .int 0), (.ireturn, .null), (.aload 0, .null), (.invokeinterface 7 29, .null), (.iconst 0, .int 1), (.isub, .null), (.istore 2, .null), (.aload 0, .null), (.invokeinterface 7 27, .null), (.iload 2, .null), (.iaload, .null), (.aload 0, .null), (.invokeinterface 7 27, .null), (.iload 1, .null), (.iaload, .null), (.if_icmp .ge 40, .null), (.iinc 2 0, .int (-1)), (.goto 29, .null), (.aload 0, .null), (.iload 1, .null), (.iload 2, .null), (.invokevirtual 184, .null), (.iload 1, .null), (.iconst 0, .int 1), (.iadd, .null), (.istore 3, .null), (.aload 0, .null), (.invokeinterface 7 29, .null), (.iconst 0, .int 1), (.isub, .null), (.istore 4, .null), (.iload 3, .null), (.iload 4, .null), (.if_icmp .ge 63, .null), (.aload 0, .null), (.iload 3, .null), (.iload 4, .null), (.invokevirtual 184, .null), (.iinc 3 0, .int 1), (.iinc 4 0, .int (-1)), (.goto 53, .null), (.iconst 0, .int 1), (.ireturn, .null)], [0, 1, 4, 5, 6, 7, 8, 11, 12, 15, 16, 17, 18, 21, 22, 23, 24, 25, 28, 31, 34, 35, 38, 39, 40, 41, 44, 45, 46, 47, 48, 51, 52, 53, 54, 57, 58, 59, 62, 65, 68, 69, 70, 71, 74, 75, 76, 77, 78, 79, 82, 83, 84, 86, 87, 89, 92, 93, 94, 96, 99, 102, 105, 108, 109])
/-- 186: AnnCupsModel.layAside()V -/
def mi_186 : mI := (7, yX7_layAside, cX7_layAside, 1, none, 1, false, [(.aload 0, .null), (.invokeinterface 7 11, .null), (.iconst 0, .int 0), (.aload 0, .null), (.invokeinterface 7 12, .null), (.iconst 0, .int 0), (.iconst 0, .int 9), (.invokestatic 174, .null), (.return_, .null)], [0, 1, 4, 5, 6, 9, 10, 12, 15])
/-- 187: AnnCupsModel.worth(I)I -/
def mi_187 : mI := (7, yX7_worth, cX7_worth, 6, (some .int), 2, false, [(.aload 0, .null), (.invokevirtual 186, .null), (.iconst 0, .int 0), (.istore 2, .null), (.aload 0, .null), (.invokeinterface 7 11, .null), (.iconst 0, .int 6), (.iaload, .null), (.istore 3, .null), (.iconst 0, .int 0), (.istore 4, .null), (.iload 4, .null), (.aload 0, .null), (.invokeinterface 7 29, .null), (.if_icmp .ge 54, .null), (.aload 0, .null), (.aload 0, .null), (.invokeinterface 7 12, .null), (.aload 0, .null), (.invokeinterface 7 27, .null), (.iload 4, .null), (.iaload, .null), (.aload 0, .null), (.invokeinterface 7 5, .null), (.invokevirtual 161, .null), (.aload 0, .null), (.aload 0, .null), (.invokeinterface 7 27, .null), (.iload 4, .null), (.iaload, .null), (.invokevirtual 156, .null), (.istore 5, .null), (.iload 2, .null), (.iload 5, .null), (.ifCond .eq 40, .null), (.aload 0, .null), (.invokeinterface 7 12, .null), (.iconst 0, .int 6), (.iaload, .null), (.goto 41, .null), (.iconst 0, .int 0), (.iadd, .null), (.istore 2, .null), (.iload 5, .null), (.ifCond .eq 50, .null), (.aload 0, .null), (.invokeinterface 7 12, .null), (.iconst 0, .int 6), (.iaload, .null), (.goto 51, .null), (.iload 3, .null), (.istore 3, .null), (.iinc 4 0, .int 1), (.goto 11, .null), (.iload 1, .null), (.ifCond .ne 58, .null), (.iload 2, .null), (.goto 68, .null), (.iload 1, .null), (.iconst 0, .int 1), (.if_icmp .ne 63, .null), (.iload 3, .null), (.goto 68, .null), (.aload 0, .null), (.aload 0, .null), (.invokeinterface 7 12, .null), (.invokevirtual 163, .null), (.invokestatic 131, .null), (.ireturn, .null)], [0, 1, 4, 5, 6, 7, 10, 12, 13, 14, 15, 17, 19, 20, 23, 26, 27, 28, 31, 32, 35, 37, 38, 39, 42, 45, 46, 47, 50, 52, 53, 56, 58, 59, 61, 64, 65, 68, 70, 71, 74, 75, 76, 77, 79, 82, 83, 86, 88, 89, 92, 93, 94, 97, 100, 101, 104, 105, 108, 109, 110, 113, 114, 117, 118, 119, 122, 125, 128])
/-- 188: AnnCupsModel.bestBy(II)I -/
def mi_188 : mI := (7, yX7_bestBy, cX7_bestBy, 6, (some .int), 3, false, [(.iload 1, .null), (.invokestatic 135, .null), (.ifCond .ne 5, .null), (.iconst 0, .int (-1)), (.ireturn, .null), (.aload 0, .null), (.invokeinterface 7 4, .null), (.ifCond .ne 10, .null), (.iconst 0, .int (-4)), (.ireturn, .null), (.iconst 0, .int 1000000), (.istore 3, .null), (.aload 0, .null), (.invokevirtual 183, .null), (.iconst 0, .int 1), (.istore 4, .null), (.iload 4, .null), (.ifCond .eq 39, .null), (.aload 0, .null), (.iload 2, .null), (.invokevirtual 187, .null), (.istore 5, .null), (.iload 5, .null), (.iload 3, .null), (.if_icmp .ge 35, .null), (.iload 5, .null), (.istore 3, .null), (.aload 0, .null), (.invokeinterface 7 27, .null), (.iconst 0, .int 0), (.aload 0, .null), (.invokeinterface 7 28, .null), (.iconst 0, .int 0), (.iconst 0, .int 6), (.invokestatic 174, .null), (.aload 0, .null), (.invokevirtual 185, .null), (.istore 4, .null), (.goto 16, .null), (.aload 0, .null), (.invokeinterface 7 28, .null), (.iconst 0, .int 0), (.aload 0, .null), (.invokeinterface 7 1, .null), (.iconst 0, .int 40), (.iload 1, .null), (.imul, .null), (.aload 0, .null), (.invokeinterface 7 29, .null), (.invokestatic 174, .null), (.aload 0, .null), (.invokeinterface 7 0, .null), (.iload 1, .null), (.aload 0, .null), (.invokeinterface 7 29, .null), (.iastore, .null), (.iload 3, .null), (.ireturn, .null)], [0, 1, 4, 7, 8, 9, 10, 13, 16, 18, 19, 21, 22, 23, 26, 27, 29, 31, 34, 35, 36, 39, 41, 43, 44, 47, 49, 50, 51, 54, 55, 56, 59, 60, 62, 65, 66, 69, 71, 74, 75, 78, 79, 80, 83, 85, 86, 87, 88, 91, 94, 95, 98, 99, 100, 103, 104, 105])
/-- 189: AnnCupsModel.least(I)I -/
def mi_189 : mI := (7, yX7_least, cX7_least, 2, (some .int), 2, false, [(.aload 0, .null), (.iload 1, .null), (.iconst 0, .int 0), (.invokevirtual 188, .null), (.ireturn, .null)], [0, 1, 2, 3, 6])
/-- 190: AnnCupsModel.latest(I)I -/
def mi_190 : mI := (7, yX7_latest, cX7_latest, 2, (some .int), 2, false, [(.aload 0, .null), (.iload 1, .null), (.iconst 0, .int 1), (.invokevirtual 188, .null), (.ireturn, .null)], [0, 1, 2, 3, 6])
/-- 191: AnnCupsModel.fewest(I)I -/
def mi_191 : mI := (7, yX7_fewest, cX7_fewest, 2, (some .int), 2, false, [(.aload 0, .null), (.iload 1, .null), (.iconst 0, .int 2), (.invokevirtual 188, .null), (.ireturn, .null)], [0, 1, 2, 3, 6])
/-- 192: AnnCupsModel.fraction(JJ)I -/
def mi_192 : mI := (7, yX7_fraction, cX7_fraction, 11, (some .int), 3, false, [(.lload 1, .null), (.lstore 5, .null), (.lload 3, .null), (.lstore 7, .null), (.lload 7, .null), (.lconst 0, .long 0), (.lcmp, .null), (.ifCond .eq 17, .null), (.lload 5, .null), (.lload 7, .null), (.lrem, .null), (.lstore 9, .null), (.lload 7, .null), (.lstore 5, .null), (.lload 9, .null), (.lstore 7, .null), (.goto 4, .null), (.aload 0, .null), (.lload 1, .null), (.lload 5, .null), (.ldiv, .null), (.multianewarray 7 18, .null), (.aload 0, .null), (.lload 3, .null), (.lload 5, .null), (.ldiv, .null), (.multianewarray 7 19, .null), (.iconst 0, .int 1), (.ireturn, .null)], [0, 1, 3, 4, 6, 8, 9, 10, 13, 15, 17, 18, 20, 22, 24, 26, 28, 31, 32, 33, 35, 36, 39, 40, 41, 43, 44, 47, 48])
/-- 193: AnnCupsModel.orders(I)I -/
def mi_193 : mI := (7, yX7_orders, cX7_orders, 4, (some .int), 2, false, [(.iload 1, .null), (.i2l, .null), (.lconst 0, .long 0), (.lconst 0, .long 6), (.invokestatic 129, .null), (.ifCond .ne 8, .null), (.iconst 0, .int (-1)), (.ireturn, .null), (.aload 0, .null), (.invokeinterface 7 4, .null), (.ifCond .ne 13, .null), (.iconst 0, .int (-4)), (.ireturn, .null), (.iconst 0, .int 0), (.istore 2, .null), (.aload 0, .null), (.invokevirtual 183, .null), (.iconst 0, .int 1), (.istore 3, .null), (.iload 3, .null), (.ifCond .eq 36, .null), (.iload 2, .null), (.aload 0, .null), (.iconst 0, .int 2), (.invokevirtual 187, .null), (.iload 1, .null), (.if_icmp .ne 29, .null), (.iconst 0, .int 1), (.goto 30, .null), (.iconst 0, .int 0), (.iadd, .null), (.istore 2, .null), (.aload 0, .null), (.invokevirtual 185, .null), (.istore 3, .null), (.goto 19, .null), (.aload 0, .null), (.iload 2, .null), (.i2l, .null), (.lconst 0, .long 1), (.invokevirtual 192, .null), (.ireturn, .null)], [0, 1, 2, 3, 6, 9, 12, 13, 14, 15, 18, 21, 23, 24, 25, 26, 27, 30, 31, 32, 33, 36, 37, 38, 39, 42, 43, 46, 47, 50, 51, 52, 53, 54, 57, 58, 61, 62, 63, 64, 65, 68])
/-- 194: AnnCupsModel.makes(I)I -/
def mi_194 : mI := (7, yX7_makes, cX7_makes, 3, (some .int), 2, false, [(.iload 1, .null), (.invokestatic 135, .null), (.ifCond .ne 5, .null), (.iconst 0, .int (-1)), (.ireturn, .null), (.aload 0, .null), (.invokeinterface 7 4, .null), (.ifCond .ne 10, .null), (.iconst 0, .int (-4)), (.ireturn, .null), (.aload 0, .null), (.invokeinterface 7 0, .null), (.iload 1, .null), (.iaload, .null), (.ifCond .ge 19, .null), (.aload 0, .null), (.iconst 0, .int 1), (.invokevirtual 132, .null), (.ireturn, .null), (.aload 0, .null), (.invokeinterface 7 0, .null), (.iload 1, .null), (.iaload, .null), (.iconst 0, .int 6), (.if_icmp .le 29, .null), (.aload 0, .null), (.iconst 0, .int 5), (.invokevirtual 132, .null), (.ireturn, .null), (.iconst 0, .int 0), (.istore 2, .null), (.iload 2, .null), (.aload 0, .null), (.invokeinterface 7 0, .null), (.iload 1, .null), (.iaload, .null), (.if_icmp .ge 54, .null), (.aload 0, .null), (.aload 0, .null), (.invokeinterface 7 1, .null), (.iconst 0, .int 40), (.iload 1, .null), (.imul, .null), (.iload 2, .null), (.iadd, .null), (.iaload, .null), (.invokevirtual 155, .null), (.ifCond .ne 52, .null), (.aload 0, .null), (.iconst 0, .int 3), (.invokevirtual 132, .null), (.ireturn, .null), (.iinc 2 0, .int 1), (.goto 31, .null), (.aload 0, .null), (.invokevirtual 186, .null), (.iconst 0, .int 0), (.istore 2, .null), (.iload 2, .null), (.aload 0, .null), (.invokeinterface 7 0, .null), (.iload 1, .null), (.iaload, .null), (.if_icmp .ge 92, .null), (.aload 0, .null), (.invokeinterface 7 12, .null), (.aload 0, .null), (.invokeinterface 7 1, .null), (.iconst 0, .int 40), (.iload 1, .null), (.imul, .null), (.iload 2, .null), (.iadd, .null), (.iaload, .null), (.invokestatic 162, .null), (.ifCond .ne 92, .null), (.aload 0, .null), (.aload 0, .null), (.invokeinterface 7 12, .null), (.aload 0, .null), (.invokeinterface 7 1, .null), (.iconst 0, .int 40), (.iload 1, .null), (.imul, .null), (.iload 2, .null), (.iadd, .null), (.iaload, .null), (.aload 0, .null), (.invokeinterface 7 5, .null), (.invokevirtual 161, .null), (.iinc 2 0, .int 1), (.goto 58, .null), (.aload 0, .null), (.aload 0, .null), (.invokeinterface 7 12, .null), (.iconst 0, .int 6), (.iaload, .null), (.aload 0, .null), (.aload 0, .null), (.invokeinterface 7 12, .null), (.invokevirtual 163, .null), (.invokestatic 131, .null), (.invokevirtual 134, .null), (.ireturn, .null)], [0, 1, 4, 7, 8, 9, 10, 13, 16, 18, 19, 20, 23, 24, 25, 28, 29, 30, 33, 34, 35, 38, 39, 40, 42, 45, 46, 47, 50, 51, 52, 53, 54, 55, 58, 59, 60, 63, 64, 65, 68, 70, 71, 72, 73, 74, 75, 78, 81, 82, 83, 86, 87, 90, 93, 94, 97, 98, 99, 100, 101, 104, 105, 106, 109, 110, 113, 114, 117, 119, 120, 121, 122, 123, 124, 127, 130, 131, 132, 135, 136, 139, 141, 142, 143, 144, 145, 146, 147, 150, 153, 156, 159, 160, 161, 164, 166, 167, 168, 169, 172, 175, 178, 181])
/-- 195: AnnCupsModel.done(II)I -/
def mi_195 : mI := (7, yX7_done, cX7_done, 7, (some .int), 3, false, [(.iload 1, .null), (.i2l, .null), (.lconst 0, .long 0), (.lconst 0, .long 99), (.invokestatic 129, .null), (.ifCond .eq 9, .null), (.iload 2, .null), (.invokestatic 135, .null), (.ifCond .ne 11, .null), (.iconst 0, .int (-1)), (.ireturn, .null), (.aload 0, .null), (.invokeinterface 7 4, .null), (.ifCond .ne 16, .null), (.iconst 0, .int (-4)), (.ireturn, .null), (.aload 0, .null), (.invokeinterface 7 11, .null), (.iconst 0, .int 6), (.iaload, .null), (.iload 1, .null), (.if_icmp .le 24, .null), (.iconst 0, .int (-6)), (.ireturn, .null), (.iconst 0, .int 0), (.istore 3, .null), (.iconst 0, .int 0), (.istore 4, .null), (.aload 0, .null), (.invokeinterface 7 11, .null), (.iconst 0, .int 0), (.aload 0, .null), (.invokeinterface 7 30, .null), (.iconst 0, .int 0), (.iconst 0, .int 9), (.invokestatic 174, .null), (.aload 0, .null), (.invokeinterface 7 31, .null), (.iconst 0, .int 0), (.iconst 0, .int (-1)), (.iastore, .null), (.iload 4, .null), (.ifCond .lt 128, .null), (.aload 0, .null), (.invokeinterface 7 31, .null), (.iload 4, .null), (.dup2, .null), (.iaload, .null), (.iconst 0, .int 1), (.iadd, .null), (.iastore, .null), (.aload 0, .null), (.invokeinterface 7 31, .null), (.iload 4, .null), (.iaload, .null), (.istore 5, .null), (.iload 5, .null), (.aload 0, .null), (.invokeinterface 7 4, .null), (.if_icmp .lt 62, .null), (.iinc 4 0, .int (-1)), (.goto 127, .null), (.aload 0, .null), (.invokeinterface 7 30, .null), (.iconst 0, .int 9), (.iload 4, .null), (.imul, .null), (.aload 0, .null), (.invokeinterface 7 12, .null), (.iconst 0, .int 0), (.iconst 0, .int 9), (.invokestatic 174, .null), (.aload 0, .null), (.invokeinterface 7 12, .null), (.iload 5, .null), (.invokestatic 162, .null), (.ifCond .ne 79, .null), (.iconst 0, .int 1), (.goto 80, .null), (.iconst 0, .int 0), (.istore 6, .null), (.iload 6, .null), (.ifCond .eq 90, .null), (.aload 0, .null), (.aload 0, .null), (.invokeinterface 7 12, .null), (.iload 5, .null), (.aload 0, .null), (.invokeinterface 7 5, .null), (.invokevirtual 161, .null), (.iload 6, .null), (.ifCond .eq 127, .null), (.aload 0, .null), (.invokeinterface 7 12, .null), (.iconst 0, .int 6), (.iaload, .null), (.iload 1, .null), (.if_icmp .gt 127, .null), (.iinc 4 0, .int 1), (.aload 0, .null), (.invokeinterface 7 12, .null), (.iconst 0, .int 0), (.aload 0, .null), (.invokeinterface 7 30, .null), (.iconst 0, .int 9), (.iload 4, .null), (.imul, .null), (.iconst 0, .int 9), (.invokestatic 174, .null), (.aload 0, .null), (.invokeinterface 7 31, .null), (.iload 4, .null), (.iconst 0, .int (-1)), (.iastore, .null), (.iload 4, .null), (.iload 3, .null), (.if_icmp .le 127, .null), (.iload 4, .null), (.istore 3, .null), (.aload 0, .null), (.invokeinterface 7 31, .null), (.iconst 0, .int 0), (.aload 0, .null), (.invokeinterface 7 28, .null), (.iconst 0, .int 0), (.iload 3, .null), (.invokestatic 174, .null), (.goto 41, .null), (.aload 0, .null), (.invokeinterface 7 28, .null), (.iconst 0, .int 0), (.aload 0, .null), (.invokeinterface 7 1, .null), (.iconst 0, .int 40), (.iload 2, .null), (.imul, .null), (.iload 3, .null), (.invokestatic 174, .null), (.aload 0, .null), (.invokeinterface 7 0, .null), (.iload 2, .null), (.iload 3, .null), (.iastore, .null), (.iload 3, .null), (.ireturn, .null)], [0, 1, 2, 3, 6, 9, 12, 13, 16, 19, 20, 21, 22, 25, 28, 30, 31, 32, 35, 37, 38, 39, 42, 44, 45, 46, 47, 48, 50, 51, 54, 55, 56, 59, 60, 62, 65, 66, 69, 70, 71, 72, 74, 77, 78, 81, 83, 84, 85, 86, 87, 88, 89, 92, 94, 95, 97, 99, 100, 103, 106, 109, 112, 113, 116, 118, 120, 121, 122, 125, 126, 128, 131, 132, 135, 137, 140, 143, 144, 147, 148, 150, 152, 155, 156, 157, 160, 162, 163, 166, 169, 171, 174, 175, 178, 180, 181, 182, 185, 188, 189, 192, 193, 194, 197, 199, 201, 202, 204, 207, 208, 211, 213, 214, 215, 217, 218, 221, 223, 224, 225, 228, 229, 230, 233, 234, 235, 238, 241, 242, 245, 246, 247, 250, 252, 253, 254, 255, 258, 259, 262, 263, 264, 265, 266])
/-- 196: AnnCupsModel.wrong()I -/
def mi_196 : mI := (7, yX7_wrong, cX7_wrong, 1, (some .int), 1, false, [(.aload 0, .null), (.aload 0, .null), (.invokeinterface 7 11, .null), (.invokevirtual 163, .null), (.ireturn, .null)], [0, 1, 2, 5, 8])
/-- 197: AnnCupsModel.mends()I -/
def mi_197 : mI := (7, yX7_mends, cX7_mends, 7, (some .int), 1, false, [(.aload 0, .null), (.aload 0, .null), (.invokeinterface 7 11, .null), (.invokevirtual 163, .null), (.istore 1, .null), (.iconst 0, .int 0), (.istore 2, .null), (.iconst 0, .int 0), (.istore 3, .null), (.iload 3, .null), (.aload 0, .null), (.invokeinterface 7 4, .null), (.if_icmp .ge 83, .null), (.aload 0, .null), (.invokeinterface 7 11, .null), (.iconst 0, .int 0), (.iload 3, .null), (.iadd, .null), (.iaload, .null), (.i2l, .null), (.lconst 0, .long 0), (.lconst 0, .long 5), (.invokestatic 129, .null), (.ifCond .eq 30, .null), (.aload 0, .null), (.iload 3, .null), (.invokevirtual 156, .null), (.ifCond .ne 30, .null), (.iconst 0, .int (-9)), (.ireturn, .null), (.iload 1, .null), (.iload 3, .null), (.invokestatic 130, .null), (.ifCond .eq 81, .null), (.aload 0, .null), (.aload 0, .null), (.invokeinterface 7 11, .null), (.iload 3, .null), (.invokevirtual 164, .null), (.istore 4, .null), (.iconst 0, .int 1), (.istore 5, .null), (.iconst 0, .int 0), (.istore 6, .null), (.iload 4, .null), (.iconst 0, .int (-9)), (.if_icmp .eq 70, .null), (.iload 4, .null), (.iload 3, .null), (.if_icmp .eq 70, .null), (.iload 6, .null), (.iconst 0, .int 6), (.if_icmp .ge 70, .null), (.iload 5, .null), (.ifCond .eq 60, .null), (.iload 4, .null), (.iload 3, .null), (.if_icmp .le 60, .null), (.iconst 0, .int 1), (.goto 61, .null), (.iconst 0, .int 0), (.istore 5, .null), (.aload 0, .null), (.aload 0, .null), (.invokeinterface 7 11, .null), (.iload 4, .null), (.invokevirtual 164, .null), (.istore 4, .null), (.iinc 6 0, .int 1), (.goto 44, .null), (.iload 2, .null), (.iload 4, .null), (.iload 3, .null), (.if_icmp .ne 78, .null), (.iload 5, .null), (.ifCond .eq 78, .null), (.iconst 0, .int 1), (.goto 79, .null), (.iconst 0, .int 0), (.iadd, .null), (.istore 2, .null), (.iinc 3 0, .int 1), (.goto 9, .null), (.iload 1, .null), (.invokestatic 131, .null), (.iload 2, .null), (.isub, .null), (.ireturn, .null)], [0, 1, 2, 5, 8, 9, 10, 11, 12, 13, 14, 15, 18, 21, 22, 25, 26, 27, 28, 29, 30, 31, 34, 37, 40, 41, 42, 45, 48, 50, 51, 52, 53, 56, 59, 60, 61, 64, 65, 68, 70, 71, 73, 74, 76, 78, 80, 83, 85, 86, 89, 91, 93, 96, 98, 101, 103, 104, 107, 108, 111, 112, 114, 115, 116, 119, 121, 124, 126, 129, 132, 133, 135, 136, 139, 141, 144, 145, 148, 149, 150, 151, 154, 157, 158, 161, 162, 163])
/-- 198: AnnCupsModel.runs(I)I -/
def mi_198 : mI := (7, yX7_runs, cX7_runs, 5, (some .int), 2, false, [(.aload 0, .null), (.iload 1, .null), (.invokevirtual 155, .null), (.ifCond .ne 6, .null), (.iconst 0, .int (-1)), (.ireturn, .null), (.aload 0, .null), (.invokeinterface 7 11, .null), (.iconst 0, .int 0), (.iload 1, .null), (.iadd, .null), (.iaload, .null), (.istore 2, .null), (.iload 2, .null), (.i2l, .null), (.lconst 0, .long 0), (.lconst 0, .long 5), (.invokestatic 129, .null), (.ifCond .eq 22, .null), (.iload 2, .null), (.iload 1, .null), (.if_icmp .ne 27, .null), (.aload 0, .null), (.iconst 0, .int 0), (.iconst 0, .int (-9)), (.invokevirtual 134, .null), (.ireturn, .null), (.iconst 0, .int 1), (.istore 3, .null), (.iload 1, .null), (.istore 4, .null), (.aload 0, .null), (.aload 0, .null), (.invokeinterface 7 11, .null), (.iload 4, .null), (.invokevirtual 164, .null), (.iconst 0, .int (-9)), (.if_icmp .eq 53, .null), (.aload 0, .null), (.aload 0, .null), (.invokeinterface 7 11, .null), (.iload 4, .null), (.invokevirtual 164, .null), (.iload 2, .null), (.if_icmp .eq 53, .null), (.aload 0, .null), (.aload 0, .null), (.invokeinterface 7 11, .null), (.iload 4, .null), (.invokevirtual 164, .null), (.istore 4, .null), (.iinc 3 0, .int 1), (.goto 31, .null), (.aload 0, .null), (.iload 3, .null), (.iload 4, .null), (.invokevirtual 134, .null), (.ireturn, .null)], [0, 1, 2, 5, 8, 9, 10, 11, 14, 15, 16, 17, 18, 19, 20, 21, 22, 25, 28, 31, 32, 33, 36, 37, 38, 40, 43, 44, 45, 46, 47, 49, 50, 51, 54, 56, 59, 61, 64, 65, 66, 69, 71, 74, 75, 78, 79, 80, 83, 85, 88, 90, 93, 96, 97, 98, 100, 103])
/-- 199: AnnCupsModel.whose(I)I -/
def mi_199 : mI := (7, yX7_whose, cX7_whose, 2, (some .int), 2, false, [(.aload 0, .null), (.iload 1, .null), (.invokevirtual 155, .null), (.ifCond .eq 8, .null), (.aload 0, .null), (.iload 1, .null), (.invokevirtual 170, .null), (.goto 9, .null), (.iconst 0, .int (-1)), (.ireturn, .null)], [0, 1, 2, 5, 8, 9, 10, 13, 16, 17])
/-- 200: AnnCupsModel.alike()I -/
def mi_200 : mI := (7, yX7_alike, cX7_alike, 6, (some .int), 1, false, [(.iconst 0, .int 0), (.istore 1, .null), (.iconst 0, .int (-9)), (.istore 2, .null), (.iconst 0, .int 0), (.istore 3, .null), (.iload 3, .null), (.aload 0, .null), (.invokeinterface 7 4, .null), (.if_icmp .ge 68, .null), (.iload 3, .null), (.iconst 0, .int 1), (.iadd, .null), (.istore 4, .null), (.iload 4, .null), (.aload 0, .null), (.invokeinterface 7 4, .null), (.if_icmp .ge 66, .null), (.aload 0, .null), (.iload 3, .null), (.invokevirtual 156, .null), (.ifCond .eq 41, .null), (.aload 0, .null), (.iload 4, .null), (.invokevirtual 156, .null), (.ifCond .eq 41, .null), (.aload 0, .null), (.invokeinterface 7 9, .null), (.iload 3, .null), (.iaload, .null), (.aload 0, .null), (.invokeinterface 7 9, .null), (.iload 4, .null), (.iaload, .null), (.isub, .null), (.invokestatic 159, .null), (.aload 0, .null), (.invokeinterface 7 5, .null), (.if_icmp .gt 41, .null), (.iconst 0, .int 1), (.goto 42, .null), (.iconst 0, .int 0), (.istore 5, .null), (.iload 1, .null), (.iload 5, .null), (.ifCond .eq 48, .null), (.iconst 0, .int 1), (.goto 49, .null), (.iconst 0, .int 0), (.iadd, .null), (.istore 1, .null), (.iload 5, .null), (.ifCond .eq 62, .null), (.iload 2, .null), (.iconst 0, .int (-9)), (.if_icmp .ne 62, .null), (.iconst 0, .int 6), (.iload 3, .null), (.imul, .null), (.iload 4, .null), (.iadd, .null), (.goto 63, .null), (.iload 2, .null), (.istore 2, .null), (.iinc 4 0, .int 1), (.goto 14, .null), (.iinc 3 0, .int 1), (.goto 6, .null), (.aload 0, .null), (.iload 1, .null), (.iload 2, .null), (.invokevirtual 134, .null), (.ireturn, .null)], [0, 1, 2, 4, 5, 6, 7, 8, 9, 12, 15, 16, 17, 18, 20, 22, 23, 26, 29, 30, 31, 34, 37, 38, 40, 43, 46, 47, 50, 51, 52, 53, 56, 58, 59, 60, 63, 64, 67, 70, 71, 74, 75, 77, 78, 80, 83, 84, 87, 88, 89, 90, 92, 95, 96, 98, 101, 103, 104, 105, 107, 108, 111, 112, 113, 116, 119, 122, 125, 126, 127, 128, 131])
/-- 201: AnnCupsModel.give()I -/
def mi_201 : mI := (7, yX7_give, cX7_give, 6, (some .int), 1, false, [(.aload 0, .null), (.invokeinterface 7 4, .null), (.ifCond .ne 5, .null), (.iconst 0, .int (-4)), (.ireturn, .null), (.iconst 0, .int 0), (.istore 1, .null), (.iconst 0, .int 1000000), (.istore 2, .null), (.iconst 0, .int 0), (.istore 3, .null), (.iload 3, .null), (.iconst 0, .int 10), (.if_icmp .ge 60, .null), (.iconst 0, .int 0), (.istore 4, .null), (.iconst 0, .int 0), (.istore 5, .null), (.iload 5, .null), (.aload 0, .null), (.invokeinterface 7 4, .null), (.if_icmp .ge 44, .null), (.iload 4, .null), (.aload 0, .null), (.iload 5, .null), (.invokevirtual 156, .null), (.ifCond .eq 39, .null), (.aload 0, .null), (.invokeinterface 7 9, .null), (.iload 5, .null), (.iaload, .null), (.iload 3, .null), (.isub, .null), (.invokestatic 159, .null), (.aload 0, .null), (.invokeinterface 7 5, .null), (.if_icmp .gt 39, .null), (.iconst 0, .int 1), (.goto 40, .null), (.iconst 0, .int 0), (.iadd, .null), (.istore 4, .null), (.iinc 5 0, .int 1), (.goto 18, .null), (.iload 4, .null), (.iload 2, .null), (.if_icmp .ge 49, .null), (.iload 3, .null), (.goto 50, .null), (.iload 1, .null), (.istore 1, .null), (.iload 4, .null), (.iload 2, .null), (.if_icmp .ge 56, .null), (.iload 4, .null), (.goto 57, .null), (.iload 2, .null), (.istore 2, .null), (.iinc 3 0, .int 1), (.goto 11, .null), (.aload 0, .null), (.iload 1, .null), (.iload 2, .null), (.invokevirtual 134, .null), (.ireturn, .null)], [0, 1, 4, 7, 9, 10, 11, 12, 14, 15, 16, 17, 18, 20, 23, 24, 26, 27, 29, 31, 32, 35, 38, 40, 41, 43, 46, 49, 50, 53, 55, 56, 57, 58, 61, 62, 65, 68, 69, 72, 73, 74, 76, 79, 82, 84, 85, 88, 89, 92, 93, 94, 96, 97, 100, 102, 105, 106, 107, 110, 113, 114, 115, 116, 119])
/-- 202: AnnCupsModel.reach(I)I -/
def mi_202 : mI := (7, yX7_reach, cX7_reach, 2, (some .int), 2, false, [(.aload 0, .null), (.iload 1, .null), (.invokevirtual 155, .null), (.ifCond .eq 12, .null), (.aload 0, .null), (.aload 0, .null), (.invokeinterface 7 11, .null), (.iload 1, .null), (.aload 0, .null), (.invokeinterface 7 5, .null), (.invokevirtual 160, .null), (.goto 13, .null), (.iconst 0, .int (-1)), (.ireturn, .null)], [0, 1, 2, 5, 8, 9, 10, 13, 14, 15, 18, 21, 24, 25])
/-- 203: AnnCupsModel.arePairs(I)Z -/
def mi_203 : mI := (7, yX7_arePairs, cX7_arePairs, 7, (some .boolean), 2, false, [(.aload 0, .null), (.aload 0, .null), (.invokeinterface 7 11, .null), (.invokevirtual 165, .null), (.istore 2, .null), (.iconst 0, .int 1), (.istore 3, .null), (.iconst 0, .int 0), (.istore 4, .null), (.iload 4, .null), (.aload 0, .null), (.invokeinterface 7 0, .null), (.iload 1, .null), (.iaload, .null), (.if_icmp .ge 68, .null), (.iload 3, .null), (.ifCond .eq 68, .null), (.aload 0, .null), (.invokeinterface 7 1, .null), (.iconst 0, .int 40), (.iload 1, .null), (.imul, .null), (.iload 4, .null), (.iadd, .null), (.iaload, .null), (.istore 5, .null), (.aload 0, .null), (.invokeinterface 7 1, .null), (.iconst 0, .int 40), (.iload 1, .null), (.imul, .null), (.iload 4, .null), (.iadd, .null), (.iconst 0, .int 1), (.iadd, .null), (.iaload, .null), (.istore 6, .null), (.aload 0, .null), (.iload 5, .null), (.invokevirtual 155, .null), (.ifCond .eq 54, .null), (.iload 2, .null), (.iload 5, .null), (.invokestatic 130, .null), (.ifCond .ne 54, .null), (.iload 6, .null), (.iconst 0, .int (-9)), (.if_icmp .eq 52, .null), (.aload 0, .null), (.iload 6, .null), (.invokevirtual 155, .null), (.ifCond .eq 54, .null), (.iconst 0, .int 1), (.goto 55, .null), (.iconst 0, .int 0), (.istore 3, .null), (.iload 2, .null), (.iload 3, .null), (.ifCond .eq 63, .null), (.iconst 0, .int 1), (.iload 5, .null), (.ishl, .null), (.goto 64, .null), (.iconst 0, .int 0), (.ior, .null), (.istore 2, .null), (.iinc 4 0, .int 2), (.goto 9, .null), (.iload 3, .null), (.ireturn, .null)], [0, 1, 2, 5, 8, 9, 10, 11, 12, 14, 16, 17, 20, 21, 22, 25, 26, 29, 30, 33, 35, 36, 37, 39, 40, 41, 43, 44, 47, 49, 50, 51, 53, 54, 55, 56, 57, 59, 60, 62, 65, 68, 69, 71, 74, 77, 79, 81, 84, 85, 87, 90, 93, 94, 97, 98, 99, 100, 101, 104, 105, 107, 108, 111, 112, 113, 114, 117, 120, 121])
/-- 204: AnnCupsModel.ears(I)I -/
def mi_204 : mI := (7, yX7_ears, cX7_ears, 8, (some .int), 2, false, [(.iload 1, .null), (.invokestatic 135, .null), (.ifCond .ne 5, .null), (.iconst 0, .int (-1)), (.ireturn, .null), (.aload 0, .null), (.invokeinterface 7 4, .null), (.ifCond .ne 10, .null), (.iconst 0, .int (-4)), (.ireturn, .null), (.aload 0, .null), (.invokeinterface 7 0, .null), (.iload 1, .null), (.iaload, .null), (.ifCond .ge 19, .null), (.aload 0, .null), (.iconst 0, .int 1), (.invokevirtual 132, .null), (.ireturn, .null), (.aload 0, .null), (.invokeinterface 7 0, .null), (.iload 1, .null), (.iaload, .null), (.iconst 0, .int 2), (.irem, .null), (.iconst 0, .int 1), (.if_icmp .eq 33, .null), (.aload 0, .null), (.invokeinterface 7 0, .null), (.iload 1, .null), (.iaload, .null), (.iconst 0, .int 12), (.if_icmp .le 37, .null), (.aload 0, .null), (.iconst 0, .int 5), (.invokevirtual 132, .null), (.ireturn, .null), (.aload 0, .null), (.iload 1, .null), (.invokevirtual 203, .null), (.ifCond .ne 45, .null), (.aload 0, .null), (.iconst 0, .int 3), (.invokevirtual 132, .null), (.ireturn, .null), (.iconst 0, .int 0), (.istore 2, .null), (.iconst 0, .int 0), (.istore 3, .null), (.iload 3, .null), (.iconst 0, .int 10), (.if_icmp .ge 128, .null), (.aload 0, .null), (.invokevirtual 186, .null), (.iconst 0, .int 1), (.istore 4, .null), (.iconst 0, .int 0), (.istore 5, .null), (.iload 5, .null), (.aload 0, .null), (.invokeinterface 7 0, .null), (.iload 1, .null), (.iaload, .null), (.if_icmp .ge 116, .null), (.aload 0, .null), (.invokeinterface 7 1, .null), (.iconst 0, .int 40), (.iload 1, .null), (.imul, .null), (.iload 5, .null), (.iadd, .null), (.iaload, .null), (.istore 6, .null), (.aload 0, .null), (.aload 0, .null), (.invokeinterface 7 12, .null), (.iload 6, .null), (.iload 3, .null), (.invokevirtual 161, .null), (.aload 0, .null), (.invokeinterface 7 12, .null), (.iconst 0, .int 0), (.iload 6, .null), (.iadd, .null), (.iaload, .null), (.iconst 0, .int 6), (.if_icmp .ne 89, .null), (.iconst 0, .int (-9)), (.goto 95, .null), (.aload 0, .null), (.invokeinterface 7 12, .null), (.iconst 0, .int 0), (.iload 6, .null), (.iadd, .null), (.iaload, .null), (.istore 7, .null), (.iload 4, .null), (.ifCond .eq 112, .null), (.iload 7, .null), (.aload 0, .null), (.invokeinterface 7 1, .null), (.iconst 0, .int 40), (.iload 1, .null), (.imul, .null), (.iload 5, .null), (.iadd, .null), (.iconst 0, .int 1), (.iadd, .null), (.iaload, .null), (.if_icmp .ne 112, .null), (.iconst 0, .int 1), (.goto 113, .null), (.iconst 0, .int 0), (.istore 4, .null), (.iinc 5 0, .int 2), (.goto 58, .null), (.iload 2, .null), (.iload 4, .null), (.ifCond .eq 123, .null), (.iconst 0, .int 1), (.iload 3, .null), (.ishl, .null), (.goto 124, .null), (.iconst 0, .int 0), (.ior, .null), (.istore 2, .null), (.iinc 3 0, .int 1), (.goto 49, .null), (.iload 2, .null), (.ireturn, .null)], [0, 1, 4, 7, 8, 9, 10, 13, 16, 18, 19, 20, 23, 24, 25, 28, 29, 30, 33, 34, 35, 38, 39, 40, 41, 42, 43, 46, 47, 50, 51, 52, 54, 57, 58, 59, 62, 63, 64, 65, 68, 71, 72, 73, 76, 77, 78, 79, 80, 81, 82, 84, 87, 88, 91, 92, 94, 95, 97, 99, 100, 103, 104, 105, 108, 109, 112, 114, 115, 116, 118, 119, 120, 122, 123, 124, 127, 129, 130, 133, 134, 137, 138, 140, 141, 142, 144, 147, 149, 152, 153, 156, 157, 159, 160, 161, 163, 165, 168, 170, 171, 174, 176, 177, 178, 180, 181, 182, 183, 184, 187, 188, 191, 192, 194, 197, 200, 201, 203, 206, 207, 208, 209, 212, 213, 214, 215, 218, 221, 222])
/-- 205: AnnCupsModel.kinds(III)I -/
def mi_205 : mI := (7, yX7_kinds, cX7_kinds, 6, (some .int), 4, false, [(.aload 0, .null), (.iload 1, .null), (.invokevirtual 155, .null), (.ifCond .eq 16, .null), (.iload 2, .null), (.i2l, .null), (.lconst 0, .long 0), (.lconst 0, .long 99), (.invokestatic 129, .null), (.ifCond .eq 16, .null), (.iload 3, .null), (.i2l, .null), (.lconst 0, .long 0), (.lconst 0, .long 1), (.invokestatic 129, .null), (.ifCond .ne 18, .null), (.iconst 0, .int (-1)), (.ireturn, .null), (.iconst 0, .int 0), (.istore 4, .null), (.iconst 0, .int 0), (.istore 5, .null), (.iload 5, .null), (.iconst 0, .int 6), (.if_icmp .ge 49, .null), (.iload 4, .null), (.iload 5, .null), (.aload 0, .null), (.invokeinterface 7 7, .null), (.iload 1, .null), (.iaload, .null), (.iload 3, .null), (.iconst 0, .int 1), (.if_icmp .ne 36, .null), (.iconst 0, .int 1), (.goto 37, .null), (.iconst 0, .int 0), (.invokestatic 157, .null), (.iload 2, .null), (.if_icmp .ne 44, .null), (.iconst 0, .int 1), (.iload 5, .null), (.ishl, .null), (.goto 45, .null), (.iconst 0, .int 0), (.ior, .null), (.istore 4, .null), (.iinc 5 0, .int 1), (.goto 22, .null), (.iload 4, .null), (.ireturn, .null)], [0, 1, 2, 5, 8, 9, 10, 11, 14, 17, 20, 21, 22, 23, 24, 27, 30, 31, 32, 33, 35, 36, 38, 40, 42, 45, 47, 49, 50, 53, 54, 55, 56, 57, 60, 61, 64, 65, 68, 69, 72, 73, 75, 76, 79, 80, 81, 83, 86, 89, 91])
/-- 206: AnnCupsModel.beginsStep(I)V -/
def mi_206 : mI := (7, yX7_beginsStep, cX7_beginsStep, 2, none, 2, false, [(.aload 0, .null), (.invokeinterface 7 33, .null), (.iload 1, .null), (.iconst 0, .int (-1)), (.iastore, .null), (.aload 0, .null), (.invokeinterface 7 34, .null), (.iload 1, .null), (.iconst 0, .int (-9)), (.iastore, .null), (.return_, .null)], [0, 1, 4, 5, 6, 7, 8, 11, 12, 14, 15])
/-- 207: AnnCupsModel.weighs(II)V -/
def mi_207 : mI := (7, yX7_weighs, cX7_weighs, 4, none, 3, false, [(.aload 0, .null), (.invokeinterface 7 34, .null), (.iload 1, .null), (.iaload, .null), (.iconst 0, .int (-9)), (.if_icmp .eq 23, .null), (.iload 1, .null), (.iconst 0, .int 2), (.irem, .null), (.ifCond .ne 17, .null), (.iload 2, .null), (.aload 0, .null), (.invokeinterface 7 34, .null), (.iload 1, .null), (.iaload, .null), (.if_icmp .ge 25, .null), (.goto 23, .null), (.iload 2, .null), (.aload 0, .null), (.invokeinterface 7 34, .null), (.iload 1, .null), (.iaload, .null), (.if_icmp .le 25, .null), (.iconst 0, .int 1), (.goto 26, .null), (.iconst 0, .int 0), (.istore 3, .null), (.aload 0, .null), (.invokeinterface 7 34, .null), (.iload 1, .null), (.iload 3, .null), (.ifCond .eq 34, .null), (.iload 2, .null), (.goto 38, .null), (.aload 0, .null), (.invokeinterface 7 34, .null), (.iload 1, .null), (.iaload, .null), (.iastore, .null), (.return_, .null)], [0, 1, 4, 5, 6, 8, 11, 12, 13, 14, 17, 18, 19, 22, 23, 24, 27, 30, 31, 32, 35, 36, 37, 40, 41, 44, 45, 46, 47, 50, 51, 52, 55, 56, 59, 60, 63, 64, 65, 66])
/-- 208: AnnCupsModel.barGoes(I)Z -/
def mi_208 : mI := (7, yX7_barGoes, cX7_barGoes, 3, (some .boolean), 2, false, [(.aload 0, .null), (.aload 0, .null), (.invokeinterface 7 12, .null), (.invokevirtual 165, .null), (.iconst 0, .int 1), (.aload 0, .null), (.invokeinterface 7 4, .null), (.ishl, .null), (.iconst 0, .int 1), (.isub, .null), (.if_icmp .ne 13, .null), (.iconst 0, .int 1), (.goto 14, .null), (.iconst 0, .int 0), (.istore 2, .null), (.iload 1, .null), (.iconst 0, .int 6), (.if_icmp .ne 20, .null), (.iload 2, .null), (.ireturn, .null), (.iload 1, .null), (.iconst 0, .int 6), (.if_icmp .gt 32, .null), (.aload 0, .null), (.iload 1, .null), (.invokevirtual 155, .null), (.ifCond .eq 32, .null), (.aload 0, .null), (.invokeinterface 7 12, .null), (.iload 1, .null), (.invokestatic 162, .null), (.ifCond .eq 34, .null), (.iconst 0, .int 0), (.ireturn, .null), (.aload 0, .null), (.aload 0, .null), (.invokeinterface 7 12, .null), (.iload 1, .null), (.aload 0, .null), (.invokeinterface 7 5, .null), (.invokevirtual 161, .null), (.iconst 0, .int 1), (.ireturn, .null)], [0, 1, 2, 5, 8, 9, 10, 13, 14, 15, 16, 19, 20, 23, 24, 25, 26, 28, 31, 32, 33, 34, 36, 39, 40, 41, 44, 47, 48, 51, 52, 55, 58, 59, 60, 61, 62, 65, 66, 67, 70, 73, 74])
/-- 209: AnnCupsModel.wagGoes(I)Z -/
def mi_209 : mI := (7, yX7_wagGoes, cX7_wagGoes, 4, (some .boolean), 2, false, [(.iload 1, .null), (.iconst 0, .int 36), (.if_icmp .ne 5, .null), (.iconst 0, .int 1), (.ireturn, .null), (.iload 1, .null), (.iconst 0, .int 6), (.idiv, .null), (.istore 2, .null), (.iload 1, .null), (.iconst 0, .int 6), (.irem, .null), (.istore 3, .null), (.iload 2, .null), (.iload 3, .null), (.if_icmp .ge 34, .null), (.aload 0, .null), (.iload 3, .null), (.invokevirtual 155, .null), (.ifCond .eq 34, .null), (.aload 0, .null), (.aload 0, .null), (.invokeinterface 7 12, .null), (.iload 2, .null), (.invokevirtual 164, .null), (.iconst 0, .int (-9)), (.if_icmp .eq 34, .null), (.aload 0, .null), (.aload 0, .null), (.invokeinterface 7 12, .null), (.iload 3, .null), (.invokevirtual 164, .null), (.iconst 0, .int (-9)), (.if_icmp .ne 36, .null), (.iconst 0, .int 0), (.ireturn, .null), (.aload 0, .null), (.aload 0, .null), (.invokeinterface 7 12, .null), (.iload 2, .null), (.iload 3, .null), (.invokevirtual 177, .null), (.iconst 0, .int 1), (.ireturn, .null)], [0, 1, 3, 6, 7, 8, 9, 11, 12, 13, 14, 16, 17, 18, 19, 20, 23, 24, 25, 28, 31, 32, 33, 36, 37, 40, 42, 45, 46, 47, 50, 51, 54, 56, 59, 60, 61, 62, 63, 66, 67, 68, 71, 72])
/-- 210: AnnCupsModel.wag(I)I -/
def mi_210 : mI := (7, yX7_wag, cX7_wag, 3, (some .int), 2, false, [(.iload 1, .null), (.i2l, .null), (.lconst 0, .long 0), (.lconst 0, .long 2), (.invokestatic 129, .null), (.ifCond .ne 8, .null), (.iconst 0, .int (-1)), (.ireturn, .null), (.aload 0, .null), (.invokeinterface 7 4, .null), (.ifCond .ne 13, .null), (.iconst 0, .int (-4)), (.ireturn, .null), (.iload 1, .null), (.ifCond .ne 21, .null), (.aload 0, .null), (.aload 0, .null), (.invokeinterface 7 11, .null), (.invokevirtual 163, .null), (.invokestatic 131, .null), (.ireturn, .null), (.aload 0, .null), (.invokeinterface 7 11, .null), (.iconst 0, .int 0), (.aload 0, .null), (.invokeinterface 7 32, .null), (.iconst 0, .int 0), (.iconst 0, .int 9), (.invokestatic 174, .null), (.aload 0, .null), (.iconst 0, .int 0), (.invokevirtual 206, .null), (.iconst 0, .int 0), (.istore 2, .null), (.iload 2, .null), (.ifCond .lt 123, .null), (.aload 0, .null), (.invokeinterface 7 33, .null), (.iload 2, .null), (.dup2, .null), (.iaload, .null), (.iconst 0, .int 1), (.iadd, .null), (.iastore, .null), (.aload 0, .null), (.invokeinterface 7 32, .null), (.iconst 0, .int 9), (.iload 2, .null), (.imul, .null), (.aload 0, .null), (.invokeinterface 7 12, .null), (.iconst 0, .int 0), (.iconst 0, .int 9), (.invokestatic 174, .null), (.aload 0, .null), (.invokeinterface 7 33, .null), (.iload 2, .null), (.iaload, .null), (.iconst 0, .int 36), (.if_icmp .le 73, .null), (.iinc 2 0, .int (-1)), (.iload 2, .null), (.ifCond .lt 34, .null), (.aload 0, .null), (.iload 2, .null), (.aload 0, .null), (.invokeinterface 7 34, .null), (.iload 2, .null), (.iconst 0, .int 1), (.iadd, .null), (.iaload, .null), (.invokevirtual 207, .null), (.goto 34, .null), (.iload 2, .null), (.iconst 0, .int 2), (.irem, .null), (.ifCond .ne 85, .null), (.aload 0, .null), (.aload 0, .null), (.invokeinterface 7 33, .null), (.iload 2, .null), (.iaload, .null), (.invokevirtual 208, .null), (.ifCond .eq 34, .null), (.goto 92, .null), (.aload 0, .null), (.aload 0, .null), (.invokeinterface 7 33, .null), (.iload 2, .null), (.iaload, .null), (.invokevirtual 209, .null), (.ifCond .eq 34, .null), (.iload 2, .null), (.iconst 0, .int 1), (.iadd, .null), (.iconst 0, .int 2), (.iload 1, .null), (.imul, .null), (.if_icmp .ne 108, .null), (.aload 0, .null), (.iload 2, .null), (.aload 0, .null), (.aload 0, .null), (.invokeinterface 7 12, .null), (.invokevirtual 163, .null), (.invokestatic 131, .null), (.invokevirtual 207, .null), (.goto 34, .null), (.iinc 2 0, .int 1), (.aload 0, .null), (.invokeinterface 7 12, .null), (.iconst 0, .int 0), (.aload 0, .null), (.invokeinterface 7 32, .null), (.iconst 0, .int 9), (.iload 2, .null), (.imul, .null), (.iconst 0, .int 9), (.invokestatic 174, .null), (.aload 0, .null), (.iload 2, .null), (.invokevirtual 206, .null), (.goto 34, .null), (.aload 0, .null), (.invokeinterface 7 34, .null), (.iconst 0, .int 0), (.iaload, .null), (.ireturn, .null)], [0, 1, 2, 3, 6, 9, 12, 13, 14, 15, 18, 21, 23, 24, 25, 28, 29, 30, 33, 36, 39, 40, 41, 44, 45, 46, 49, 50, 52, 55, 56, 57, 60, 61, 62, 63, 66, 67, 70, 71, 72, 73, 74, 75, 76, 77, 80, 82, 83, 84, 85, 88, 89, 91, 94, 95, 98, 99, 100, 102, 105, 108, 109, 112, 113, 114, 115, 118, 119, 120, 121, 122, 125, 128, 129, 130, 131, 134, 135, 136, 139, 140, 141, 144, 147, 150, 151, 152, 155, 156, 157, 160, 163, 164, 165, 166, 167, 168, 169, 172, 173, 174, 175, 176, 179, 182, 185, 188, 191, 194, 195, 198, 199, 200, 203, 205, 206, 207, 209, 212, 213, 214, 217, 220, 221, 224, 225, 226])
/-- 211: AnnCupsModel.waiting()I -/
def mi_211 : mI := (7, yX7_waiting, cX7_waiting, 3, (some .int), 1, false, [(.iconst 0, .int 0), (.istore 1, .null), (.iconst 0, .int 0), (.istore 2, .null), (.iload 2, .null), (.aload 0, .null), (.invokeinterface 7 4, .null), (.if_icmp .ge 29, .null), (.iload 1, .null), (.aload 0, .null), (.iload 2, .null), (.invokevirtual 156, .null), (.ifCond .eq 24, .null), (.aload 0, .null), (.invokeinterface 7 11, .null), (.iconst 0, .int 7), (.iaload, .null), (.iload 2, .null), (.invokestatic 130, .null), (.ifCond .ne 24, .null), (.iconst 0, .int 1), (.iload 2, .null), (.ishl, .null), (.goto 25, .null), (.iconst 0, .int 0), (.ior, .null), (.istore 1, .null), (.iinc 2 0, .int 1), (.goto 4, .null), (.iload 1, .null), (.ireturn, .null)], [0, 1, 2, 3, 4, 5, 6, 9, 12, 13, 14, 15, 18, 21, 22, 25, 27, 28, 29, 32, 35, 36, 37, 38, 41, 42, 43, 44, 47, 50, 51])
/-- 212: AnnCupsModel.waysOf(III)J -/
def mi_212 : mI := (7, yX7_waysOf, cX7_waysOf, 7, (some .long), 4, false, [(.lconst 0, .long 1), (.lstore 4, .null), (.iconst 0, .int 0), (.istore 6, .null), (.iload 6, .null), (.aload 0, .null), (.invokeinterface 7 4, .null), (.if_icmp .ge 30, .null), (.lload 4, .null), (.iload 2, .null), (.iload 6, .null), (.invokestatic 130, .null), (.ifCond .ne 15, .null), (.lconst 0, .long 1), (.goto 26, .null), (.iload 1, .null), (.iload 6, .null), (.invokestatic 130, .null), (.ifCond .eq 22, .null), (.iload 3, .null), (.i2l, .null), (.goto 26, .null), (.iconst 0, .int 12), (.iload 3, .null), (.isub, .null), (.i2l, .null), (.lmul, .null), (.lstore 4, .null), (.iinc 6 0, .int 1), (.goto 4, .null), (.lload 4, .null), (.lreturn, .null)], [0, 1, 3, 4, 6, 8, 9, 12, 15, 17, 18, 20, 23, 26, 27, 30, 31, 33, 36, 39, 40, 41, 44, 46, 47, 48, 49, 50, 52, 55, 58, 60])
/-- 213: AnnCupsModel.twelves(I)J -/
def mi_213 : mI := (7, yX7_twelves, cX7_twelves, 4, (some .long), 1, true, [(.lconst 0, .long 1), (.lstore 1, .null), (.iconst 0, .int 0), (.istore 3, .null), (.iload 3, .null), (.iload 0, .null), (.if_icmp .ge 13, .null), (.lload 1, .null), (.lconst 0, .long 12), (.lmul, .null), (.lstore 1, .null), (.iinc 3 0, .int 1), (.goto 4, .null), (.lload 1, .null), (.lreturn, .null)], [0, 1, 2, 3, 4, 5, 6, 9, 10, 13, 14, 15, 18, 21, 22])
/-- 214: AnnCupsModel.odds(II)I -/
def mi_214 : mI := (7, yX7_odds, cX7_odds, 7, (some .int), 3, false, [(.aload 0, .null), (.iload 1, .null), (.invokevirtual 155, .null), (.ifCond .eq 10, .null), (.iload 2, .null), (.i2l, .null), (.lconst 0, .long 0), (.lconst 0, .long 12), (.invokestatic 129, .null), (.ifCond .ne 12, .null), (.iconst 0, .int (-1)), (.ireturn, .null), (.aload 0, .null), (.invokeinterface 7 11, .null), (.iload 1, .null), (.invokestatic 162, .null), (.ifCond .eq 19, .null), (.iconst 0, .int (-4)), (.ireturn, .null), (.aload 0, .null), (.invokevirtual 211, .null), (.iconst 0, .int 1), (.iload 1, .null), (.ishl, .null), (.iconst 0, .int (-1)), (.ixor, .null), (.iand, .null), (.istore 3, .null), (.lconst 0, .long 0), (.lstore 4, .null), (.iconst 0, .int 0), (.istore 6, .null), (.iload 6, .null), (.iconst 0, .int 1), (.aload 0, .null), (.invokeinterface 7 4, .null), (.ishl, .null), (.if_icmp .ge 75, .null), (.iload 6, .null), (.iload 3, .null), (.iconst 0, .int (-1)), (.ixor, .null), (.iand, .null), (.ifCond .ne 73, .null), (.aload 0, .null), (.invokevirtual 186, .null), (.aload 0, .null), (.invokeinterface 7 12, .null), (.iconst 0, .int 7), (.dup2, .null), (.iaload, .null), (.iload 6, .null), (.ior, .null), (.iastore, .null), (.lload 4, .null), (.aload 0, .null), (.aload 0, .null), (.invokeinterface 7 12, .null), (.iload 1, .null), (.aload 0, .null), (.invokeinterface 7 5, .null), (.invokevirtual 160, .null), (.iload 1, .null), (.if_icmp .ne 70, .null), (.aload 0, .null), (.iload 6, .null), (.iload 3, .null), (.iload 2, .null), (.invokevirtual 212, .null), (.goto 71, .null), (.lconst 0, .long 0), (.ladd, .null), (.lstore 4, .null), (.iinc 6 0, .int 1), (.goto 32, .null), (.aload 0, .null), (.lload 4, .null), (.iload 3, .null), (.invokestatic 131, .null), (.invokestatic 213, .null), (.invokevirtual 192, .null), (.ireturn, .null)], [0, 1, 2, 5, 8, 9, 10, 11, 14, 17, 20, 21, 22, 23, 26, 27, 30, 33, 35, 36, 37, 40, 41, 42, 43, 44, 45, 46, 47, 48, 50, 51, 53, 55, 56, 57, 60, 61, 64, 66, 67, 68, 69, 70, 73, 74, 77, 78, 81, 83, 84, 85, 87, 88, 89, 91, 92, 93, 96, 97, 98, 101, 104, 105, 108, 109, 111, 112, 113, 116, 119, 120, 121, 123, 126, 129, 130, 132, 133, 136, 139, 142])
/-- 215: AnnCupsModel.mid(I)I -/
def mi_215 : mI := (7, yX7_mid, cX7_mid, 7, (some .int), 2, false, [(.iload 1, .null), (.i2l, .null), (.lconst 0, .long 0), (.lconst 0, .long 12), (.invokestatic 129, .null), (.ifCond .ne 8, .null), (.iconst 0, .int (-1)), (.ireturn, .null), (.aload 0, .null), (.invokeinterface 7 4, .null), (.ifCond .ne 13, .null), (.iconst 0, .int (-4)), (.ireturn, .null), (.aload 0, .null), (.invokevirtual 211, .null), (.istore 2, .null), (.lconst 0, .long 0), (.lstore 3, .null), (.iconst 0, .int 0), (.istore 5, .null), (.iload 5, .null), (.iconst 0, .int 1), (.aload 0, .null), (.invokeinterface 7 4, .null), (.ishl, .null), (.if_icmp .ge 79, .null), (.iload 5, .null), (.iload 2, .null), (.iconst 0, .int (-1)), (.ixor, .null), (.iand, .null), (.ifCond .ne 77, .null), (.aload 0, .null), (.invokevirtual 186, .null), (.aload 0, .null), (.invokeinterface 7 12, .null), (.iconst 0, .int 7), (.dup2, .null), (.iaload, .null), (.iload 5, .null), (.ior, .null), (.iastore, .null), (.iconst 0, .int 0), (.istore 6, .null), (.iload 6, .null), (.aload 0, .null), (.invokeinterface 7 4, .null), (.if_icmp .ge 62, .null), (.aload 0, .null), (.invokeinterface 7 12, .null), (.iload 6, .null), (.invokestatic 162, .null), (.ifCond .ne 60, .null), (.aload 0, .null), (.aload 0, .null), (.invokeinterface 7 12, .null), (.iload 6, .null), (.aload 0, .null), (.invokeinterface 7 5, .null), (.invokevirtual 161, .null), (.iinc 6 0, .int 1), (.goto 44, .null), (.lload 3, .null), (.aload 0, .null), (.aload 0, .null), (.invokeinterface 7 12, .null), (.invokevirtual 163, .null), (.invokestatic 131, .null), (.i2l, .null), (.aload 0, .null), (.iload 5, .null), (.iload 2, .null), (.iload 1, .null), (.invokevirtual 212, .null), (.lmul, .null), (.ladd, .null), (.lstore 3, .null), (.iinc 5 0, .int 1), (.goto 20, .null), (.aload 0, .null), (.lload 3, .null), (.iload 2, .null), (.invokestatic 131, .null), (.invokestatic 213, .null), (.invokevirtual 192, .null), (.ireturn, .null)], [0, 1, 2, 3, 6, 9, 12, 13, 14, 15, 18, 21, 23, 24, 25, 28, 29, 30, 31, 32, 34, 36, 37, 38, 41, 42, 45, 47, 48, 49, 50, 51, 54, 55, 58, 59, 62, 64, 65, 66, 68, 69, 70, 71, 73, 75, 76, 79, 82, 83, 86, 88, 91, 94, 95, 96, 99, 101, 102, 105, 108, 111, 114, 115, 116, 117, 120, 123, 126, 127, 128, 130, 131, 132, 135, 136, 137, 138, 141, 144, 145, 146, 147, 150, 153, 156])
/-- 216: AnnCupsModel.plays(II)V -/
def mi_216 : mI := (7, yX7_plays, cX7_plays, 4, none, 3, false, [(.aload 0, .null), (.invokevirtual 175, .null), (.aload 0, .null), (.invokeinterface 7 11, .null), (.iconst 0, .int 0), (.iload 1, .null), (.iadd, .null), (.iaload, .null), (.istore 3, .null), (.iload 3, .null), (.iconst 0, .int (-9)), (.if_icmp .ne 20, .null), (.aload 0, .null), (.aload 0, .null), (.invokeinterface 7 11, .null), (.iload 1, .null), (.aload 0, .null), (.invokeinterface 7 5, .null), (.invokevirtual 161, .null), (.goto 47, .null), (.iload 3, .null), (.iconst 0, .int 6), (.if_icmp .ne 31, .null), (.aload 0, .null), (.invokeinterface 7 11, .null), (.iconst 0, .int 0), (.iload 1, .null), (.iadd, .null), (.iconst 0, .int 7), (.iastore, .null), (.goto 47, .null), (.iload 3, .null), (.iconst 0, .int 7), (.if_icmp .eq 47, .null), (.iload 3, .null), (.iload 2, .null), (.if_icmp .eq 47, .null), (.aload 0, .null), (.iload 2, .null), (.invokevirtual 156, .null), (.ifCond .eq 47, .null), (.aload 0, .null), (.aload 0, .null), (.invokeinterface 7 11, .null), (.iload 3, .null), (.iload 2, .null), (.invokevirtual 177, .null), (.return_, .null)], [0, 1, 4, 5, 8, 9, 10, 11, 12, 13, 14, 16, 19, 20, 21, 24, 25, 26, 29, 32, 35, 36, 38, 41, 42, 45, 46, 47, 48, 50, 51, 54, 55, 57, 60, 61, 62, 65, 66, 67, 70, 73, 74, 75, 78, 79, 80, 83])
/-- 217: AnnCupsModel.lots(II)I -/
def mi_217 : mI := (7, yX7_lots, cX7_lots, 6, (some .int), 3, false, [(.iload 1, .null), (.i2l, .null), (.lconst 0, .long 1), (.lconst 0, .long 20), (.invokestatic 129, .null), (.ifCond .eq 12, .null), (.iload 2, .null), (.i2l, .null), (.lconst 0, .long 1), (.lconst 0, .long 2147483646), (.invokestatic 129, .null), (.ifCond .ne 14, .null), (.iconst 0, .int (-1)), (.ireturn, .null), (.aload 0, .null), (.invokeinterface 7 4, .null), (.ifCond .ne 19, .null), (.iconst 0, .int (-4)), (.ireturn, .null), (.aload 0, .null), (.invokeinterface 7 13, .null), (.iload 1, .null), (.iadd, .null), (.iconst 0, .int 40), (.if_icmp .le 27, .null), (.iconst 0, .int (-2)), (.ireturn, .null), (.iload 2, .null), (.i2l, .null), (.lstore 3, .null), (.iconst 0, .int 0), (.istore 5, .null), (.iload 5, .null), (.iload 1, .null), (.if_icmp .ge 59, .null), (.lconst 0, .long 48271), (.lload 3, .null), (.lmul, .null), (.lconst 0, .long 2147483647), (.lrem, .null), (.lstore 3, .null), (.aload 0, .null), (.lload 3, .null), (.aload 0, .null), (.invokeinterface 7 4, .null), (.i2l, .null), (.lrem, .null), (.l2i, .null), (.lload 3, .null), (.lconst 0, .long 8), (.ldiv, .null), (.aload 0, .null), (.invokeinterface 7 4, .null), (.i2l, .null), (.lrem, .null), (.l2i, .null), (.invokevirtual 216, .null), (.iinc 5 0, .int 1), (.goto 32, .null), (.aload 0, .null), (.aload 0, .null), (.invokeinterface 7 11, .null), (.invokevirtual 163, .null), (.invokestatic 131, .null), (.ireturn, .null)], [0, 1, 2, 3, 6, 9, 12, 13, 14, 15, 18, 21, 24, 25, 26, 27, 30, 33, 35, 36, 37, 40, 41, 42, 44, 47, 49, 50, 51, 52, 53, 54, 56, 58, 59, 62, 65, 66, 67, 70, 71, 72, 73, 74, 75, 78, 79, 80, 81, 82, 85, 86, 87, 90, 91, 92, 93, 96, 99, 102, 103, 104, 107, 110, 113])
/-- 218: AnnCupsModel.asked()I -/
def mi_218 : mI := (7, yX7_asked, cX7_asked, 1, (some .int), 1, false, [(.aload 0, .null), (.invokeinterface 7 17, .null), (.ireturn, .null)], [0, 1, 4])
/-- 219: AnnCupsModel.upper()J -/
def mi_219 : mI := (7, yX7_upper, cX7_upper, 1, (some .long), 1, false, [(.aload 0, .null), (.invokeinterface 7 18, .null), (.lreturn, .null)], [0, 1, 4])
/-- 220: AnnCupsModel.lower()J -/
def mi_220 : mI := (7, yX7_lower, cX7_lower, 1, (some .long), 1, false, [(.aload 0, .null), (.invokeinterface 7 19, .null), (.lreturn, .null)], [0, 1, 4])
/-- 221: AnnCupsModel.kindsOf(I)I -/
def mi_221 : mI := (7, yX7_kindsOf, cX7_kindsOf, 4, (some .int), 2, false, [(.iconst 0, .int 0), (.istore 2, .null), (.iconst 0, .int 0), (.istore 3, .null), (.iload 3, .null), (.aload 0, .null), (.invokeinterface 7 4, .null), (.if_icmp .ge 23, .null), (.iload 2, .null), (.aload 0, .null), (.invokeinterface 7 6, .null), (.iload 3, .null), (.iaload, .null), (.iload 1, .null), (.invokestatic 169, .null), (.ifCond .eq 18, .null), (.iconst 0, .int 1), (.goto 19, .null), (.iconst 0, .int 0), (.iadd, .null), (.istore 2, .null), (.iinc 3 0, .int 1), (.goto 4, .null), (.iload 2, .null), (.ireturn, .null)], [0, 1, 2, 3, 4, 5, 6, 9, 12, 13, 14, 17, 18, 19, 20, 23, 26, 27, 30, 31, 32, 33, 36, 39, 40])
/-- 222: AnnCupsModel.counted(I)I -/
def mi_222 : mI := (7, yX7_counted, cX7_counted, 4, (some .int), 2, false, [(.iconst 0, .int 0), (.istore 2, .null), (.iconst 0, .int 0), (.istore 3, .null), (.iload 3, .null), (.iconst 0, .int 6), (.if_icmp .ge 23, .null), (.iload 1, .null), (.iconst 0, .int 9), (.if_icmp .ne 23, .null), (.iload 2, .null), (.aload 0, .null), (.invokeinterface 7 0, .null), (.iload 3, .null), (.iaload, .null), (.ifCond .ge 18, .null), (.iconst 0, .int 0), (.goto 19, .null), (.iconst 0, .int 1), (.iadd, .null), (.istore 2, .null), (.iinc 3 0, .int 1), (.goto 4, .null), (.iconst 0, .int 0), (.istore 3, .null), (.iload 3, .null), (.iconst 0, .int 4), (.if_icmp .ge 44, .null), (.iload 1, .null), (.iconst 0, .int 10), (.if_icmp .ne 44, .null), (.iload 2, .null), (.aload 0, .null), (.invokeinterface 7 2, .null), (.iload 3, .null), (.iaload, .null), (.ifCond .ge 39, .null), (.iconst 0, .int 0), (.goto 40, .null), (.iconst 0, .int 1), (.iadd, .null), (.istore 2, .null), (.iinc 3 0, .int 1), (.goto 25, .null), (.iconst 0, .int 0), (.istore 3, .null), (.iload 3, .null), (.iconst 0, .int 3), (.if_icmp .ge 65, .null), (.iload 1, .null), (.iconst 0, .int 11), (.if_icmp .ne 65, .null), (.iload 2, .null), (.aload 0, .null), (.invokeinterface 7 16, .null), (.iload 3, .null), (.baload, .null), (.ifCond .eq 60, .null), (.iconst 0, .int 1), (.goto 61, .null), (.iconst 0, .int 0), (.iadd, .null), (.istore 2, .null), (.iinc 3 0, .int 1), (.goto 46, .null), (.iload 1, .null), (.tableswitch 102 0 8 #[67, 70, 75, 78, 83, 86, 89, 93, 97], .null), (.aload 0, .null), (.invokeinterface 7 4, .null), (.ireturn, .null), (.aload 0, .null), (.invokeinterface 7 11, .null), (.iconst 0, .int 6), (.iaload, .null), (.ireturn, .null), (.aload 0, .null), (.invokeinterface 7 13, .null), (.ireturn, .null), (.aload 0, .null), (.aload 0, .null), (.invokeinterface 7 11, .null), (.invokevirtual 165, .null), (.ireturn, .null), (.aload 0, .null), (.invokevirtual 166, .null), (.ireturn, .null), (.aload 0, .null), (.invokeinterface 7 5, .null), (.ireturn, .null), (.aload 0, .null), (.iconst 0, .int 1), (.invokevirtual 221, .null), (.ireturn, .null), (.aload 0, .null), (.iconst 0, .int 2), (.invokevirtual 221, .null), (.ireturn, .null), (.aload 0, .null), (.invokeinterface 7 11, .null), (.iconst 0, .int 7), (.iaload, .null), (.ireturn, .null), (.iload 2, .null), (.ireturn, .null)], [0, 1, 2, 3, 4, 5, 7, 10, 11, 13, 16, 17, 18, 21, 22, 23, 26, 27, 30, 31, 32, 33, 36, 39, 40, 41, 42, 43, 46, 47, 49, 52, 53, 54, 57, 58, 59, 62, 63, 66, 67, 68, 69, 72, 75, 76, 77, 78, 79, 82, 83, 85, 88, 89, 90, 93, 94, 95, 98, 99, 102, 103, 104, 105, 108, 111, 112, 164, 165, 168, 169, 170, 173, 175, 176, 177, 178, 181, 182, 183, 184, 187, 190, 191, 192, 195, 196, 197, 200, 201, 202, 203, 206, 207, 208, 209, 212, 213, 214, 217, 219, 220, 221, 222])
/-- 223: AnnCupsModel.count(I)I -/
def mi_223 : mI := (7, yX7_count, cX7_count, 2, (some .int), 2, false, [(.iload 1, .null), (.i2l, .null), (.lconst 0, .long 0), (.lconst 0, .long 11), (.invokestatic 129, .null), (.ifCond .eq 10, .null), (.aload 0, .null), (.iload 1, .null), (.invokevirtual 222, .null), (.goto 11, .null), (.iconst 0, .int (-1)), (.ireturn, .null)], [0, 1, 2, 3, 6, 9, 12, 13, 14, 17, 20, 21])
/-- 224: AnnCupsModel.finding()I -/
def mi_224 : mI := (7, yX7_finding, cX7_finding, 1, (some .int), 1, false, [(.aload 0, .null), (.invokeinterface 7 20, .null), (.ireturn, .null)], [0, 1, 4])
/-- 225: AnnCupsModel.findings(I)I -/
def mi_225 : mI := (7, yX7_findings, cX7_findings, 2, (some .int), 2, false, [(.iload 1, .null), (.i2l, .null), (.lconst 0, .long 1), (.lconst 0, .long 5), (.invokestatic 129, .null), (.ifCond .eq 11, .null), (.aload 0, .null), (.invokeinterface 7 21, .null), (.iload 1, .null), (.iaload, .null), (.goto 12, .null), (.iconst 0, .int (-1)), (.ireturn, .null)], [0, 1, 2, 3, 6, 9, 12, 13, 16, 17, 18, 21, 22])
/-- 226: AnnCupsModel.digest()J -/
def mi_226 : mI := (7, yX7_digest, cX7_digest, 5, (some .long), 1, false, [(.lconst 0, .long 17), (.lstore 1, .null), (.iconst 0, .int 0), (.istore 3, .null), (.iload 3, .null), (.iconst 0, .int 12), (.if_icmp .ge 18, .null), (.lconst 0, .long 31), (.lload 1, .null), (.lmul, .null), (.aload 0, .null), (.iload 3, .null), (.invokevirtual 222, .null), (.i2l, .null), (.ladd, .null), (.lstore 1, .null), (.iinc 3 0, .int 1), (.goto 4, .null), (.iconst 0, .int 0), (.istore 3, .null), (.iload 3, .null), (.aload 0, .null), (.invokeinterface 7 4, .null), (.if_icmp .ge 43, .null), (.iconst 0, .int 0), (.istore 4, .null), (.iload 4, .null), (.iconst 0, .int 6), (.if_icmp .ge 41, .null), (.lconst 0, .long 31), (.lload 1, .null), (.lmul, .null), (.aload 0, .null), (.iload 3, .null), (.iload 4, .null), (.invokevirtual 167, .null), (.i2l, .null), (.ladd, .null), (.lstore 1, .null), (.iinc 4 0, .int 1), (.goto 26, .null), (.iinc 3 0, .int 1), (.goto 20, .null), (.iconst 0, .int 0), (.istore 3, .null), (.iload 3, .null), (.aload 0, .null), (.invokeinterface 7 4, .null), (.if_icmp .ge 62, .null), (.lconst 0, .long 31), (.lload 1, .null), (.lmul, .null), (.aload 0, .null), (.aload 0, .null), (.invokeinterface 7 11, .null), (.iload 3, .null), (.invokevirtual 164, .null), (.i2l, .null), (.ladd, .null), (.lstore 1, .null), (.iinc 3 0, .int 1), (.goto 45, .null), (.iconst 0, .int 0), (.istore 3, .null), (.iload 3, .null), (.iconst 0, .int 3), (.if_icmp .ge 90, .null), (.lconst 0, .long 31), (.lload 1, .null), (.lmul, .null), (.aload 0, .null), (.invokeinterface 7 16, .null), (.iload 3, .null), (.baload, .null), (.ifCond .eq 84, .null), (.aload 0, .null), (.invokeinterface 7 15, .null), (.iconst 0, .int 370), (.iload 3, .null), (.imul, .null), (.iconst 0, .int 369), (.iadd, .null), (.iaload, .null), (.goto 85, .null), (.iconst 0, .int (-1)), (.i2l, .null), (.ladd, .null), (.lstore 1, .null), (.iinc 3 0, .int 1), (.goto 64, .null), (.iconst 0, .int 0), (.istore 3, .null), (.iload 3, .null), (.iconst 0, .int 6), (.if_icmp .ge 131, .null), (.lconst 0, .long 31), (.lload 1, .null), (.lmul, .null), (.aload 0, .null), (.invokeinterface 7 0, .null), (.iload 3, .null), (.iaload, .null), (.i2l, .null), (.ladd, .null), (.lstore 1, .null), (.iconst 0, .int 0), (.istore 4, .null), (.iload 4, .null), (.aload 0, .null), (.invokeinterface 7 0, .null), (.iload 3, .null), (.iaload, .null), (.if_icmp .ge 129, .null), (.lconst 0, .long 31), (.lload 1, .null), (.lmul, .null), (.aload 0, .null), (.invokeinterface 7 1, .null), (.iconst 0, .int 40), (.iload 3, .null), (.imul, .null), (.iload 4, .null), (.iadd, .null), (.iaload, .null), (.i2l, .null), (.ladd, .null), (.lstore 1, .null), (.iinc 4 0, .int 1), (.goto 107, .null), (.iinc 3 0, .int 1), (.goto 92, .null), (.iconst 0, .int 0), (.istore 3, .null), (.iload 3, .null), (.iconst 0, .int 4), (.if_icmp .ge 172, .null), (.lconst 0, .long 31), (.lload 1, .null), (.lmul, .null), (.aload 0, .null), (.invokeinterface 7 2, .null), (.iload 3, .null), (.iaload, .null), (.i2l, .null), (.ladd, .null), (.lstore 1, .null), (.iconst 0, .int 0), (.istore 4, .null), (.iload 4, .null), (.aload 0, .null), (.invokeinterface 7 2, .null), (.iload 3, .null), (.iaload, .null), (.if_icmp .ge 170, .null), (.lconst 0, .long 31), (.lload 1, .null), (.lmul, .null), (.aload 0, .null), (.invokeinterface 7 3, .null), (.iconst 0, .int 60), (.iload 3, .null), (.imul, .null), (.iload 4, .null), (.iadd, .null), (.iaload, .null), (.i2l, .null), (.ladd, .null), (.lstore 1, .null), (.iinc 4 0, .int 1), (.goto 148, .null), (.iinc 3 0, .int 1), (.goto 133, .null), (.lload 1, .null), (.lreturn, .null)], [0, 3, 4, 5, 6, 7, 9, 12, 15, 16, 17, 18, 19, 22, 23, 24, 25, 28, 31, 32, 33, 34, 35, 38, 41, 42, 44, 46, 48, 51, 54, 55, 56, 57, 58, 60, 63, 64, 65, 66, 69, 72, 75, 78, 79, 80, 81, 82, 85, 88, 91, 92, 93, 94, 95, 98, 99, 102, 103, 104, 105, 108, 111, 112, 113, 114, 115, 118, 121, 122, 123, 124, 127, 128, 129, 132, 133, 136, 139, 140, 141, 144, 145, 146, 149, 150, 151, 152, 153, 156, 159, 160, 161, 162, 164, 167, 170, 171, 172, 173, 176, 177, 178, 179, 180, 181, 182, 184, 186, 187, 190, 191, 192, 195, 198, 199, 200, 201, 204, 206, 207, 208, 210, 211, 212, 213, 214, 215, 218, 221, 224, 227, 228, 229, 230, 231, 234, 237, 238, 239, 240, 243, 244, 245, 246, 247, 248, 249, 251, 253, 254, 257, 258, 259, 262, 265, 266, 267, 268, 271, 273, 274, 275, 277, 278, 279, 280, 281, 282, 285, 288, 291, 294, 295])
/-- 227: java/lang/Integer.bitCount(I)I -/
def mi_227 : mI := (8, yJ6_bitCount_0f7a4, cJ6_bitCount_0f7a4, 1, (some .int), 1, true, [(.iload 0, .null), (.iload 0, .null), (.iconst 0, .int 1), (.iushr, .null), (.iconst 0, .int 1431655765), (.iand, .null), (.isub, .null), (.istore 0, .null), (.iload 0, .null), (.iconst 0, .int 858993459), (.iand, .null), (.iload 0, .null), (.iconst 0, .int 2), (.iushr, .null), (.iconst 0, .int 858993459), (.iand, .null), (.iadd, .null), (.istore 0, .null), (.iload 0, .null), (.iload 0, .null), (.iconst 0, .int 4), (.iushr, .null), (.iadd, .null), (.iconst 0, .int 252645135), (.iand, .null), (.istore 0, .null), (.iload 0, .null), (.iload 0, .null), (.iconst 0, .int 8), (.iushr, .null), (.iadd, .null), (.istore 0, .null), (.iload 0, .null), (.iload 0, .null), (.iconst 0, .int 16), (.iushr, .null), (.iadd, .null), (.istore 0, .null), (.iload 0, .null), (.iconst 0, .int 63), (.iand, .null), (.ireturn, .null)], [0, 1, 2, 3, 4, 7, 8, 9, 10, 11, 14, 15, 16, 17, 18, 21, 22, 23, 24, 25, 26, 27, 28, 29, 32, 33, 34, 35, 36, 38, 39, 40, 41, 42, 43, 45, 46, 47, 48, 49, 51, 52])
/-- 228: java/util/Arrays.fill([II)V -/
def mi_228 : mI := (10, yJ7_fill_53178, cJ7_fill_53178, 4, none, 2, true, [(.iconst 0, .int 0), (.istore 2, .null), (.aload 0, .null), (.arraylength, .null), (.istore 3, .null), (.iload 2, .null), (.iload 3, .null), (.if_icmp .ge 14, .null), (.aload 0, .null), (.iload 2, .null), (.iload 1, .null), (.iastore, .null), (.iinc 2 0, .int 1), (.goto 5, .null), (.return_, .null)], [0, 1, 2, 3, 4, 5, 6, 7, 10, 11, 12, 13, 14, 17, 20])
/-- 229: java/util/Arrays.fill([BB)V -/
def mi_229 : mI := (10, yJ7_fill_031fb, cJ7_fill_031fb, 4, none, 2, true, [(.iconst 0, .int 0), (.istore 2, .null), (.aload 0, .null), (.arraylength, .null), (.istore 3, .null), (.iload 2, .null), (.iload 3, .null), (.if_icmp .ge 14, .null), (.aload 0, .null), (.iload 2, .null), (.iload 1, .null), (.bastore, .null), (.iinc 2 0, .int 1), (.goto 5, .null), (.return_, .null)], [0, 1, 2, 3, 4, 5, 6, 7, 10, 11, 12, 13, 14, 17, 20])
/-- 230: AnnCupsLaw.law([I)Z -/
def lwc_0 : List mO := [(.new 6, .null), (.dup, .null), (.invokespecial 49, .null), (.astore 1, .null), (.new 7, .null), (.dup, .null), (.invokespecial 128, .null), (.astore 2, .null), (.iconst 0, .int 0), (.istore 3, .null), (.iload 3, .null), (.aload 0, .null), (.arraylength, .null), (.iconst 0, .int 6), (.isub, .null), (.if_icmp .gt 892, .null), (.aload 0, .null), (.iload 3, .null), (.iaload, .null), (.iconst 0, .int 63), (.iand, .null), (.tableswitch 890 0 44 #[22, 49, 86, 113, 130, 187, 204, 231, 268, 285, 302, 329, 356, 373, 390, 417, 434, 451, 468, 485, 502, 519, 536, 553, 570, 597, 604, 611, 628, 645, 652, 659, 676, 693, 730, 747, 774, 791, 818, 825, 833, 841, 858, 865, 882], .null), (.aload 1, .null), (.aload 0, .null), (.iload 3, .null), (.iconst 0, .int 1), (.iadd, .null), (.iaload, .null), (.aload 0, .null), (.iload 3, .null), (.iconst 0, .int 2), (.iadd, .null), (.iaload, .null), (.invokevirtual 50, .null), (.aload 2, .null), (.aload 0, .null), (.iload 3, .null), (.iconst 0, .int 1), (.iadd, .null), (.iaload, .null), (.aload 0, .null), (.iload 3, .null), (.iconst 0, .int 2), (.iadd, .null), (.iaload, .null), (.invokevirtual 137, .null), (.if_icmp .eq 890, .null), (.iconst 0, .int 0), (.ireturn, .null), (.aload 1, .null)]
def lwp_0 : List Nat := [0, 3, 4, 7, 8, 11, 12, 15, 16, 17, 18, 19, 20, 21, 23, 24, 27, 28, 29, 30, 32, 33, 228, 229, 230, 231, 232, 233, 234, 235, 236, 237, 238, 239, 242, 243, 244, 245, 246, 247, 248, 249, 250, 251, 252, 253, 256, 259, 260, 261]
def lwc_1 : List mO := [(.aload 0, .null), (.iload 3, .null), (.iconst 0, .int 1), (.iadd, .null), (.iaload, .null), (.aload 0, .null), (.iload 3, .null), (.iconst 0, .int 2), (.iadd, .null), (.iaload, .null), (.aload 0, .null), (.iload 3, .null), (.iconst 0, .int 3), (.iadd, .null), (.iaload, .null), (.invokevirtual 51, .null), (.aload 2, .null), (.aload 0, .null), (.iload 3, .null), (.iconst 0, .int 1), (.iadd, .null), (.iaload, .null), (.aload 0, .null), (.iload 3, .null), (.iconst 0, .int 2), (.iadd, .null), (.iaload, .null), (.aload 0, .null), (.iload 3, .null), (.iconst 0, .int 3), (.iadd, .null), (.iaload, .null), (.invokevirtual 138, .null), (.if_icmp .eq 890, .null), (.iconst 0, .int 0), (.ireturn, .null), (.aload 1, .null), (.aload 0, .null), (.iload 3, .null), (.iconst 0, .int 1), (.iadd, .null), (.iaload, .null), (.aload 0, .null), (.iload 3, .null), (.iconst 0, .int 2), (.iadd, .null), (.iaload, .null), (.invokevirtual 52, .null), (.aload 2, .null), (.aload 0, .null)]
def lwp_1 : List Nat := [262, 263, 264, 265, 266, 267, 268, 269, 270, 271, 272, 273, 274, 275, 276, 277, 280, 281, 282, 283, 284, 285, 286, 287, 288, 289, 290, 291, 292, 293, 294, 295, 296, 299, 302, 303, 304, 305, 306, 307, 308, 309, 310, 311, 312, 313, 314, 315, 318, 319]
def lwc_2 : List mO := [(.iload 3, .null), (.iconst 0, .int 1), (.iadd, .null), (.iaload, .null), (.aload 0, .null), (.iload 3, .null), (.iconst 0, .int 2), (.iadd, .null), (.iaload, .null), (.invokevirtual 139, .null), (.if_icmp .eq 890, .null), (.iconst 0, .int 0), (.ireturn, .null), (.aload 1, .null), (.aload 0, .null), (.iload 3, .null), (.iconst 0, .int 1), (.iadd, .null), (.iaload, .null), (.invokevirtual 53, .null), (.aload 2, .null), (.aload 0, .null), (.iload 3, .null), (.iconst 0, .int 1), (.iadd, .null), (.iaload, .null), (.invokevirtual 140, .null), (.if_icmp .eq 890, .null), (.iconst 0, .int 0), (.ireturn, .null), (.aload 1, .null), (.aload 0, .null), (.iload 3, .null), (.iconst 0, .int 1), (.iadd, .null), (.iaload, .null), (.aload 0, .null), (.iload 3, .null), (.iconst 0, .int 2), (.iadd, .null), (.iaload, .null), (.aload 0, .null), (.iload 3, .null), (.iconst 0, .int 3), (.iadd, .null), (.iaload, .null), (.aload 0, .null), (.iload 3, .null), (.iconst 0, .int 4), (.iadd, .null)]
def lwp_2 : List Nat := [320, 321, 322, 323, 324, 325, 326, 327, 328, 329, 332, 335, 336, 337, 338, 339, 340, 341, 342, 343, 346, 347, 348, 349, 350, 351, 352, 355, 358, 359, 360, 361, 362, 363, 364, 365, 366, 367, 368, 369, 370, 371, 372, 373, 374, 375, 376, 377, 378, 379]
def lwc_3 : List mO := [(.iaload, .null), (.aload 0, .null), (.iload 3, .null), (.iconst 0, .int 5), (.iadd, .null), (.iaload, .null), (.invokevirtual 54, .null), (.aload 2, .null), (.aload 0, .null), (.iload 3, .null), (.iconst 0, .int 1), (.iadd, .null), (.iaload, .null), (.aload 0, .null), (.iload 3, .null), (.iconst 0, .int 2), (.iadd, .null), (.iaload, .null), (.aload 0, .null), (.iload 3, .null), (.iconst 0, .int 3), (.iadd, .null), (.iaload, .null), (.aload 0, .null), (.iload 3, .null), (.iconst 0, .int 4), (.iadd, .null), (.iaload, .null), (.aload 0, .null), (.iload 3, .null), (.iconst 0, .int 5), (.iadd, .null), (.iaload, .null), (.invokevirtual 141, .null), (.if_icmp .eq 890, .null), (.iconst 0, .int 0), (.ireturn, .null), (.aload 1, .null), (.aload 0, .null), (.iload 3, .null), (.iconst 0, .int 1), (.iadd, .null), (.iaload, .null), (.invokevirtual 55, .null), (.aload 2, .null), (.aload 0, .null), (.iload 3, .null), (.iconst 0, .int 1), (.iadd, .null), (.iaload, .null)]
def lwp_3 : List Nat := [380, 381, 382, 383, 384, 385, 386, 389, 390, 391, 392, 393, 394, 395, 396, 397, 398, 399, 400, 401, 402, 403, 404, 405, 406, 407, 408, 409, 410, 411, 412, 413, 414, 415, 418, 421, 422, 423, 424, 425, 426, 427, 428, 429, 432, 433, 434, 435, 436, 437]
def lwc_4 : List mO := [(.invokevirtual 142, .null), (.if_icmp .eq 890, .null), (.iconst 0, .int 0), (.ireturn, .null), (.aload 1, .null), (.aload 0, .null), (.iload 3, .null), (.iconst 0, .int 1), (.iadd, .null), (.iaload, .null), (.aload 0, .null), (.iload 3, .null), (.iconst 0, .int 2), (.iadd, .null), (.iaload, .null), (.invokevirtual 56, .null), (.aload 2, .null), (.aload 0, .null), (.iload 3, .null), (.iconst 0, .int 1), (.iadd, .null), (.iaload, .null), (.aload 0, .null), (.iload 3, .null), (.iconst 0, .int 2), (.iadd, .null), (.iaload, .null), (.invokevirtual 143, .null), (.if_icmp .eq 890, .null), (.iconst 0, .int 0), (.ireturn, .null), (.aload 1, .null), (.aload 0, .null), (.iload 3, .null), (.iconst 0, .int 1), (.iadd, .null), (.iaload, .null), (.aload 0, .null), (.iload 3, .null), (.iconst 0, .int 2), (.iadd, .null), (.iaload, .null), (.aload 0, .null), (.iload 3, .null), (.iconst 0, .int 3), (.iadd, .null), (.iaload, .null), (.invokevirtual 57, .null), (.aload 2, .null), (.aload 0, .null)]
def lwp_4 : List Nat := [438, 441, 444, 445, 446, 447, 448, 449, 450, 451, 452, 453, 454, 455, 456, 457, 460, 461, 462, 463, 464, 465, 466, 467, 468, 469, 470, 471, 474, 477, 478, 479, 480, 481, 482, 483, 484, 485, 486, 487, 488, 489, 490, 491, 492, 493, 494, 495, 498, 499]
def lwc_5 : List mO := [(.iload 3, .null), (.iconst 0, .int 1), (.iadd, .null), (.iaload, .null), (.aload 0, .null), (.iload 3, .null), (.iconst 0, .int 2), (.iadd, .null), (.iaload, .null), (.aload 0, .null), (.iload 3, .null), (.iconst 0, .int 3), (.iadd, .null), (.iaload, .null), (.invokevirtual 144, .null), (.if_icmp .eq 890, .null), (.iconst 0, .int 0), (.ireturn, .null), (.aload 1, .null), (.aload 0, .null), (.iload 3, .null), (.iconst 0, .int 1), (.iadd, .null), (.iaload, .null), (.invokevirtual 58, .null), (.aload 2, .null), (.aload 0, .null), (.iload 3, .null), (.iconst 0, .int 1), (.iadd, .null), (.iaload, .null), (.invokevirtual 152, .null), (.if_icmp .eq 890, .null), (.iconst 0, .int 0), (.ireturn, .null), (.aload 1, .null), (.aload 0, .null), (.iload 3, .null), (.iconst 0, .int 1), (.iadd, .null), (.iaload, .null), (.invokevirtual 59, .null), (.aload 2, .null), (.aload 0, .null), (.iload 3, .null), (.iconst 0, .int 1), (.iadd, .null), (.iaload, .null), (.invokevirtual 154, .null), (.if_icmp .eq 890, .null)]
def lwp_5 : List Nat := [500, 501, 502, 503, 504, 505, 506, 507, 508, 509, 510, 511, 512, 513, 514, 517, 520, 521, 522, 523, 524, 525, 526, 527, 528, 531, 532, 533, 534, 535, 536, 537, 540, 543, 544, 545, 546, 547, 548, 549, 550, 551, 554, 555, 556, 557, 558, 559, 560, 563]
def lwc_6 : List mO := [(.iconst 0, .int 0), (.ireturn, .null), (.aload 1, .null), (.aload 0, .null), (.iload 3, .null), (.iconst 0, .int 1), (.iadd, .null), (.iaload, .null), (.aload 0, .null), (.iload 3, .null), (.iconst 0, .int 2), (.iadd, .null), (.iaload, .null), (.invokevirtual 60, .null), (.aload 2, .null), (.aload 0, .null), (.iload 3, .null), (.iconst 0, .int 1), (.iadd, .null), (.iaload, .null), (.aload 0, .null), (.iload 3, .null), (.iconst 0, .int 2), (.iadd, .null), (.iaload, .null), (.invokevirtual 168, .null), (.if_icmp .eq 890, .null), (.iconst 0, .int 0), (.ireturn, .null), (.aload 1, .null), (.aload 0, .null), (.iload 3, .null), (.iconst 0, .int 1), (.iadd, .null), (.iaload, .null), (.aload 0, .null), (.iload 3, .null), (.iconst 0, .int 2), (.iadd, .null), (.iaload, .null), (.invokevirtual 61, .null), (.aload 2, .null), (.aload 0, .null), (.iload 3, .null), (.iconst 0, .int 1), (.iadd, .null), (.iaload, .null), (.aload 0, .null), (.iload 3, .null), (.iconst 0, .int 2)]
def lwp_6 : List Nat := [566, 567, 568, 569, 570, 571, 572, 573, 574, 575, 576, 577, 578, 579, 582, 583, 584, 585, 586, 587, 588, 589, 590, 591, 592, 593, 596, 599, 600, 601, 602, 603, 604, 605, 606, 607, 608, 609, 610, 611, 612, 615, 616, 617, 618, 619, 620, 621, 622, 623]
def lwc_7 : List mO := [(.iadd, .null), (.iaload, .null), (.invokevirtual 172, .null), (.if_icmp .eq 890, .null), (.iconst 0, .int 0), (.ireturn, .null), (.aload 1, .null), (.aload 0, .null), (.iload 3, .null), (.iconst 0, .int 1), (.iadd, .null), (.iaload, .null), (.invokevirtual 62, .null), (.aload 2, .null), (.aload 0, .null), (.iload 3, .null), (.iconst 0, .int 1), (.iadd, .null), (.iaload, .null), (.invokevirtual 173, .null), (.if_icmp .eq 890, .null), (.iconst 0, .int 0), (.ireturn, .null), (.aload 1, .null), (.aload 0, .null), (.iload 3, .null), (.iconst 0, .int 1), (.iadd, .null), (.iaload, .null), (.invokevirtual 63, .null), (.aload 2, .null), (.aload 0, .null), (.iload 3, .null), (.iconst 0, .int 1), (.iadd, .null), (.iaload, .null), (.invokevirtual 176, .null), (.if_icmp .eq 890, .null), (.iconst 0, .int 0), (.ireturn, .null), (.aload 1, .null), (.aload 0, .null), (.iload 3, .null), (.iconst 0, .int 1), (.iadd, .null), (.iaload, .null), (.aload 0, .null), (.iload 3, .null), (.iconst 0, .int 2), (.iadd, .null)]
def lwp_7 : List Nat := [624, 625, 626, 629, 632, 633, 634, 635, 636, 637, 638, 639, 640, 643, 644, 645, 646, 647, 648, 649, 652, 655, 656, 657, 658, 659, 660, 661, 662, 663, 666, 667, 668, 669, 670, 671, 672, 675, 678, 679, 680, 681, 682, 683, 684, 685, 686, 687, 688, 689]
def lwc_8 : List mO := [(.iaload, .null), (.invokevirtual 64, .null), (.aload 2, .null), (.aload 0, .null), (.iload 3, .null), (.iconst 0, .int 1), (.iadd, .null), (.iaload, .null), (.aload 0, .null), (.iload 3, .null), (.iconst 0, .int 2), (.iadd, .null), (.iaload, .null), (.invokevirtual 178, .null), (.if_icmp .eq 890, .null), (.iconst 0, .int 0), (.ireturn, .null), (.aload 1, .null), (.aload 0, .null), (.iload 3, .null), (.iconst 0, .int 1), (.iadd, .null), (.iaload, .null), (.invokevirtual 65, .null), (.aload 2, .null), (.aload 0, .null), (.iload 3, .null), (.iconst 0, .int 1), (.iadd, .null), (.iaload, .null), (.invokevirtual 179, .null), (.if_icmp .eq 890, .null), (.iconst 0, .int 0), (.ireturn, .null), (.aload 1, .null), (.aload 0, .null), (.iload 3, .null), (.iconst 0, .int 1), (.iadd, .null), (.iaload, .null), (.invokevirtual 66, .null), (.aload 2, .null), (.aload 0, .null), (.iload 3, .null), (.iconst 0, .int 1), (.iadd, .null), (.iaload, .null), (.invokevirtual 180, .null), (.if_icmp .eq 890, .null), (.iconst 0, .int 0)]
def lwp_8 : List Nat := [690, 691, 694, 695, 696, 697, 698, 699, 700, 701, 702, 703, 704, 705, 708, 711, 712, 713, 714, 715, 716, 717, 718, 719, 722, 723, 724, 725, 726, 727, 728, 731, 734, 735, 736, 737, 738, 739, 740, 741, 742, 745, 746, 747, 748, 749, 750, 751, 754, 757]
def lwc_9 : List mO := [(.ireturn, .null), (.aload 1, .null), (.aload 0, .null), (.iload 3, .null), (.iconst 0, .int 1), (.iadd, .null), (.iaload, .null), (.invokevirtual 67, .null), (.aload 2, .null), (.aload 0, .null), (.iload 3, .null), (.iconst 0, .int 1), (.iadd, .null), (.iaload, .null), (.invokevirtual 181, .null), (.if_icmp .eq 890, .null), (.iconst 0, .int 0), (.ireturn, .null), (.aload 1, .null), (.aload 0, .null), (.iload 3, .null), (.iconst 0, .int 1), (.iadd, .null), (.iaload, .null), (.invokevirtual 68, .null), (.aload 2, .null), (.aload 0, .null), (.iload 3, .null), (.iconst 0, .int 1), (.iadd, .null), (.iaload, .null), (.invokevirtual 182, .null), (.if_icmp .eq 890, .null), (.iconst 0, .int 0), (.ireturn, .null), (.aload 1, .null), (.aload 0, .null), (.iload 3, .null), (.iconst 0, .int 1), (.iadd, .null), (.iaload, .null), (.invokevirtual 69, .null), (.aload 2, .null), (.aload 0, .null), (.iload 3, .null), (.iconst 0, .int 1), (.iadd, .null), (.iaload, .null), (.invokevirtual 189, .null), (.if_icmp .eq 890, .null)]
def lwp_9 : List Nat := [758, 759, 760, 761, 762, 763, 764, 765, 768, 769, 770, 771, 772, 773, 774, 777, 780, 781, 782, 783, 784, 785, 786, 787, 788, 791, 792, 793, 794, 795, 796, 797, 800, 803, 804, 805, 806, 807, 808, 809, 810, 811, 814, 815, 816, 817, 818, 819, 820, 823]
def lwc_10 : List mO := [(.iconst 0, .int 0), (.ireturn, .null), (.aload 1, .null), (.aload 0, .null), (.iload 3, .null), (.iconst 0, .int 1), (.iadd, .null), (.iaload, .null), (.invokevirtual 70, .null), (.aload 2, .null), (.aload 0, .null), (.iload 3, .null), (.iconst 0, .int 1), (.iadd, .null), (.iaload, .null), (.invokevirtual 190, .null), (.if_icmp .eq 890, .null), (.iconst 0, .int 0), (.ireturn, .null), (.aload 1, .null), (.aload 0, .null), (.iload 3, .null), (.iconst 0, .int 1), (.iadd, .null), (.iaload, .null), (.invokevirtual 71, .null), (.aload 2, .null), (.aload 0, .null), (.iload 3, .null), (.iconst 0, .int 1), (.iadd, .null), (.iaload, .null), (.invokevirtual 191, .null), (.if_icmp .eq 890, .null), (.iconst 0, .int 0), (.ireturn, .null), (.aload 1, .null), (.aload 0, .null), (.iload 3, .null), (.iconst 0, .int 1), (.iadd, .null), (.iaload, .null), (.invokevirtual 72, .null), (.aload 2, .null), (.aload 0, .null), (.iload 3, .null), (.iconst 0, .int 1), (.iadd, .null), (.iaload, .null), (.invokevirtual 193, .null)]
def lwp_10 : List Nat := [826, 827, 828, 829, 830, 831, 832, 833, 834, 837, 838, 839, 840, 841, 842, 843, 846, 849, 850, 851, 852, 853, 854, 855, 856, 857, 860, 861, 862, 863, 864, 865, 866, 869, 872, 873, 874, 875, 876, 877, 878, 879, 880, 883, 884, 885, 886, 887, 888, 889]
def lwc_11 : List mO := [(.if_icmp .eq 890, .null), (.iconst 0, .int 0), (.ireturn, .null), (.aload 1, .null), (.aload 0, .null), (.iload 3, .null), (.iconst 0, .int 1), (.iadd, .null), (.iaload, .null), (.invokevirtual 73, .null), (.aload 2, .null), (.aload 0, .null), (.iload 3, .null), (.iconst 0, .int 1), (.iadd, .null), (.iaload, .null), (.invokevirtual 194, .null), (.if_icmp .eq 890, .null), (.iconst 0, .int 0), (.ireturn, .null), (.aload 1, .null), (.aload 0, .null), (.iload 3, .null), (.iconst 0, .int 1), (.iadd, .null), (.iaload, .null), (.aload 0, .null), (.iload 3, .null), (.iconst 0, .int 2), (.iadd, .null), (.iaload, .null), (.invokevirtual 74, .null), (.aload 2, .null), (.aload 0, .null), (.iload 3, .null), (.iconst 0, .int 1), (.iadd, .null), (.iaload, .null), (.aload 0, .null), (.iload 3, .null), (.iconst 0, .int 2), (.iadd, .null), (.iaload, .null), (.invokevirtual 195, .null), (.if_icmp .eq 890, .null), (.iconst 0, .int 0), (.ireturn, .null), (.aload 1, .null), (.invokevirtual 75, .null), (.aload 2, .null)]
def lwp_11 : List Nat := [892, 895, 896, 897, 898, 899, 900, 901, 902, 903, 906, 907, 908, 909, 910, 911, 912, 915, 918, 919, 920, 921, 922, 923, 924, 925, 926, 927, 928, 929, 930, 931, 934, 935, 936, 937, 938, 939, 940, 941, 942, 943, 944, 945, 948, 951, 952, 953, 954, 957]
def lwc_12 : List mO := [(.invokevirtual 196, .null), (.if_icmp .eq 890, .null), (.iconst 0, .int 0), (.ireturn, .null), (.aload 1, .null), (.invokevirtual 76, .null), (.aload 2, .null), (.invokevirtual 197, .null), (.if_icmp .eq 890, .null), (.iconst 0, .int 0), (.ireturn, .null), (.aload 1, .null), (.aload 0, .null), (.iload 3, .null), (.iconst 0, .int 1), (.iadd, .null), (.iaload, .null), (.invokevirtual 77, .null), (.aload 2, .null), (.aload 0, .null), (.iload 3, .null), (.iconst 0, .int 1), (.iadd, .null), (.iaload, .null), (.invokevirtual 198, .null), (.if_icmp .eq 890, .null), (.iconst 0, .int 0), (.ireturn, .null), (.aload 1, .null), (.aload 0, .null), (.iload 3, .null), (.iconst 0, .int 1), (.iadd, .null), (.iaload, .null), (.invokevirtual 78, .null), (.aload 2, .null), (.aload 0, .null), (.iload 3, .null), (.iconst 0, .int 1), (.iadd, .null), (.iaload, .null), (.invokevirtual 199, .null), (.if_icmp .eq 890, .null), (.iconst 0, .int 0), (.ireturn, .null), (.aload 1, .null), (.invokevirtual 79, .null), (.aload 2, .null), (.invokevirtual 200, .null), (.if_icmp .eq 890, .null)]
def lwp_12 : List Nat := [958, 961, 964, 965, 966, 967, 970, 971, 974, 977, 978, 979, 980, 981, 982, 983, 984, 985, 988, 989, 990, 991, 992, 993, 994, 997, 1000, 1001, 1002, 1003, 1004, 1005, 1006, 1007, 1008, 1011, 1012, 1013, 1014, 1015, 1016, 1017, 1020, 1023, 1024, 1025, 1026, 1029, 1030, 1033]
def lwc_13 : List mO := [(.iconst 0, .int 0), (.ireturn, .null), (.aload 1, .null), (.invokevirtual 80, .null), (.aload 2, .null), (.invokevirtual 201, .null), (.if_icmp .eq 890, .null), (.iconst 0, .int 0), (.ireturn, .null), (.aload 1, .null), (.aload 0, .null), (.iload 3, .null), (.iconst 0, .int 1), (.iadd, .null), (.iaload, .null), (.invokevirtual 81, .null), (.aload 2, .null), (.aload 0, .null), (.iload 3, .null), (.iconst 0, .int 1), (.iadd, .null), (.iaload, .null), (.invokevirtual 202, .null), (.if_icmp .eq 890, .null), (.iconst 0, .int 0), (.ireturn, .null), (.aload 1, .null), (.aload 0, .null), (.iload 3, .null), (.iconst 0, .int 1), (.iadd, .null), (.iaload, .null), (.invokevirtual 82, .null), (.aload 2, .null), (.aload 0, .null), (.iload 3, .null), (.iconst 0, .int 1), (.iadd, .null), (.iaload, .null), (.invokevirtual 204, .null), (.if_icmp .eq 890, .null), (.iconst 0, .int 0), (.ireturn, .null), (.aload 1, .null), (.aload 0, .null), (.iload 3, .null), (.iconst 0, .int 1), (.iadd, .null), (.iaload, .null), (.aload 0, .null)]
def lwp_13 : List Nat := [1036, 1037, 1038, 1039, 1042, 1043, 1046, 1049, 1050, 1051, 1052, 1053, 1054, 1055, 1056, 1057, 1060, 1061, 1062, 1063, 1064, 1065, 1066, 1069, 1072, 1073, 1074, 1075, 1076, 1077, 1078, 1079, 1080, 1083, 1084, 1085, 1086, 1087, 1088, 1089, 1092, 1095, 1096, 1097, 1098, 1099, 1100, 1101, 1102, 1103]
def lwc_14 : List mO := [(.iload 3, .null), (.iconst 0, .int 2), (.iadd, .null), (.iaload, .null), (.aload 0, .null), (.iload 3, .null), (.iconst 0, .int 3), (.iadd, .null), (.iaload, .null), (.invokevirtual 83, .null), (.aload 2, .null), (.aload 0, .null), (.iload 3, .null), (.iconst 0, .int 1), (.iadd, .null), (.iaload, .null), (.aload 0, .null), (.iload 3, .null), (.iconst 0, .int 2), (.iadd, .null), (.iaload, .null), (.aload 0, .null), (.iload 3, .null), (.iconst 0, .int 3), (.iadd, .null), (.iaload, .null), (.invokevirtual 205, .null), (.if_icmp .eq 890, .null), (.iconst 0, .int 0), (.ireturn, .null), (.aload 1, .null), (.aload 0, .null), (.iload 3, .null), (.iconst 0, .int 1), (.iadd, .null), (.iaload, .null), (.invokevirtual 84, .null), (.aload 2, .null), (.aload 0, .null), (.iload 3, .null), (.iconst 0, .int 1), (.iadd, .null), (.iaload, .null), (.invokevirtual 210, .null), (.if_icmp .eq 890, .null), (.iconst 0, .int 0), (.ireturn, .null), (.aload 1, .null), (.aload 0, .null), (.iload 3, .null)]
def lwp_14 : List Nat := [1104, 1105, 1106, 1107, 1108, 1109, 1110, 1111, 1112, 1113, 1116, 1117, 1118, 1119, 1120, 1121, 1122, 1123, 1124, 1125, 1126, 1127, 1128, 1129, 1130, 1131, 1132, 1135, 1138, 1139, 1140, 1141, 1142, 1143, 1144, 1145, 1146, 1149, 1150, 1151, 1152, 1153, 1154, 1155, 1158, 1161, 1162, 1163, 1164, 1165]
def lwc_15 : List mO := [(.iconst 0, .int 1), (.iadd, .null), (.iaload, .null), (.aload 0, .null), (.iload 3, .null), (.iconst 0, .int 2), (.iadd, .null), (.iaload, .null), (.invokevirtual 85, .null), (.aload 2, .null), (.aload 0, .null), (.iload 3, .null), (.iconst 0, .int 1), (.iadd, .null), (.iaload, .null), (.aload 0, .null), (.iload 3, .null), (.iconst 0, .int 2), (.iadd, .null), (.iaload, .null), (.invokevirtual 214, .null), (.if_icmp .eq 890, .null), (.iconst 0, .int 0), (.ireturn, .null), (.aload 1, .null), (.aload 0, .null), (.iload 3, .null), (.iconst 0, .int 1), (.iadd, .null), (.iaload, .null), (.invokevirtual 86, .null), (.aload 2, .null), (.aload 0, .null), (.iload 3, .null), (.iconst 0, .int 1), (.iadd, .null), (.iaload, .null), (.invokevirtual 215, .null), (.if_icmp .eq 890, .null), (.iconst 0, .int 0), (.ireturn, .null), (.aload 1, .null), (.aload 0, .null), (.iload 3, .null), (.iconst 0, .int 1), (.iadd, .null), (.iaload, .null), (.aload 0, .null), (.iload 3, .null), (.iconst 0, .int 2)]
def lwp_15 : List Nat := [1166, 1167, 1168, 1169, 1170, 1171, 1172, 1173, 1174, 1177, 1178, 1179, 1180, 1181, 1182, 1183, 1184, 1185, 1186, 1187, 1188, 1191, 1194, 1195, 1196, 1197, 1198, 1199, 1200, 1201, 1202, 1205, 1206, 1207, 1208, 1209, 1210, 1211, 1214, 1217, 1218, 1219, 1220, 1221, 1222, 1223, 1224, 1225, 1226, 1227]
def lwc_16 : List mO := [(.iadd, .null), (.iaload, .null), (.invokevirtual 87, .null), (.aload 2, .null), (.aload 0, .null), (.iload 3, .null), (.iconst 0, .int 1), (.iadd, .null), (.iaload, .null), (.aload 0, .null), (.iload 3, .null), (.iconst 0, .int 2), (.iadd, .null), (.iaload, .null), (.invokevirtual 217, .null), (.if_icmp .eq 890, .null), (.iconst 0, .int 0), (.ireturn, .null), (.aload 1, .null), (.invokevirtual 88, .null), (.aload 2, .null), (.invokevirtual 218, .null), (.if_icmp .eq 890, .null), (.iconst 0, .int 0), (.ireturn, .null), (.aload 1, .null), (.invokevirtual 89, .null), (.aload 2, .null), (.invokevirtual 219, .null), (.lcmp, .null), (.ifCond .eq 890, .null), (.iconst 0, .int 0), (.ireturn, .null), (.aload 1, .null), (.invokevirtual 90, .null), (.aload 2, .null), (.invokevirtual 220, .null), (.lcmp, .null), (.ifCond .eq 890, .null), (.iconst 0, .int 0), (.ireturn, .null), (.aload 1, .null), (.aload 0, .null), (.iload 3, .null), (.iconst 0, .int 1), (.iadd, .null), (.iaload, .null), (.invokevirtual 91, .null), (.aload 2, .null), (.aload 0, .null)]
def lwp_16 : List Nat := [1228, 1229, 1230, 1233, 1234, 1235, 1236, 1237, 1238, 1239, 1240, 1241, 1242, 1243, 1244, 1247, 1250, 1251, 1252, 1253, 1256, 1257, 1260, 1263, 1264, 1265, 1266, 1269, 1270, 1273, 1274, 1277, 1278, 1279, 1280, 1283, 1284, 1287, 1288, 1291, 1292, 1293, 1294, 1295, 1296, 1297, 1298, 1299, 1302, 1303]
def lwc_17 : List mO := [(.iload 3, .null), (.iconst 0, .int 1), (.iadd, .null), (.iaload, .null), (.invokevirtual 223, .null), (.if_icmp .eq 890, .null), (.iconst 0, .int 0), (.ireturn, .null), (.aload 1, .null), (.invokevirtual 92, .null), (.aload 2, .null), (.invokevirtual 224, .null), (.if_icmp .eq 890, .null), (.iconst 0, .int 0), (.ireturn, .null), (.aload 1, .null), (.aload 0, .null), (.iload 3, .null), (.iconst 0, .int 1), (.iadd, .null), (.iaload, .null), (.invokevirtual 93, .null), (.aload 2, .null), (.aload 0, .null), (.iload 3, .null), (.iconst 0, .int 1), (.iadd, .null), (.iaload, .null), (.invokevirtual 225, .null), (.if_icmp .eq 890, .null), (.iconst 0, .int 0), (.ireturn, .null), (.aload 1, .null), (.invokevirtual 94, .null), (.aload 2, .null), (.invokevirtual 226, .null), (.lcmp, .null), (.ifCond .eq 890, .null), (.iconst 0, .int 0), (.ireturn, .null), (.iinc 3 0, .int 6), (.goto 10, .null), (.iconst 0, .int 1), (.ireturn, .null)]
def lwp_17 : List Nat := [1304, 1305, 1306, 1307, 1308, 1311, 1314, 1315, 1316, 1317, 1320, 1321, 1324, 1327, 1328, 1329, 1330, 1331, 1332, 1333, 1334, 1335, 1338, 1339, 1340, 1341, 1342, 1343, 1344, 1347, 1350, 1351, 1352, 1353, 1356, 1357, 1360, 1361, 1364, 1365, 1366, 1369, 1372, 1373]
def mi_230 : mI := (11, yL_law, cL_law, 4, (some .boolean), 1, true, lwc_0 ++ (lwc_1 ++ (lwc_2 ++ (lwc_3 ++ (lwc_4 ++ (lwc_5 ++ (lwc_6 ++ (lwc_7 ++ (lwc_8 ++ (lwc_9 ++ (lwc_10 ++ (lwc_11 ++ (lwc_12 ++ (lwc_13 ++ (lwc_14 ++ (lwc_15 ++ (lwc_16 ++ (lwc_17))))))))))))))))), lwp_0 ++ (lwp_1 ++ (lwp_2 ++ (lwp_3 ++ (lwp_4 ++ (lwp_5 ++ (lwp_6 ++ (lwp_7 ++ (lwp_8 ++ (lwp_9 ++ (lwp_10 ++ (lwp_11 ++ (lwp_12 ++ (lwp_13 ++ (lwp_14 ++ (lwp_15 ++ (lwp_16 ++ (lwp_17))))))))))))))))))
def mg_0 : List mI := [mi_0, mi_1, mi_2, mi_3, mi_4, mi_5, mi_6, mi_7, mi_8, mi_9, mi_10, mi_11, mi_12, mi_13, mi_14, mi_15]
def mg_1 : List mI := [mi_16, mi_17, mi_18, mi_19, mi_20, mi_21, mi_22, mi_23, mi_24, mi_25, mi_26, mi_27, mi_28, mi_29, mi_30, mi_31]
def mg_2 : List mI := [mi_32, mi_33, mi_34, mi_35, mi_36, mi_37, mi_38, mi_39, mi_40, mi_41, mi_42, mi_43, mi_44, mi_45, mi_46, mi_47]
def mg_3 : List mI := [mi_48, mi_49, mi_50, mi_51, mi_52, mi_53, mi_54, mi_55, mi_56, mi_57, mi_58, mi_59, mi_60, mi_61, mi_62, mi_63]
def mg_4 : List mI := [mi_64, mi_65, mi_66, mi_67, mi_68, mi_69, mi_70, mi_71, mi_72, mi_73, mi_74, mi_75, mi_76, mi_77, mi_78, mi_79]
def mg_5 : List mI := [mi_80, mi_81, mi_82, mi_83, mi_84, mi_85, mi_86, mi_87, mi_88, mi_89, mi_90, mi_91, mi_92, mi_93, mi_94, mi_95]
def mg_6 : List mI := [mi_96, mi_97, mi_98, mi_99, mi_100, mi_101, mi_102, mi_103, mi_104, mi_105, mi_106, mi_107, mi_108, mi_109, mi_110, mi_111]
def mg_7 : List mI := [mi_112, mi_113, mi_114, mi_115, mi_116, mi_117, mi_118, mi_119, mi_120, mi_121, mi_122, mi_123, mi_124, mi_125, mi_126, mi_127]
def mg_8 : List mI := [mi_128, mi_129, mi_130, mi_131, mi_132, mi_133, mi_134, mi_135, mi_136, mi_137, mi_138, mi_139, mi_140, mi_141, mi_142, mi_143]
def mg_9 : List mI := [mi_144, mi_145, mi_146, mi_147, mi_148, mi_149, mi_150, mi_151, mi_152, mi_153, mi_154, mi_155, mi_156, mi_157, mi_158, mi_159]
def mg_10 : List mI := [mi_160, mi_161, mi_162, mi_163, mi_164, mi_165, mi_166, mi_167, mi_168, mi_169, mi_170, mi_171, mi_172, mi_173, mi_174, mi_175]
def mg_11 : List mI := [mi_176, mi_177, mi_178, mi_179, mi_180, mi_181, mi_182, mi_183, mi_184, mi_185, mi_186, mi_187, mi_188, mi_189, mi_190, mi_191]
def mg_12 : List mI := [mi_192, mi_193, mi_194, mi_195, mi_196, mi_197, mi_198, mi_199, mi_200, mi_201, mi_202, mi_203, mi_204, mi_205, mi_206, mi_207]
def mg_13 : List mI := [mi_208, mi_209, mi_210, mi_211, mi_212, mi_213, mi_214, mi_215, mi_216, mi_217, mi_218, mi_219, mi_220, mi_221, mi_222, mi_223]
def mg_14 : List mI := [mi_224, mi_225, mi_226, mi_227, mi_228, mi_229, mi_230]
def mTab : List (List mI) := [mg_0, mg_1, mg_2, mg_3, mg_4, mg_5, mg_6, mg_7, mg_8, mg_9, mg_10, mg_11, mg_12, mg_13, mg_14]
def mG (k : Nat) : Option mI := match nth mTab (k / 16) with
  | some r => nth r (k % 16)
  | none => none
end
section
/-! A small machine over numbered cells: a reference is a kind and a number; ints, longs, references lie in three tables. -/
abbrev mM : Type := List (Nat × Nat) × (Nat → Nat → Nat → Option (Nat × Nat)) × (Nat → Nat → Nat → Int32) × (Nat → Nat → Nat → Int64)
abbrev vI (x : Int32) : mV := .inl x
abbrev vL (x : Int64) : mV := .inr (.inl x)
abbrev vR (k i : Nat) : mV := .inr (.inr (some (k, i)))
abbrev vN : mV := .inr (.inr none)
def mKs : List (Nat ⊕ (FieldType × Nat)) := [.inl 0, .inl 1, .inl 2, .inl 3, .inl 4, .inl 5, .inl 6, .inl 7, .inr (.int, 6), .inr (.int, 6), .inr (.int, 6), .inr (.int, 6), .inr (.int, 6), .inr (.int, 6), .inr (.int, 6), .inr (.int, 6), .inr (.int, 6), .inr (.int, 6), .inr (.int, 40), .inr (.int, 40), .inr (.int, 40), .inr (.int, 40), .inr (.int, 6), .inr (.int, 6), .inr (.byte, 60), .inr ((.object "AnnCups$Row"), 6), .inr ((.object "AnnCups$Text"), 4), .inr ((.object "AnnCups$Deeds"), 3), .inr (.int, 6), .inr (.int, 6), .inr (.int, 240), .inr (.int, 4), .inr (.int, 240), .inr (.int, 6), .inr (.int, 6), .inr (.int, 6), .inr (.int, 6), .inr (.int, 6), .inr (.int, 9), .inr (.int, 9), .inr (.int, 360), .inr (.int, 1110), .inr (.boolean, 3), .inr (.int, 6), .inr (.int, 30), .inr (.int, 6), .inr (.int, 6), .inr (.int, 63), .inr (.int, 7), .inr (.int, 45), .inr (.int, 5), .inr (.int, 5)]
def mTy (ci j : Nat) : FieldType := match ci with
  | 0 => tyX0 j
  | 1 => tyX1 j
  | 2 => tyX2 j
  | 3 => tyX3 j
  | 4 => tyX4 j
  | 5 => tyX5 j
  | 6 => tyX6 j
  | _ => tyX7 j
def mNf (ci : Nat) : Nat := match ci with
  | 0 => 7
  | 1 => 11
  | 2 => 4
  | 3 => 2
  | 4 => 8
  | 5 => 2
  | 6 => 14
  | 7 => 35
  | _ => 0
def mEl (k : Nat) : Nat := match k with
  | 25 => 3
  | 26 => 5
  | 27 => 2
  | _ => 99
def up3 {α : Type} (f : Nat → Nat → Nat → α) (k i j : Nat) (v : α) : Nat → Nat → Nat → α := fun k' i' j' => if k' = k ∧ i' = i ∧ j' = j then v else f k' i' j'
def up2 {α : Type} (f : Nat → Nat → Nat → α) (k i : Nat) (g : Nat → α) : Nat → Nat → Nat → α := fun k' i' j' => if k' = k ∧ i' = i then g j' else f k' i' j'
def mCnt : List (Nat × Nat) → Nat → Nat
  | [], _ => 0
  | r :: l, k => if r.1 = k then mCnt l k + 1 else mCnt l k
def mHas : List (Nat × Nat) → Nat → Nat → Bool
  | [], _, _ => false
  | r :: l, k, i => if r.1 = k ∧ r.2 = i then true else mHas l k i
def lett (j : Nat) : Int32 := match j with
  | 0 => 99
  | 1 => 106
  | 2 => 116
  | 3 => 103
  | 4 => 102
  | _ => 100
def lkill (ls : List (Option mV)) (n : Nat) : List (Option mV) := match n with
  | 0 => ls
  | k + 1 => match nth ls k with
    | some (some (.inr (.inl _))) => ls.set k none
    | _ => ls
def lst1 (ls : List (Option mV)) (n : Nat) (v : mV) : List (Option mV) := (lkill ls n).set n (some v)
def lst2 (ls : List (Option mV)) (n : Nat) (v : mV) : List (Option mV) := ((lkill ls n).set n (some v)).set (n + 1) none
/-- a value's width -/
def mCat : mV → Nat
  | .inr (.inl _) => 2
  | _ => 1
def mCats : List mV → Nat
  | [] => 0
  | v :: l => mCat v + mCats l
abbrev mS : Type := Nat × List (Option mV) × List mV × mM
/-- one instruction that is no call and no return; L, xs: the law's script (kind 100); kind 101: the letters -/
def mstep (L : Nat) (xs : Nat → Int32) (i : Instr) (v : Value) (ip : Nat) (ls : List (Option mV)) (st : List mV) (M : mM) : Option mS :=
  match i with
  | .iload n => match nth ls n with
    | some (some (.inl x)) => some (ip + 1, ls, .inl x :: st, M)
    | _ => none
  | .lload n => match nth ls n with
    | some (some (.inr (.inl x))) => some (ip + 1, ls, .inr (.inl x) :: st, M)
    | _ => none
  | .aload n => match nth ls n with
    | some (some (.inr (.inr r))) => some (ip + 1, ls, .inr (.inr r) :: st, M)
    | _ => none
  | .istore n => match st with
    | .inl x :: st => some (ip + 1, lst1 ls n (.inl x), st, M)
    | _ => none
  | .astore n => match st with
    | .inr (.inr r) :: st => some (ip + 1, lst1 ls n (.inr (.inr r)), st, M)
    | _ => none
  | .lstore n => match st with
    | .inr (.inl x) :: st => some (ip + 1, lst2 ls n (.inr (.inl x)), st, M)
    | _ => none
  | .iconst _ => match v with
    | .int x => some (ip + 1, ls, .inl x :: st, M)
    | _ => none
  | .lconst _ => match v with
    | .long x => some (ip + 1, ls, .inr (.inl x) :: st, M)
    | _ => none
  | .aconst_null => some (ip + 1, ls, .inr (.inr none) :: st, M)
  | .iinc n _ => match v, nth ls n with
    | .int y, some (some (.inl x)) => some (ip + 1, lst1 ls n (.inl (x + y)), st, M)
    | _, _ => none
  | .iadd => match st with
    | .inl y :: .inl x :: st => some (ip + 1, ls, .inl (x + y) :: st, M)
    | _ => none
  | .isub => match st with
    | .inl y :: .inl x :: st => some (ip + 1, ls, .inl (x - y) :: st, M)
    | _ => none
  | .imul => match st with
    | .inl y :: .inl x :: st => some (ip + 1, ls, .inl (x * y) :: st, M)
    | _ => none
  | .iand => match st with
    | .inl y :: .inl x :: st => some (ip + 1, ls, .inl (x &&& y) :: st, M)
    | _ => none
  | .ior => match st with
    | .inl y :: .inl x :: st => some (ip + 1, ls, .inl (x ||| y) :: st, M)
    | _ => none
  | .ixor => match st with
    | .inl y :: .inl x :: st => some (ip + 1, ls, .inl (x ^^^ y) :: st, M)
    | _ => none
  | .ishl => match st with
    | .inl y :: .inl x :: st => some (ip + 1, ls, .inl (x <<< (y &&& 31)) :: st, M)
    | _ => none
  | .ishr => match st with
    | .inl y :: .inl x :: st => some (ip + 1, ls, .inl (x >>> (y &&& 31)) :: st, M)
    | _ => none
  | .iushr => match st with
    | .inl y :: .inl x :: st => some (ip + 1, ls, .inl (x.toUInt32 >>> (y.toUInt32 &&& Int32.toUInt32 31)).toInt32 :: st, M)
    | _ => none
  | .idiv => match st with
    | .inl y :: .inl x :: st => if y = 0 then none else some (ip + 1, ls, .inl (x / y) :: st, M)
    | _ => none
  | .irem => match st with
    | .inl y :: .inl x :: st => if y = 0 then none else some (ip + 1, ls, .inl (x - x / y * y) :: st, M)
    | _ => none
  | .ineg => match st with
    | .inl x :: st => some (ip + 1, ls, .inl (-x) :: st, M)
    | _ => none
  | .ladd => match st with
    | .inr (.inl y) :: .inr (.inl x) :: st => some (ip + 1, ls, .inr (.inl (x + y)) :: st, M)
    | _ => none
  | .lmul => match st with
    | .inr (.inl y) :: .inr (.inl x) :: st => some (ip + 1, ls, .inr (.inl (x * y)) :: st, M)
    | _ => none
  | .ldiv => match st with
    | .inr (.inl y) :: .inr (.inl x) :: st => if y = 0 then none else some (ip + 1, ls, .inr (.inl (x / y)) :: st, M)
    | _ => none
  | .lrem => match st with
    | .inr (.inl y) :: .inr (.inl x) :: st => if y = 0 then none else some (ip + 1, ls, .inr (.inl (x - x / y * y)) :: st, M)
    | _ => none
  | .lcmp => match st with
    | .inr (.inl y) :: .inr (.inl x) :: st => some (ip + 1, ls, .inl (lg_cmp x y) :: st, M)
    | _ => none
  | .i2l => match st with
    | .inl x :: st => some (ip + 1, ls, .inr (.inl x.toInt64) :: st, M)
    | _ => none
  | .l2i => match st with
    | .inr (.inl x) :: st => some (ip + 1, ls, .inl x.toInt32 :: st, M)
    | _ => none
  | .i2b => match st with
    | .inl x :: st => some (ip + 1, ls, .inl x.toInt8.toInt32 :: st, M)
    | _ => none
  | .dup => match st with
    | .inl x :: st => some (ip + 1, ls, .inl x :: .inl x :: st, M)
    | .inr (.inr r) :: st => some (ip + 1, ls, .inr (.inr r) :: .inr (.inr r) :: st, M)
    | _ => none
  | .dup2 => match st with
    | .inl x :: .inr (.inr r) :: st => some (ip + 1, ls, .inl x :: .inr (.inr r) :: .inl x :: .inr (.inr r) :: st, M)
    | _ => none
  | .goto t => some (t.toNat, ls, st, M)
  | .if_icmp c t => match st with
    | .inl y :: .inl x :: st => match c with
      | .eq => if x = y then some (t.toNat, ls, st, M) else some (ip + 1, ls, st, M)
      | .ne => if ¬ x = y then some (t.toNat, ls, st, M) else some (ip + 1, ls, st, M)
      | .lt => if x < y then some (t.toNat, ls, st, M) else some (ip + 1, ls, st, M)
      | .ge => if y ≤ x then some (t.toNat, ls, st, M) else some (ip + 1, ls, st, M)
      | .gt => if y < x then some (t.toNat, ls, st, M) else some (ip + 1, ls, st, M)
      | .le => if x ≤ y then some (t.toNat, ls, st, M) else some (ip + 1, ls, st, M)
    | _ => none
  | .ifCond c t => match st with
    | .inl x :: st => match c with
      | .eq => if x = 0 then some (t.toNat, ls, st, M) else some (ip + 1, ls, st, M)
      | .ne => if ¬ x = 0 then some (t.toNat, ls, st, M) else some (ip + 1, ls, st, M)
      | .lt => if x < 0 then some (t.toNat, ls, st, M) else some (ip + 1, ls, st, M)
      | .ge => if 0 ≤ x then some (t.toNat, ls, st, M) else some (ip + 1, ls, st, M)
      | .gt => if 0 < x then some (t.toNat, ls, st, M) else some (ip + 1, ls, st, M)
      | .le => if x ≤ 0 then some (t.toNat, ls, st, M) else some (ip + 1, ls, st, M)
    | _ => none
  | .ifnull t => match st with
    | .inr (.inr none) :: st => some (t.toNat, ls, st, M)
    | .inr (.inr (some _)) :: st => some (ip + 1, ls, st, M)
    | _ => none
  | .ifnonnull t => match st with
    | .inr (.inr none) :: st => some (ip + 1, ls, st, M)
    | .inr (.inr (some _)) :: st => some (t.toNat, ls, st, M)
    | _ => none
  | .tableswitch d lo hi offs => match st with
    | .inl x :: st => if x.toInt < lo ∨ hi < x.toInt then some (d.toNat, ls, st, M) else match nth offs.toList (x.toInt - lo).toNat with
      | some t => some (t.toNat, ls, st, M)
      | none => none
    | _ => none
  | .invokeinterface ci j => match st with
    | .inr (.inr (some (k, i))) :: st => if k = ci then match mTy ci j with
      | .int => some (ip + 1, ls, .inl (M.2.2.1 k i j) :: st, M)
      | .boolean => some (ip + 1, ls, .inl (M.2.2.1 k i j) :: st, M)
      | .long => some (ip + 1, ls, .inr (.inl (M.2.2.2 k i j)) :: st, M)
      | .object _ => some (ip + 1, ls, .inr (.inr (M.2.1 k i j)) :: st, M)
      | .array _ => some (ip + 1, ls, .inr (.inr (M.2.1 k i j)) :: st, M)
      | _ => none
      else none
    | _ => none
  | .multianewarray ci j => match st with
    | .inl x :: .inr (.inr (some (k, i))) :: st => if k = ci then match mTy ci j with
      | .int => some (ip + 1, ls, st, (M.1, M.2.1, up3 M.2.2.1 k i j x, M.2.2.2))
      | .boolean => if x = 0 ∨ x = 1 then some (ip + 1, ls, st, (M.1, M.2.1, up3 M.2.2.1 k i j x, M.2.2.2)) else none
      | _ => none
      else none
    | .inr (.inl y) :: .inr (.inr (some (k, i))) :: st => if k = ci then match mTy ci j with
      | .long => some (ip + 1, ls, st, (M.1, M.2.1, M.2.2.1, up3 M.2.2.2 k i j y))
      | _ => none
      else none
    | .inr (.inr r) :: .inr (.inr (some (k, i))) :: st => if k = ci then match mTy ci j with
      | .object _ => some (ip + 1, ls, st, (M.1, up3 M.2.1 k i j r, M.2.2.1, M.2.2.2))
      | .array _ => some (ip + 1, ls, st, (M.1, up3 M.2.1 k i j r, M.2.2.1, M.2.2.2))
      | _ => none
      else none
    | _ => none
  | .getstatic _ => some (ip + 1, ls, .inr (.inr (some (101, 0))) :: st, M)
  | .iaload => match st with
    | .inl x :: .inr (.inr (some (k, i))) :: st => if k = 100 then (if x < 0 ∨ L ≤ x.toNatClampNeg then none else some (ip + 1, ls, .inl (xs x.toNatClampNeg) :: st, M)) else match nth mKs k with
      | some (.inr (.int, n)) => if x < 0 ∨ n ≤ x.toNatClampNeg then none else some (ip + 1, ls, .inl (M.2.2.1 k i x.toNatClampNeg) :: st, M)
      | _ => none
    | _ => none
  | .baload => match st with
    | .inl x :: .inr (.inr (some (k, i))) :: st => match nth mKs k with
      | some (.inr (.byte, n)) => if x < 0 ∨ n ≤ x.toNatClampNeg then none else some (ip + 1, ls, .inl (M.2.2.1 k i x.toNatClampNeg) :: st, M)
      | some (.inr (.boolean, n)) => if x < 0 ∨ n ≤ x.toNatClampNeg then none else some (ip + 1, ls, .inl (M.2.2.1 k i x.toNatClampNeg) :: st, M)
      | _ => none
    | _ => none
  | .caload => match st with
    | .inl x :: .inr (.inr (some (k, _))) :: st => if k = 101 then (if x < 0 ∨ 6 ≤ x.toNatClampNeg then none else some (ip + 1, ls, .inl (lett x.toNatClampNeg) :: st, M)) else none
    | _ => none
  | .aaload => match st with
    | .inl x :: .inr (.inr (some (k, i))) :: st => match nth mKs k with
      | some (.inr (.object _, n)) => if x < 0 ∨ n ≤ x.toNatClampNeg then none else some (ip + 1, ls, .inr (.inr (M.2.1 k i x.toNatClampNeg)) :: st, M)
      | _ => none
    | _ => none
  | .iastore => match st with
    | .inl y :: .inl x :: .inr (.inr (some (k, i))) :: st => match nth mKs k with
      | some (.inr (.int, n)) => if x < 0 ∨ n ≤ x.toNatClampNeg then none else some (ip + 1, ls, st, (M.1, M.2.1, up3 M.2.2.1 k i x.toNatClampNeg y, M.2.2.2))
      | _ => none
    | _ => none
  | .bastore => match st with
    | .inl y :: .inl x :: .inr (.inr (some (k, i))) :: st => match nth mKs k with
      | some (.inr (.byte, n)) => if x < 0 ∨ n ≤ x.toNatClampNeg then none else some (ip + 1, ls, st, (M.1, M.2.1, up3 M.2.2.1 k i x.toNatClampNeg (vp_nar .byte y), M.2.2.2))
      | some (.inr (.boolean, n)) => if x < 0 ∨ n ≤ x.toNatClampNeg then none else some (ip + 1, ls, st, (M.1, M.2.1, up3 M.2.2.1 k i x.toNatClampNeg (vp_nar .boolean y), M.2.2.2))
      | _ => none
    | _ => none
  | .aastore => match st with
    | .inr (.inr (some (k2, i2))) :: .inl x :: .inr (.inr (some (k, i))) :: st => if mEl k = k2 then match nth mKs k with
      | some (.inr (.object _, n)) => if x < 0 ∨ n ≤ x.toNatClampNeg then none else some (ip + 1, ls, st, (M.1, up3 M.2.1 k i x.toNatClampNeg (some (k2, i2)), M.2.2.1, M.2.2.2))
      | _ => none
      else none
    | _ => none
  | .arraylength => match st with
    | .inr (.inr (some (k, _))) :: st => if k = 100 then some (ip + 1, ls, .inl (Int32.ofNat L) :: st, M) else match nth mKs k with
      | some (.inr (_, n)) => some (ip + 1, ls, .inl (Int32.ofNat n) :: st, M)
      | _ => none
    | _ => none
  | .anewarray k => match st with
    | .inl x :: st => match nth mKs k with
      | some (.inr (_, n)) => if x < 0 ∨ x.toNatClampNeg ≠ n ∨ mHas M.1 k (mCnt M.1 k) = true then none else some (ip + 1, ls, .inr (.inr (some (k, mCnt M.1 k))) :: st, (M.1 ++ [(k, mCnt M.1 k)], up2 M.2.1 k (mCnt M.1 k) (fun _ => none), up2 M.2.2.1 k (mCnt M.1 k) (fun _ => 0), M.2.2.2))
      | _ => none
    | _ => none
  | .new k => match nth mKs k with
    | some (.inl _) => if mHas M.1 k (mCnt M.1 k) = true then none else some (ip + 1, ls, .inr (.inr (some (k, mCnt M.1 k))) :: st, (M.1 ++ [(k, mCnt M.1 k)], up2 M.2.1 k (mCnt M.1 k) (fun _ => none), up2 M.2.2.1 k (mCnt M.1 k) (fun _ => 0), up2 M.2.2.2 k (mCnt M.1 k) (fun _ => 0)))
    | _ => none
  | .pop => match st with
    | .inr (.inr (some _)) :: st => if mCats st ≤ 8 then some (ip + 1, ls, st, M) else none
    | _ => none
  | .lneg => match st with
    | .inl x :: st => if mCats st ≤ 8 then some (ip + 1, ls, .inl (if 0 ≤ x then x else 0 - x) :: st, M) else none
    | _ => none
  | .lor => match st with
    | .inl y :: .inl x :: st => if mCats st ≤ 8 then some (ip + 1, ls, .inl (if x < y then y else x) :: st, M) else none
    | _ => none
  | .lxor => match st with
    | .inl y :: .inl x :: st => if mCats st ≤ 8 then some (ip + 1, ls, .inl (if y < x then y else x) :: st, M) else none
    | _ => none
  | .dup2_x2 => match st with
    | .inl n :: .inl dp :: .inr (.inr (some (k2, i2))) :: .inl sp :: .inr (.inr (some (k1, i1))) :: st => match nth mKs k1, nth mKs k2 with
      | some (.inr (.int, n1)), some (.inr (.int, n2)) => if 8 < mCats st ∨ n < 0 ∨ sp < 0 ∨ dp < 0 ∨ n1 < sp.toNatClampNeg + n.toNatClampNeg ∨ n2 < dp.toNatClampNeg + n.toNatClampNeg then none else
        some (ip + 1, ls, st, (M.1, M.2.1, up2 M.2.2.1 k2 i2 (va_cpy (M.2.2.1 k1 i1) (M.2.2.1 k2 i2) sp.toNatClampNeg dp.toNatClampNeg n.toNatClampNeg), M.2.2.2))
      | _, _ => none
    | _ => none
  | _ => none
end
section
def gTbl : List Cond := lw_tbl.filter goodWord
theorem mx_gd {ws : List Cond} (h : ∀ w ∈ ws, w ∈ lw_tbl) (hg : ws.all goodWord = true) : ∀ w ∈ ws, w ∈ gTbl := fun w hw => List.mem_filter.mpr ⟨h w hw, List.all_eq_true.mp hg w hw⟩
theorem mx_g {ws : List Cond} (ps : List Nat) (h : ws = ps.filterMap (fun i => lw_tbl[i]?)) (hg : ws.all goodWord = true) : ∀ w ∈ ws, w ∈ gTbl := mx_gd (mx_in ps h) hg
theorem gTbl_good : GoodIn gTbl gTbl := fun w hw => ⟨hw, good_of_word (List.mem_filter.mp hw).2⟩
theorem gTbl_in : ∀ w ∈ gTbl, w ∈ lw_tbl := fun w hw => (List.mem_filter.mp hw).1
theorem mx_n0 : ∀ w ∈ u_ws RX0 TX0 7, w ∈ gTbl := mx_gd mx_in0 (by decide +kernel)
theorem mx_n1 : ∀ w ∈ u_ws RX1 TX1 11, w ∈ gTbl := mx_gd mx_in1 (by decide +kernel)
theorem mx_n2 : ∀ w ∈ u_ws RX2 TX2 4, w ∈ gTbl := mx_gd mx_in2 (by decide +kernel)
theorem mx_n3 : ∀ w ∈ u_ws RX3 TX3 2, w ∈ gTbl := mx_gd mx_in3 (by decide +kernel)
theorem mx_n4 : ∀ w ∈ u_ws RX4 TX4 8, w ∈ gTbl := mx_gd mx_in4 (by decide +kernel)
theorem mx_n5 : ∀ w ∈ u_ws RX5 TX5 2, w ∈ gTbl := mx_gd mx_in5 (by decide +kernel)
theorem mx_n6 : ∀ w ∈ u_ws RX6 TX6 14, w ∈ gTbl := mx_gd mx_in6 (by decide +kernel)
theorem mx_n7 : ∀ w ∈ u_ws RX7 TX7 35, w ∈ gTbl := mx_gd mx_in7 (by decide +kernel)
/-! which words of the tables each instruction rests on, and a check of every method's list against its bytes -/
def ownN (o : Nat) : String := match o with
  | 0 => RX0
  | 1 => RX1
  | 2 => RX2
  | 3 => RX3
  | 4 => RX4
  | 5 => RX5
  | 6 => RX6
  | 7 => RX7
  | 8 => RJ6
  | 9 => RJ9
  | 10 => RJ7
  | _ => RL
def mRn (ci : Nat) : String := match ci with
  | 0 => RX0
  | 1 => RX1
  | 2 => RX2
  | 3 => RX3
  | 4 => RX4
  | 5 => RX5
  | 6 => RX6
  | _ => RX7
def mFt (ci : Nat) : u_T := match ci with
  | 0 => TX0
  | 1 => TX1
  | 2 => TX2
  | 3 => TX3
  | 4 => TX4
  | 5 => TX5
  | 6 => TX6
  | _ => TX7
theorem cl_at : ∀ ci, ci < 8 → vwCl[ci]? = some (mRn ci, mFt ci, mNf ci) := fun ci h => match ci, h with
  | 0, _ => rfl
  | 1, _ => rfl
  | 2, _ => rfl
  | 3, _ => rfl
  | 4, _ => rfl
  | 5, _ => rfl
  | 6, _ => rfl
  | 7, _ => rfl
  | n + 8, h => absurd h (by omega)
theorem cl_in : ∀ ci, ci < 8 → ∀ w ∈ u_ws (mRn ci) (mFt ci) (mNf ci), w ∈ gTbl := fun ci h => match ci, h with
  | 0, _ => mx_n0
  | 1, _ => mx_n1
  | 2, _ => mx_n2
  | 3, _ => mx_n3
  | 4, _ => mx_n4
  | 5, _ => mx_n5
  | 6, _ => mx_n6
  | 7, _ => mx_n7
  | n + 8, h => absurd h (by omega)
theorem cl_nm : ∀ ci, ci < 8 → ∀ a, a < mNf ci → ∀ b, b < mNf ci → a ≠ b → (mFt ci a).2.1 ≠ (mFt ci b).2.1 := fun ci h => match ci, h with
  | 0, _ => nmX0
  | 1, _ => nmX1
  | 2, _ => nmX2
  | 3, _ => nmX3
  | 4, _ => nmX4
  | 5, _ => nmX5
  | 6, _ => nmX6
  | 7, _ => nmX7
  | n + 8, h => absurd h (by omega)
theorem cl_ty : ∀ ci, ci < 8 → ∀ k, k < mNf ci → parseFieldDescriptor (mFt ci k).2.2.1 = some (mTy ci k) := fun ci h => match ci, h with
  | 0, _ => tyX0_ok
  | 1, _ => tyX1_ok
  | 2, _ => tyX2_ok
  | 3, _ => tyX3_ok
  | 4, _ => tyX4_ok
  | 5, _ => tyX5_ok
  | 6, _ => tyX6_ok
  | 7, _ => tyX7_ok
  | n + 8, h => absurd h (by omega)
def tFT : List (Nat × Nat × Nat × Nat) := [(0, 9, 0, 5), (0, 15, 0, 6), (0, 18, 0, 0), (0, 25, 0, 1), (0, 29, 0, 2), (0, 32, 0, 3), (0, 35, 0, 4), (0, 68, 2, 0), (0, 73, 2, 1), (0, 76, 2, 2), (0, 79, 2, 3), (0, 86, 1, 0), (1, 9, 1, 3), (1, 15, 1, 4), (1, 18, 1, 5), (1, 21, 1, 6), (1, 24, 1, 7), (1, 27, 1, 8), (1, 30, 1, 9), (1, 33, 1, 10), (1, 36, 1, 0), (1, 40, 1, 2), (1, 62, 1, 1), (2, 9, 2, 1), (2, 15, 2, 2), (2, 18, 2, 3), (2, 21, 2, 0), (3, 9, 3, 0), (3, 15, 3, 1), (4, 9, 4, 1), (4, 15, 4, 2), (4, 18, 4, 0), (4, 22, 4, 3), (4, 26, 4, 4), (4, 32, 4, 6), (4, 35, 4, 5), (4, 39, 0, 3), (4, 44, 0, 4), (4, 55, 0, 1), (4, 58, 0, 2), (4, 65, 4, 7), (4, 80, 3, 1), (4, 99, 1, 0), (5, 9, 5, 0), (5, 15, 5, 1), (6, 11, 6, 0), (6, 17, 6, 1), (6, 24, 6, 2), (6, 28, 6, 3), (6, 36, 6, 4), (6, 40, 6, 5), (6, 46, 6, 6), (6, 53, 6, 7), (6, 57, 6, 8), (6, 61, 6, 9), (6, 65, 6, 13), (6, 71, 2, 0), (6, 87, 3, 0), (6, 92, 3, 1), (6, 95, 6, 11), (6, 112, 5, 0), (6, 113, 5, 1), (6, 136, 1, 0), (6, 144, 1, 3), (6, 156, 1, 8), (6, 164, 1, 10), (6, 167, 1, 4), (6, 173, 0, 6), (6, 183, 0, 5), (6, 223, 0, 1), (6, 234, 4, 3), (6, 243, 1, 6), (6, 246, 1, 1), (6, 256, 0, 4), (6, 281, 1, 2), (6, 297, 6, 12), (6, 303, 6, 10), (6, 350, 1, 5), (6, 353, 1, 7), (6, 356, 0, 2), (6, 362, 0, 3), (6, 386, 4, 4), (6, 395, 0, 0), (7, 7, 7, 0), (7, 13, 7, 1), (7, 16, 7, 2), (7, 19, 7, 3), (7, 22, 7, 6), (7, 25, 7, 7), (7, 28, 7, 8), (7, 31, 7, 9), (7, 34, 7, 10), (7, 37, 7, 11), (7, 40, 7, 12), (7, 43, 7, 14), (7, 46, 7, 15), (7, 49, 7, 16), (7, 53, 7, 19), (7, 57, 7, 21), (7, 60, 7, 25), (7, 63, 7, 27), (7, 66, 7, 28), (7, 69, 7, 30), (7, 72, 7, 31), (7, 75, 7, 32), (7, 78, 7, 33), (7, 81, 7, 34), (7, 87, 7, 20), (7, 91, 7, 17), (7, 116, 7, 22), (7, 122, 7, 26), (7, 129, 7, 23), (7, 135, 7, 24), (7, 151, 7, 13), (7, 154, 7, 4), (7, 157, 7, 5), (7, 233, 7, 29), (7, 257, 7, 18)]
def wFT (q : Nat × Nat × Nat × Nat) : Cond := .fieldLink (ownN q.1) q.2.1 (mRn q.2.2.1) (mFt q.2.2.1 q.2.2.2).2.1 (mFt q.2.2.1 q.2.2.2).2.2.1
set_option maxRecDepth 100000 in
theorem tFT_in : ∀ w ∈ tFT.map wFT, w ∈ gTbl := mx_g [169, 171, 155, 157, 160, 163, 166, 229, 231, 233, 235, 97, 103, 105, 107, 109, 111, 113, 115, 116, 95, 101, 99, 230, 232, 234, 228, 251, 253, 195, 196, 194, 197, 199, 202, 201, 164, 167, 158, 161, 203, 255, 96, 266, 268, 276, 277, 278, 279, 280, 281, 282, 283, 284, 285, 289, 227, 252, 254, 287, 267, 269, 98, 104, 114, 117, 106, 172, 170, 159, 198, 110, 100, 168, 102, 288, 286, 108, 112, 162, 165, 200, 156, 849, 850, 851, 852, 855, 856, 857, 858, 859, 860, 861, 863, 864, 865, 868, 870, 874, 876, 877, 879, 880, 881, 882, 883, 869, 866, 871, 875, 872, 873, 862, 853, 854, 878, 867] rfl (by decide +kernel)
theorem tFT_ok : ∀ q ∈ tFT, q.2.2.1 < 8 ∧ q.2.2.2 < mNf q.2.2.1 ∧ (mFt q.2.2.1 q.2.2.2).1 = mRn q.2.2.1 := by decide +kernel
def mYn (t : Nat) : MethodName := match mG t with
  | some I => I.2.1
  | none => ⟨"", "", ""⟩
def tMT : List (Nat × Nat × Nat) := [(0, 22, 1), (0, 38, 228), (0, 44, 18), (0, 50, 17), (0, 53, 14), (0, 57, 7), (0, 61, 4), (0, 65, 6), (0, 82, 8), (0, 87, 11), (0, 91, 227), (1, 43, 14), (1, 51, 15), (1, 65, 19), (1, 73, 21), (3, 19, 228), (4, 47, 12), (4, 51, 40), (4, 61, 39), (4, 68, 41), (4, 71, 42), (4, 74, 27), (4, 83, 16), (4, 88, 37), (4, 91, 36), (4, 95, 38), (4, 102, 17), (4, 106, 15), (4, 110, 18), (5, 19, 44), (5, 23, 45), (6, 33, 0), (6, 45, 31), (6, 75, 96), (6, 79, 95), (6, 83, 27), (6, 88, 28), (6, 98, 29), (6, 108, 97), (6, 117, 229), (6, 123, 44), (6, 126, 109), (6, 130, 22), (6, 133, 1), (6, 137, 14), (6, 140, 112), (6, 147, 105), (6, 150, 117), (6, 153, 118), (6, 159, 227), (6, 170, 108), (6, 176, 3), (6, 179, 119), (6, 186, 15), (6, 189, 12), (6, 193, 10), (6, 196, 9), (6, 200, 98), (6, 204, 25), (6, 206, 121), (6, 209, 33), (6, 213, 99), (6, 217, 2), (6, 220, 4), (6, 226, 34), (6, 230, 35), (6, 237, 11), (6, 240, 122), (6, 249, 102), (6, 253, 19), (6, 259, 18), (6, 262, 123), (6, 266, 124), (6, 270, 106), (6, 274, 125), (6, 277, 101), (6, 284, 127), (6, 293, 120), (6, 300, 113), (6, 310, 30), (6, 314, 48), (6, 315, 100), (6, 325, 107), (6, 332, 110), (6, 336, 45), (6, 339, 46), (6, 343, 111), (6, 347, 47), (6, 359, 17), (6, 365, 20), (6, 368, 114), (6, 371, 115), (6, 374, 116), (6, 377, 24), (6, 380, 8), (6, 383, 32), (6, 389, 103), (6, 392, 104), (6, 396, 16), (6, 399, 126), (6, 405, 5), (6, 409, 6), (7, 84, 153), (7, 96, 129), (7, 102, 135), (7, 106, 132), (7, 110, 133), (7, 113, 136), (7, 119, 145), (7, 125, 148), (7, 132, 147), (7, 138, 146), (7, 142, 149), (7, 145, 150), (7, 148, 151), (7, 160, 157), (7, 164, 156), (7, 167, 130), (7, 171, 159), (7, 174, 158), (7, 178, 160), (7, 182, 162), (7, 186, 155), (7, 189, 167), (7, 193, 169), (7, 196, 171), (7, 200, 170), (7, 203, 131), (7, 206, 164), (7, 209, 174), (7, 213, 175), (7, 216, 161), (7, 220, 177), (7, 223, 163), (7, 227, 166), (7, 236, 184), (7, 240, 186), (7, 244, 183), (7, 247, 187), (7, 250, 185), (7, 254, 188), (7, 262, 192), (7, 266, 134), (7, 271, 165), (7, 274, 203), (7, 277, 206), (7, 280, 207), (7, 283, 208), (7, 286, 209), (7, 291, 211), (7, 294, 212), (7, 298, 213), (7, 312, 216), (7, 315, 221), (7, 320, 222), (11, 9, 49), (11, 12, 128), (11, 13, 50), (11, 17, 137), (11, 18, 51), (11, 22, 138), (11, 23, 52), (11, 26, 139), (11, 27, 53), (11, 31, 140), (11, 32, 54), (11, 36, 141), (11, 37, 55), (11, 40, 142), (11, 41, 56), (11, 44, 143), (11, 45, 57), (11, 48, 144), (11, 49, 58), (11, 52, 152), (11, 53, 59), (11, 56, 154), (11, 57, 60), (11, 60, 168), (11, 61, 61), (11, 64, 172), (11, 65, 62), (11, 68, 173), (11, 69, 63), (11, 72, 176), (11, 73, 64), (11, 76, 178), (11, 77, 65), (11, 80, 179), (11, 81, 66), (11, 84, 180), (11, 85, 67), (11, 88, 181), (11, 89, 68), (11, 92, 182), (11, 93, 69), (11, 96, 189), (11, 97, 70), (11, 100, 190), (11, 101, 71), (11, 104, 191), (11, 105, 72), (11, 108, 193), (11, 109, 73), (11, 112, 194), (11, 113, 74), (11, 116, 195), (11, 117, 75), (11, 121, 196), (11, 122, 76), (11, 125, 197), (11, 126, 77), (11, 129, 198), (11, 130, 78), (11, 133, 199), (11, 134, 79), (11, 137, 200), (11, 138, 80), (11, 141, 201), (11, 142, 81), (11, 145, 202), (11, 146, 82), (11, 149, 204), (11, 150, 83), (11, 153, 205), (11, 154, 84), (11, 157, 210), (11, 158, 85), (11, 161, 214), (11, 162, 86), (11, 165, 215), (11, 166, 87), (11, 169, 217), (11, 170, 88), (11, 173, 218), (11, 174, 89), (11, 178, 219), (11, 179, 90), (11, 182, 220), (11, 183, 91), (11, 186, 223), (11, 187, 92), (11, 190, 224), (11, 191, 93), (11, 194, 225), (11, 195, 94), (11, 198, 226)]
def wMT (q : Nat × Nat × Nat) : Cond := .methodLink (ownN q.1) q.2.1 (mYn q.2.2)
set_option maxRecDepth 100000 in
theorem tMT_in : ∀ w ∈ tMT.map wMT, w ∈ gTbl := mx_g [148, 152, 520, 527, 528, 533, 516, 529, 567, 546, 550, 470, 431, 427, 423, 335, 597, 598, 621, 647, 675, 630, 605, 613, 601, 609, 624, 625, 617, 400, 405, 144, 190, 323, 327, 331, 340, 356, 371, 375, 382, 390, 419, 453, 458, 462, 475, 478, 486, 490, 450, 482, 504, 541, 542, 555, 563, 572, 576, 588, 643, 650, 662, 666, 671, 626, 682, 687, 703, 708, 713, 718, 722, 732, 737, 756, 763, 774, 794, 829, 834, 654, 444, 393, 396, 401, 406, 409, 466, 798, 803, 807, 811, 508, 512, 592, 726, 727, 740, 741, 748, 744, 845, 964, 960, 967, 975, 999, 1019, 1027, 1035, 1015, 1023, 1031, 1011, 1058, 1079, 1116, 1083, 1054, 1112, 1072, 1046, 1050, 1065, 1068, 1075, 1086, 1093, 1105, 1101, 1108, 1123, 1127, 1135, 1177, 1169, 1161, 1165, 1173, 1156, 1194, 1202, 1247, 1243, 1259, 1263, 1267, 1271, 1280, 1284, 1288, 1304, 1329, 1325, 79, 841, 319, 956, 336, 971, 344, 979, 348, 983, 352, 987, 363, 991, 367, 995, 378, 1003, 386, 1007, 415, 1038, 454, 1042, 471, 1061, 496, 1089, 500, 1097, 537, 1119, 551, 1131, 559, 1139, 568, 1143, 580, 1148, 584, 1152, 631, 1181, 635, 1185, 639, 1189, 658, 1198, 667, 1206, 678, 1211, 683, 1215, 691, 1219, 695, 1223, 699, 1227, 704, 1231, 709, 1235, 714, 1239, 728, 1251, 733, 1255, 752, 1275, 759, 1291, 767, 1295, 778, 1308, 782, 1312, 786, 1316, 790, 1320, 815, 1333, 819, 1337, 823, 1341] rfl (by decide +kernel)
def tNT : List (Nat × Nat × Nat) := [(1, 47, 103), (1, 54, 102), (1, 58, 105), (1, 69, 106), (4, 113, 104), (6, 23, 13), (6, 52, 23), (6, 69, 26), (6, 70, 43)]
def wNT (q : Nat × Nat × Nat) : Cond := .methodLinkNest (ownN q.1) q.2.1 (mYn q.2.2) "AnnCups"
set_option maxRecDepth 100000 in
theorem tNT_in : ∀ w ∈ tNT.map wNT, w ∈ lw_tbl := mx_in [524, 435, 802, 441, 618, 91, 223, 247, 262] rfl
def tCN : List (Nat × Nat × Nat) := [(6, 9, 3), (6, 15, 5), (6, 21, 1), (6, 31, 0), (6, 43, 4), (6, 50, 2), (11, 7, 6), (11, 10, 7)]
def wCN (q : Nat × Nat × Nat) : Cond := .classLink (ownN q.1) q.2.1 (mRn q.2.2)
set_option maxRecDepth 100000 in
theorem tCN_in : ∀ w ∈ tCN.map wCN, w ∈ gTbl := mx_g [85, 87, 89, 142, 188, 221, 77, 839] rfl (by decide +kernel)
theorem tCN_ok : ∀ q ∈ tCN, q.2.2 < 8 := by decide +kernel
def tAN : List (Nat × Nat × Nat) := [(6, 9, 25), (6, 15, 26), (6, 50, 27)]
def wAN (q : Nat × Nat × Nat) : Cond := .classLink (ownN q.1) q.2.1 (mRn (mEl q.2.2))
def wAO (q : Nat × Nat × Nat) : Cond := .arrayOver (.object (mRn (mEl q.2.2)))
set_option maxRecDepth 100000 in
theorem tAN_in : ∀ w ∈ tAN.map wAN, w ∈ gTbl := mx_g [85, 87, 221] rfl (by decide +kernel)
set_option maxRecDepth 100000 in
theorem tAO_in : ∀ w ∈ tAN.map wAO, w ∈ lw_tbl := mx_in [86, 88, 245] rfl
def tCI : List (Nat × Nat × Int32) := [(4, 31, 2147483647), (6, 319, 1000000), (7, 243, 1000000), (8, 265, 1431655765), (8, 266, 858993459), (8, 267, 252645135)]
def wCI (q : Nat × Nat × Int32) : Cond := .constant (ownN q.1) q.2.1 q.2.2
set_option maxRecDepth 100000 in
theorem tCI_in : ∀ w ∈ tCI.map wCI, w ∈ gTbl := mx_g [596, 657, 1160, 493, 494, 495] rfl (by decide +kernel)
def tCL : List (Nat × Nat × Int64) := [(3, 25, 31), (5, 31, 31), (6, 287, 2147483647), (6, 289, 48271), (6, 291, 8), (6, 306, 17), (6, 308, 31), (7, 94, 5), (7, 100, 3), (7, 231, 2), (7, 260, 6), (7, 269, 99), (7, 289, 12), (7, 302, 20), (7, 304, 2147483646), (7, 306, 48271), (7, 308, 2147483647), (7, 310, 8), (7, 318, 11), (7, 323, 17), (7, 325, 31)]
def wCL (q : Nat × Nat × Int64) : Cond := .constantLong (ownN q.1) q.2.1 q.2.2
set_option maxRecDepth 100000 in
theorem tCL_in : ∀ w ∈ tCL.map wCL, w ∈ gTbl := mx_g [833, 838, 771, 772, 773, 827, 828, 963, 1002, 1147, 1193, 1210, 1279, 1299, 1300, 1301, 1302, 1303, 1324, 1345, 1346] rfl (by decide +kernel)
def tOB : List (Nat × Nat) := [(0, 3), (1, 3), (2, 3), (3, 3), (4, 3), (5, 3), (6, 1), (7, 1)]
def wOB (q : Nat × Nat) : Cond := .methodLink (ownN q.1) q.2 objectInit
set_option maxRecDepth 100000 in
theorem tOB_in : ∀ w ∈ tOB.map wOB, w ∈ gTbl := mx_g [147, 94, 226, 250, 193, 265, 82, 844] rfl (by decide +kernel)
def maN (a : Nat) : MethodName := match a with
  | 0 => Lib.Math.abs.name
  | 1 => Lib.Math.max.name
  | _ => Lib.Math.min.name
def tMA : List (Nat × Nat × Nat) := [(6, 320, 0), (6, 329, 1), (6, 402, 2)]
def wMA (q : Nat × Nat × Nat) : Cond := .methodLink (ownN q.1) q.2.1 (maN q.2.2)
set_option maxRecDepth 100000 in
theorem tMA_in : ∀ w ∈ tMA.map wMA, w ∈ gTbl := mx_g [438, 447, 745] rfl (by decide +kernel)
set_option maxRecDepth 100000 in
theorem tMW_in : ∀ w ∈ ([.static Lib.Math.abs.name, .static Lib.Math.max.name, .static Lib.Math.min.name, .initialized "java/lang/Math", .code Lib.Math.abs.name Lib.Math.abs.code 1 (some .int), .code Lib.Math.max.name Lib.Math.max.code 2 (some .int), .code Lib.Math.min.name Lib.Math.min.code 2 (some .int)] : List Cond), w ∈ gTbl := mx_g [439, 448, 746, 75, 440, 449, 747] rfl (by decide +kernel)
set_option maxRecDepth 100000 in
theorem tOI_in : ∀ w ∈ ([.instanceMethod objectInit, .code objectInit ⟨#[0xb1]⟩ 1 none] : List Cond), w ∈ gTbl := mx_g [83, 84] rfl (by decide +kernel)
set_option maxRecDepth 100000 in
theorem tAC_in : ∀ w ∈ ([.methodLink RX6 102 arraycopyName, .native arraycopyName, .static arraycopyName, .initialized "java/lang/System"] : List Cond), w ∈ gTbl := mx_g [360, 362, 361, 74] rfl (by decide +kernel)
set_option maxRecDepth 100000 in
theorem tAR_in : ∀ w ∈ ([.arrayClass .int, .arrayClass .byte, .arrayClass .boolean] : List Cond), w ∈ gTbl := mx_g [141, 275, 955] rfl (by decide +kernel)
set_option maxRecDepth 100000 in
theorem tGS_in : ∀ w ∈ ([.fieldLinkNest RX5 27 "AnnCups" "LETTERS" "[C" "AnnCups"] : List Cond), w ∈ lw_tbl := mx_in [413] rfl
set_option maxRecDepth 100000 in
theorem tIN_in : ∀ w ∈ (List.range 8).map (fun ci => Cond.instantiable (mRn ci) (mNf ci)), w ∈ gTbl := mx_g [143, 90, 222, 246, 189, 261, 78, 840] rfl (by decide +kernel)
set_option maxRecDepth 100000 in
theorem tII_in : ∀ w ∈ (List.range 12).map (fun o => Cond.initialized (ownN o)), w ∈ gTbl := mx_g [67, 66, 70, 71, 69, 72, 65, 73, 76, 75, 68, 64] rfl (by decide +kernel)
def tME : List Nat := List.range 230
def wCD (t : Nat) : Cond := match mG t with
  | some I => .code I.2.1 I.2.2.1 I.2.2.2.1 I.2.2.2.2.1
  | none => .initialized ""
set_option maxRecDepth 100000 in
theorem tCD_in : ∀ w ∈ tME.map wCD, w ∈ gTbl := mx_g [146, 151, 665, 485, 519, 751, 532, 536, 515, 566, 558, 549, 545, 93, 461, 434, 608, 469, 523, 430, 801, 426, 422, 225, 511, 579, 249, 334, 343, 359, 832, 192, 595, 646, 674, 629, 604, 616, 612, 623, 600, 649, 677, 264, 385, 399, 404, 412, 837, 81, 322, 339, 347, 351, 355, 366, 370, 381, 389, 418, 457, 474, 499, 503, 540, 554, 562, 571, 583, 587, 634, 638, 642, 661, 670, 681, 686, 694, 698, 702, 707, 712, 717, 731, 736, 755, 762, 770, 781, 785, 789, 793, 818, 822, 826, 330, 326, 374, 575, 653, 656, 758, 437, 526, 620, 477, 443, 446, 452, 392, 395, 408, 465, 797, 806, 810, 814, 481, 489, 507, 777, 591, 690, 721, 725, 739, 743, 766, 843, 966, 1118, 1088, 970, 978, 1205, 962, 1001, 959, 974, 982, 986, 990, 994, 998, 1006, 1022, 1018, 1037, 1030, 1026, 1034, 1014, 1010, 848, 1041, 1049, 1082, 1060, 1057, 1085, 1115, 1111, 1074, 1130, 1096, 1250, 1138, 1053, 1045, 1067, 1078, 1071, 1064, 1092, 1107, 1104, 1100, 1126, 1122, 1134, 1142, 1146, 1151, 1164, 1180, 1176, 1172, 1168, 1159, 1155, 1184, 1188, 1197, 1192, 1201, 1209, 1214, 1218, 1222, 1226, 1230, 1234, 1238, 1246, 1242, 1254, 1262, 1266, 1270, 1274, 1258, 1283, 1287, 1290, 1278, 1294, 1307, 1298, 1311, 1315, 1319, 1332, 1328, 1323, 1336, 1340, 1344, 492, 154, 377] rfl (by decide +kernel)
def wSI (t : Nat) : Cond := match mG t with
  | some I => if I.2.2.2.2.2.2.1 = true then .static I.2.1 else .instanceMethod I.2.1
  | none => .initialized ""
set_option maxRecDepth 100000 in
theorem tSI_in : ∀ w ∈ tME.map wSI, w ∈ gTbl := mx_g [145, 149, 663, 483, 517, 749, 530, 535, 513, 564, 556, 547, 543, 92, 459, 432, 606, 467, 521, 428, 799, 424, 420, 224, 509, 577, 248, 332, 341, 357, 830, 191, 593, 644, 672, 627, 603, 615, 611, 622, 599, 648, 676, 263, 383, 397, 402, 410, 835, 80, 320, 337, 345, 349, 353, 364, 368, 379, 387, 416, 455, 472, 497, 501, 538, 552, 560, 569, 581, 585, 632, 636, 640, 659, 668, 679, 684, 692, 696, 700, 705, 710, 715, 729, 734, 753, 760, 768, 779, 783, 787, 791, 816, 820, 824, 329, 325, 373, 574, 652, 655, 757, 436, 525, 619, 476, 442, 445, 451, 391, 394, 407, 464, 796, 805, 809, 813, 480, 488, 506, 776, 590, 689, 720, 724, 738, 742, 765, 842, 965, 1117, 1087, 969, 977, 1204, 961, 1000, 957, 972, 980, 984, 988, 992, 996, 1004, 1021, 1017, 1036, 1029, 1025, 1033, 1013, 1008, 847, 1039, 1048, 1081, 1059, 1056, 1084, 1114, 1110, 1073, 1129, 1095, 1249, 1137, 1052, 1043, 1066, 1077, 1070, 1062, 1090, 1106, 1103, 1098, 1125, 1120, 1132, 1140, 1144, 1149, 1163, 1179, 1175, 1171, 1167, 1158, 1153, 1182, 1186, 1196, 1190, 1199, 1207, 1212, 1216, 1220, 1224, 1228, 1232, 1236, 1245, 1240, 1252, 1261, 1265, 1269, 1273, 1256, 1282, 1286, 1289, 1276, 1292, 1306, 1296, 1309, 1313, 1317, 1331, 1327, 1321, 1334, 1338, 1342, 491, 153, 376] rfl (by decide +kernel)
def tVM : List Nat := [1, 2, 3, 4, 5, 6, 7, 8, 9, 10, 11, 12, 14, 15, 16, 17, 18, 19, 20, 21, 22, 24, 25, 27, 28, 29, 30, 32, 33, 34, 35, 36, 37, 38, 44, 45, 46, 47, 48, 50, 51, 52, 53, 54, 55, 56, 57, 58, 59, 60, 61, 62, 63, 64, 65, 66, 67, 68, 69, 70, 71, 72, 73, 74, 75, 76, 77, 78, 79, 80, 81, 82, 83, 84, 85, 86, 87, 88, 89, 90, 91, 92, 93, 94, 95, 96, 97, 98, 99, 112, 113, 114, 115, 116, 117, 118, 119, 120, 121, 122, 123, 124, 127, 132, 133, 134, 137, 138, 139, 140, 141, 142, 143, 144, 145, 146, 148, 149, 150, 151, 152, 153, 154, 155, 156, 158, 160, 161, 163, 164, 165, 166, 167, 168, 170, 171, 172, 173, 175, 176, 177, 178, 179, 180, 181, 182, 183, 184, 185, 186, 187, 188, 189, 190, 191, 192, 193, 194, 195, 196, 197, 198, 199, 200, 201, 202, 203, 204, 205, 206, 207, 208, 209, 210, 211, 212, 214, 215, 216, 217, 218, 219, 220, 221, 222, 223, 224, 225, 226]
def wSE (t : Nat) : Cond := .selects (mYn t).cls (mYn t) (mYn t)
set_option maxRecDepth 100000 in
theorem tSE_in : ∀ w ∈ tVM.map wSE, w ∈ gTbl := mx_g [150, 664, 484, 518, 750, 531, 7, 514, 565, 557, 548, 544, 460, 433, 607, 468, 522, 429, 800, 425, 421, 510, 578, 333, 342, 358, 831, 594, 645, 673, 628, 10, 12, 11, 384, 398, 403, 411, 836, 321, 338, 346, 350, 354, 365, 369, 380, 388, 417, 456, 473, 498, 502, 539, 553, 561, 570, 582, 586, 633, 637, 641, 660, 669, 680, 685, 693, 697, 701, 706, 711, 716, 730, 735, 754, 761, 769, 780, 784, 788, 792, 817, 821, 825, 1, 0, 2, 8, 13, 3, 19, 20, 21, 22, 4, 5, 6, 18, 9, 14, 15, 16, 17, 24, 25, 52, 958, 973, 981, 985, 989, 993, 997, 1005, 28, 27, 30, 29, 31, 26, 1009, 23, 1040, 32, 37, 34, 41, 40, 43, 38, 54, 44, 33, 1044, 36, 35, 1063, 1091, 39, 1099, 42, 1121, 1133, 1141, 1145, 1150, 46, 50, 49, 48, 47, 45, 1154, 1183, 1187, 51, 1191, 1200, 1208, 1213, 1217, 1221, 1225, 1229, 1233, 1237, 53, 1241, 1253, 55, 56, 57, 58, 1257, 59, 60, 1277, 1293, 61, 1297, 1310, 1314, 1318, 63, 62, 1322, 1335, 1339, 1343] rfl (by decide +kernel)
end
section
/-! every method's list against its bytes -/
def f4 (b : Nat) : Fin 4 := ⟨b % 4, Nat.mod_lt _ (by decide)⟩
def okD (I : mI) (pc : Nat) (i : Instr) (len : Nat) : Bool := match decode I.2.2.1 pc with
  | .ok (j, l) => decide (j = i) && decide (l = len)
  | _ => false
def okN (pc : Nat) (nx : Option Nat) (len : Nat) : Bool := match nx with
  | some n => decide (n = pc + len)
  | none => false
def okS (I : mI) (pc : Nat) (nx : Option Nat) (i : Instr) (len : Nat) : Bool := okD I pc i len && okN pc nx len
def okT (I : mI) (pc : Nat) (off t : Int) : Bool := match nth I.2.2.2.2.2.2.2.2 t.toNat with
  | some tp => decide ((pc : Int) + off = (tp : Int))
  | none => false
def okTs (I : mI) (pc : Nat) : List Int → List Int → Bool
  | [], [] => true
  | o :: os, t :: ts => okT I pc o t && okTs I pc os ts
  | _, _ => false
def okB (I : mI) (pc : Nat) (nx : Option Nat) (i : Instr) (v : Value) : Bool :=
  match i with
  | .iload b => decide (b < I.2.2.2.1) && ((decide (b < 4) && okS I pc nx (.iload_n (f4 b)) 1) || okS I pc nx (.iload b) 2)
  | .lload b => decide (b < I.2.2.2.1) && ((decide (b < 4) && okS I pc nx (.lload_n (f4 b)) 1) || okS I pc nx (.lload b) 2)
  | .aload b => decide (b < I.2.2.2.1) && ((decide (b < 4) && okS I pc nx (.aload_n (f4 b)) 1) || okS I pc nx (.aload b) 2)
  | .istore b => decide (b < I.2.2.2.1) && ((decide (b < 4) && okS I pc nx (.istore_n (f4 b)) 1) || okS I pc nx (.istore b) 2)
  | .astore b => decide (b < I.2.2.2.1) && ((decide (b < 4) && okS I pc nx (.astore_n (f4 b)) 1) || okS I pc nx (.astore b) 2)
  | .lstore b => decide (b + 1 < I.2.2.2.1) && ((decide (b < 4) && okS I pc nx (.lstore_n (f4 b)) 1) || okS I pc nx (.lstore b) 2)
  | .iconst _ => match v with
    | .int x => okS I pc nx (.iconst x.toInt) 1 || (okS I pc nx (.bipush x.toInt) 2 && decide ((Int8.ofInt x.toInt).toInt32 = x)) || (okS I pc nx (.sipush x.toInt) 3 && decide ((Int16.ofInt x.toInt).toInt32 = x)) ||
      tCI.any (fun q => decide (q.1 = I.1) && decide (q.2.2 = x) && (okS I pc nx (.ldc q.2.1) 2 || okS I pc nx (.ldc_w q.2.1) 3))
    | _ => false
  | .lconst _ => match v with
    | .long x => (decide (x = 0) && okS I pc nx (.lconst 0) 1) || (decide (x = 1) && okS I pc nx (.lconst 1) 1) || tCL.any (fun q => decide (q.1 = I.1) && decide (q.2.2 = x) && okS I pc nx (.ldc2_w q.2.1) 3)
    | _ => false
  | .iinc n _ => match v with
    | .int y => decide (n < I.2.2.2.1) && okS I pc nx (.iinc n y.toInt) 3
    | _ => false
  | .goto t => match decode I.2.2.1 pc with
    | .ok (.goto off, 3) => okT I pc off t
    | _ => false
  | .ifnull t => match decode I.2.2.1 pc with
    | .ok (.ifnull off, 3) => okT I pc off t && okN pc nx 3
    | _ => false
  | .ifnonnull t => match decode I.2.2.1 pc with
    | .ok (.ifnonnull off, 3) => okT I pc off t && okN pc nx 3
    | _ => false
  | .if_icmp c t => match decode I.2.2.1 pc with
    | .ok (.if_icmp c' off, 3) => decide (c = c') && okT I pc off t && okN pc nx 3
    | _ => false
  | .ifCond c t => match decode I.2.2.1 pc with
    | .ok (.ifCond c' off, 3) => decide (c = c') && okT I pc off t && okN pc nx 3
    | _ => false
  | .tableswitch d lo hi offs => match decode I.2.2.1 pc with
    | .ok (.tableswitch d' lo' hi' offs', _) => decide (lo = lo') && decide (hi = hi') && okT I pc d' d && okTs I pc offs'.toList offs.toList
    | _ => false
  | .invokeinterface ci j => tFT.any (fun q => decide (q.1 = I.1) && decide (q.2.2.1 = ci) && decide (q.2.2.2 = j) && okS I pc nx (.getfield q.2.1) 3)
  | .multianewarray ci j => tFT.any (fun q => decide (q.1 = I.1) && decide (q.2.2.1 = ci) && decide (q.2.2.2 = j) && okS I pc nx (.putfield q.2.1) 3 && (!(mFt ci j).2.2.2 || (decide (I.2.1.name = "<init>") && decide (I.1 = ci))))
  | .getstatic _ => decide (I.1 = 5) && okS I pc nx (.getstatic 27) 3
  | .anewarray k => (match nth mKs k with
    | some (.inr (.int, _)) => okS I pc nx (.newarray .int) 2
    | some (.inr (.byte, _)) => okS I pc nx (.newarray .byte) 2
    | some (.inr (.boolean, _)) => okS I pc nx (.newarray .boolean) 2
    | _ => false) || tAN.any (fun q => decide (q.1 = I.1) && decide (q.2.2 = k) && okS I pc nx (.anewarray q.2.1) 3)
  | .new k => tCN.any (fun q => decide (q.1 = I.1) && decide (q.2.2 = k) && okS I pc nx (.new q.2.1) 3)
  | .pop => tOB.any (fun q => decide (q.1 = I.1) && okS I pc nx (.invokespecial q.2) 3)
  | .lneg => tMA.any (fun q => decide (q.1 = I.1) && decide (q.2.2 = 0) && okS I pc nx (.invokestatic q.2.1) 3)
  | .lor => tMA.any (fun q => decide (q.1 = I.1) && decide (q.2.2 = 1) && okS I pc nx (.invokestatic q.2.1) 3)
  | .lxor => tMA.any (fun q => decide (q.1 = I.1) && decide (q.2.2 = 2) && okS I pc nx (.invokestatic q.2.1) 3)
  | .dup2_x2 => decide (I.1 = 6) && okS I pc nx (.invokestatic 102) 3
  | .invokestatic t => tMT.any (fun q => decide (q.1 = I.1) && decide (q.2.2 = t) && okS I pc nx (.invokestatic q.2.1) 3) || tNT.any (fun q => decide (q.1 = I.1) && decide (q.2.2 = t) && okS I pc nx (.invokestatic q.2.1) 3)
  | .invokevirtual t => decide (t ∈ tVM) && tMT.any (fun q => decide (q.1 = I.1) && decide (q.2.2 = t) && okS I pc nx (.invokevirtual q.2.1) 3)
  | .invokespecial t => decide ((mYn t).name = "<init>") && (tMT.any (fun q => decide (q.1 = I.1) && decide (q.2.2 = t) && okS I pc nx (.invokespecial q.2.1) 3) || tNT.any (fun q => decide (q.1 = I.1) && decide (q.2.2 = t) && okS I pc nx (.invokespecial q.2.1) 3))
  | .aconst_null => okS I pc nx .aconst_null 1
  | .iadd => okS I pc nx .iadd 1
  | .isub => okS I pc nx .isub 1
  | .imul => okS I pc nx .imul 1
  | .iand => okS I pc nx .iand 1
  | .ior => okS I pc nx .ior 1
  | .ixor => okS I pc nx .ixor 1
  | .ishl => okS I pc nx .ishl 1
  | .ishr => okS I pc nx .ishr 1
  | .iushr => okS I pc nx .iushr 1
  | .idiv => okS I pc nx .idiv 1
  | .irem => okS I pc nx .irem 1
  | .ineg => okS I pc nx .ineg 1
  | .ladd => okS I pc nx .ladd 1
  | .lmul => okS I pc nx .lmul 1
  | .ldiv => okS I pc nx .ldiv 1
  | .lrem => okS I pc nx .lrem 1
  | .lcmp => okS I pc nx .lcmp 1
  | .i2l => okS I pc nx .i2l 1
  | .l2i => okS I pc nx .l2i 1
  | .i2b => okS I pc nx .i2b 1
  | .dup => okS I pc nx .dup 1
  | .dup2 => okS I pc nx .dup2 1
  | .iaload => okS I pc nx .iaload 1
  | .baload => okS I pc nx .baload 1
  | .caload => okS I pc nx .caload 1
  | .aaload => okS I pc nx .aaload 1
  | .iastore => okS I pc nx .iastore 1
  | .bastore => okS I pc nx .bastore 1
  | .aastore => okS I pc nx .aastore 1
  | .arraylength => okS I pc nx .arraylength 1
  | .ireturn => okD I pc .ireturn 1
  | .lreturn => okD I pc .lreturn 1
  | .areturn => okD I pc .areturn 1
  | .return_ => okD I pc .return_ 1
  | _ => false
def okL (I : mI) : List mO → List Nat → Bool
  | [], [] => true
  | o :: os, pc :: pcs => okB I pc (nth pcs 0) o.1 o.2 && okL I os pcs
  | _, _ => false
def okLc (I : mI) (nxt : Option Nat) : List mO → List Nat → Bool
  | [], [] => true
  | o :: os, pc :: pcs => okB I pc (match nth pcs 0 with
    | some n => some n
    | none => nxt) o.1 o.2 && okLc I nxt os pcs
  | _, _ => false
def okH (I : mI) : Bool := decide (I.2.1.cls = ownN I.1) && decide (I.1 < 12) && plainName I.2.1.cls && decide (I.2.1.cls ≠ "java/lang/invoke/MethodHandle") && decide (I.2.1.cls ≠ "java/lang/invoke/VarHandle") && decide ((parseMethodDescriptor I.2.1.desc).map (fun d => d.parameters.length) = some (if I.2.2.2.2.2.2.1 = true then I.2.2.2.2.2.1 else I.2.2.2.2.2.1 - 1)) && decide (I.2.2.2.2.2.2.1 = true ∨ 0 < I.2.2.2.2.2.1) && decide (I.2.2.2.1 ≤ 40) && decide (nth I.2.2.2.2.2.2.2.2 0 = some 0)
def okM (I : mI) : Bool := okH I && okL I I.2.2.2.2.2.2.2.1 I.2.2.2.2.2.2.2.2
end
section
set_option maxRecDepth 100000 in
theorem ok_0 : okM mi_0 = true := by decide +kernel
set_option maxRecDepth 100000 in
theorem ok_1 : okM mi_1 = true := by decide +kernel
set_option maxRecDepth 100000 in
theorem ok_2 : okM mi_2 = true := by decide +kernel
set_option maxRecDepth 100000 in
theorem ok_3 : okM mi_3 = true := by decide +kernel
set_option maxRecDepth 100000 in
theorem ok_4 : okM mi_4 = true := by decide +kernel
set_option maxRecDepth 100000 in
theorem ok_5 : okM mi_5 = true := by decide +kernel
set_option maxRecDepth 100000 in
theorem ok_6 : okM mi_6 = true := by decide +kernel
set_option maxRecDepth 100000 in
theorem ok_7 : okM mi_7 = true := by decide +kernel
set_option maxRecDepth 100000 in
theorem ok_8 : okM mi_8 = true := by decide +kernel
set_option maxRecDepth 100000 in
theorem ok_9 : okM mi_9 = true := by decide +kernel
set_option maxRecDepth 100000 in
theorem ok_10 : okM mi_10 = true := by decide +kernel
set_option maxRecDepth 100000 in
theorem ok_11 : okM mi_11 = true := by decide +kernel
set_option maxRecDepth 100000 in
theorem ok_12 : okM mi_12 = true := by decide +kernel
set_option maxRecDepth 100000 in
theorem ok_13 : okM mi_13 = true := by decide +kernel
set_option maxRecDepth 100000 in
theorem ok_14 : okM mi_14 = true := by decide +kernel
set_option maxRecDepth 100000 in
theorem ok_15 : okM mi_15 = true := by decide +kernel
set_option maxRecDepth 100000 in
theorem ok_16 : okM mi_16 = true := by decide +kernel
set_option maxRecDepth 100000 in
theorem ok_17 : okM mi_17 = true := by decide +kernel
set_option maxRecDepth 100000 in
theorem ok_18 : okM mi_18 = true := by decide +kernel
set_option maxRecDepth 100000 in
theorem ok_19 : okM mi_19 = true := by decide +kernel
set_option maxRecDepth 100000 in
theorem ok_20 : okM mi_20 = true := by decide +kernel
set_option maxRecDepth 100000 in
theorem ok_21 : okM mi_21 = true := by decide +kernel
set_option maxRecDepth 100000 in
theorem ok_22 : okM mi_22 = true := by decide +kernel
set_option maxRecDepth 100000 in
theorem ok_23 : okM mi_23 = true := by decide +kernel
set_option maxRecDepth 100000 in
theorem ok_24 : okM mi_24 = true := by decide +kernel
set_option maxRecDepth 100000 in
theorem ok_25 : okM mi_25 = true := by decide +kernel
set_option maxRecDepth 100000 in
theorem ok_26 : okM mi_26 = true := by decide +kernel
set_option maxRecDepth 100000 in
theorem ok_27 : okM mi_27 = true := by decide +kernel
set_option maxRecDepth 100000 in
theorem ok_28 : okM mi_28 = true := by decide +kernel
set_option maxRecDepth 100000 in
theorem ok_29 : okM mi_29 = true := by decide +kernel
set_option maxRecDepth 100000 in
theorem ok_30 : okM mi_30 = true := by decide +kernel
set_option maxRecDepth 100000 in
theorem ok_31 : okM mi_31 = true := by decide +kernel
set_option maxRecDepth 100000 in
theorem ok_32 : okM mi_32 = true := by decide +kernel
set_option maxRecDepth 100000 in
theorem ok_33 : okM mi_33 = true := by decide +kernel
set_option maxRecDepth 100000 in
theorem ok_34 : okM mi_34 = true := by decide +kernel
set_option maxRecDepth 100000 in
theorem ok_35 : okM mi_35 = true := by decide +kernel
end
section
set_option maxRecDepth 100000 in
theorem ok_36 : okM mi_36 = true := by decide +kernel
set_option maxRecDepth 100000 in
theorem ok_37 : okM mi_37 = true := by decide +kernel
set_option maxRecDepth 100000 in
theorem ok_38 : okM mi_38 = true := by decide +kernel
set_option maxRecDepth 100000 in
theorem ok_39 : okM mi_39 = true := by decide +kernel
set_option maxRecDepth 100000 in
theorem ok_40 : okM mi_40 = true := by decide +kernel
set_option maxRecDepth 100000 in
theorem ok_41 : okM mi_41 = true := by decide +kernel
set_option maxRecDepth 100000 in
theorem ok_42 : okM mi_42 = true := by decide +kernel
set_option maxRecDepth 100000 in
theorem ok_43 : okM mi_43 = true := by decide +kernel
set_option maxRecDepth 100000 in
theorem ok_44 : okM mi_44 = true := by decide +kernel
set_option maxRecDepth 100000 in
theorem ok_45 : okM mi_45 = true := by decide +kernel
set_option maxRecDepth 100000 in
theorem ok_46 : okM mi_46 = true := by decide +kernel
set_option maxRecDepth 100000 in
theorem ok_47 : okM mi_47 = true := by decide +kernel
set_option maxRecDepth 100000 in
theorem ok_48 : okM mi_48 = true := by decide +kernel
set_option maxRecDepth 100000 in
theorem ok_49 : okM mi_49 = true := by decide +kernel
set_option maxRecDepth 100000 in
theorem ok_50 : okM mi_50 = true := by decide +kernel
set_option maxRecDepth 100000 in
theorem ok_51 : okM mi_51 = true := by decide +kernel
set_option maxRecDepth 100000 in
theorem ok_52 : okM mi_52 = true := by decide +kernel
set_option maxRecDepth 100000 in
theorem ok_53 : okM mi_53 = true := by decide +kernel
set_option maxRecDepth 100000 in
theorem ok_54 : okM mi_54 = true := by decide +kernel
set_option maxRecDepth 100000 in
theorem ok_55 : okM mi_55 = true := by decide +kernel
set_option maxRecDepth 100000 in
theorem ok_56 : okM mi_56 = true := by decide +kernel
set_option maxRecDepth 100000 in
theorem ok_57 : okM mi_57 = true := by decide +kernel
set_option maxRecDepth 100000 in
theorem ok_58 : okM mi_58 = true := by decide +kernel
set_option maxRecDepth 100000 in
theorem ok_59 : okM mi_59 = true := by decide +kernel
set_option maxRecDepth 100000 in
theorem ok_60 : okM mi_60 = true := by decide +kernel
set_option maxRecDepth 100000 in
theorem ok_61 : okM mi_61 = true := by decide +kernel
end
section
set_option maxRecDepth 100000 in
theorem ok_62 : okM mi_62 = true := by decide +kernel
set_option maxRecDepth 100000 in
theorem ok_63 : okM mi_63 = true := by decide +kernel
set_option maxRecDepth 100000 in
theorem ok_64 : okM mi_64 = true := by decide +kernel
set_option maxRecDepth 100000 in
theorem ok_65 : okM mi_65 = true := by decide +kernel
set_option maxRecDepth 100000 in
theorem ok_66 : okM mi_66 = true := by decide +kernel
set_option maxRecDepth 100000 in
theorem ok_67 : okM mi_67 = true := by decide +kernel
set_option maxRecDepth 100000 in
theorem ok_68 : okM mi_68 = true := by decide +kernel
set_option maxRecDepth 100000 in
theorem ok_69 : okM mi_69 = true := by decide +kernel
set_option maxRecDepth 100000 in
theorem ok_70 : okM mi_70 = true := by decide +kernel
set_option maxRecDepth 100000 in
theorem ok_71 : okM mi_71 = true := by decide +kernel
set_option maxRecDepth 100000 in
theorem ok_72 : okM mi_72 = true := by decide +kernel
set_option maxRecDepth 100000 in
theorem ok_73 : okM mi_73 = true := by decide +kernel
set_option maxRecDepth 100000 in
theorem ok_74 : okM mi_74 = true := by decide +kernel
set_option maxRecDepth 100000 in
theorem ok_75 : okM mi_75 = true := by decide +kernel
set_option maxRecDepth 100000 in
theorem ok_76 : okM mi_76 = true := by decide +kernel
set_option maxRecDepth 100000 in
theorem ok_77 : okM mi_77 = true := by decide +kernel
set_option maxRecDepth 100000 in
theorem ok_78 : okM mi_78 = true := by decide +kernel
set_option maxRecDepth 100000 in
theorem ok_79 : okM mi_79 = true := by decide +kernel
set_option maxRecDepth 100000 in
theorem ok_80 : okM mi_80 = true := by decide +kernel
set_option maxRecDepth 100000 in
theorem ok_81 : okM mi_81 = true := by decide +kernel
set_option maxRecDepth 100000 in
theorem ok_82 : okM mi_82 = true := by decide +kernel
set_option maxRecDepth 100000 in
theorem ok_83 : okM mi_83 = true := by decide +kernel
set_option maxRecDepth 100000 in
theorem ok_84 : okM mi_84 = true := by decide +kernel
set_option maxRecDepth 100000 in
theorem ok_85 : okM mi_85 = true := by decide +kernel
set_option maxRecDepth 100000 in
theorem ok_86 : okM mi_86 = true := by decide +kernel
set_option maxRecDepth 100000 in
theorem ok_87 : okM mi_87 = true := by decide +kernel
end
section
set_option maxRecDepth 100000 in
theorem ok_88 : okM mi_88 = true := by decide +kernel
set_option maxRecDepth 100000 in
theorem ok_89 : okM mi_89 = true := by decide +kernel
set_option maxRecDepth 100000 in
theorem ok_90 : okM mi_90 = true := by decide +kernel
set_option maxRecDepth 100000 in
theorem ok_91 : okM mi_91 = true := by decide +kernel
set_option maxRecDepth 100000 in
theorem ok_92 : okM mi_92 = true := by decide +kernel
set_option maxRecDepth 100000 in
theorem ok_93 : okM mi_93 = true := by decide +kernel
set_option maxRecDepth 100000 in
theorem ok_94 : okM mi_94 = true := by decide +kernel
set_option maxRecDepth 100000 in
theorem ok_95 : okM mi_95 = true := by decide +kernel
set_option maxRecDepth 100000 in
theorem ok_96 : okM mi_96 = true := by decide +kernel
set_option maxRecDepth 100000 in
theorem ok_97 : okM mi_97 = true := by decide +kernel
set_option maxRecDepth 100000 in
theorem ok_98 : okM mi_98 = true := by decide +kernel
set_option maxRecDepth 100000 in
theorem ok_99 : okM mi_99 = true := by decide +kernel
set_option maxRecDepth 100000 in
theorem ok_100 : okM mi_100 = true := by decide +kernel
set_option maxRecDepth 100000 in
theorem ok_101 : okM mi_101 = true := by decide +kernel
set_option maxRecDepth 100000 in
theorem ok_102 : okM mi_102 = true := by decide +kernel
set_option maxRecDepth 100000 in
theorem ok_103 : okM mi_103 = true := by decide +kernel
set_option maxRecDepth 100000 in
theorem ok_104 : okM mi_104 = true := by decide +kernel
set_option maxRecDepth 100000 in
theorem ok_105 : okM mi_105 = true := by decide +kernel
set_option maxRecDepth 100000 in
theorem ok_106 : okM mi_106 = true := by decide +kernel
set_option maxRecDepth 100000 in
theorem ok_107 : okM mi_107 = true := by decide +kernel
set_option maxRecDepth 100000 in
theorem ok_108 : okM mi_108 = true := by decide +kernel
set_option maxRecDepth 100000 in
theorem ok_109 : okM mi_109 = true := by decide +kernel
set_option maxRecDepth 100000 in
theorem ok_110 : okM mi_110 = true := by decide +kernel
set_option maxRecDepth 100000 in
theorem ok_111 : okM mi_111 = true := by decide +kernel
set_option maxRecDepth 100000 in
theorem ok_112 : okM mi_112 = true := by decide +kernel
set_option maxRecDepth 100000 in
theorem ok_113 : okM mi_113 = true := by decide +kernel
set_option maxRecDepth 100000 in
theorem ok_114 : okM mi_114 = true := by decide +kernel
set_option maxRecDepth 100000 in
theorem ok_115 : okM mi_115 = true := by decide +kernel
set_option maxRecDepth 100000 in
theorem ok_116 : okM mi_116 = true := by decide +kernel
set_option maxRecDepth 100000 in
theorem ok_117 : okM mi_117 = true := by decide +kernel
set_option maxRecDepth 100000 in
theorem ok_118 : okM mi_118 = true := by decide +kernel
set_option maxRecDepth 100000 in
theorem ok_119 : okM mi_119 = true := by decide +kernel
set_option maxRecDepth 100000 in
theorem ok_120 : okM mi_120 = true := by decide +kernel
set_option maxRecDepth 100000 in
theorem ok_121 : okM mi_121 = true := by decide +kernel
set_option maxRecDepth 100000 in
theorem ok_122 : okM mi_122 = true := by decide +kernel
set_option maxRecDepth 100000 in
theorem ok_123 : okM mi_123 = true := by decide +kernel
end
section
set_option maxRecDepth 100000 in
theorem ok_124 : okM mi_124 = true := by decide +kernel
set_option maxRecDepth 100000 in
theorem ok_125 : okM mi_125 = true := by decide +kernel
set_option maxRecDepth 100000 in
theorem ok_126 : okM mi_126 = true := by decide +kernel
set_option maxRecDepth 100000 in
theorem ok_127 : okM mi_127 = true := by decide +kernel
set_option maxRecDepth 100000 in
theorem ok_128 : okM mi_128 = true := by decide +kernel
set_option maxRecDepth 100000 in
theorem ok_129 : okM mi_129 = true := by decide +kernel
set_option maxRecDepth 100000 in
theorem ok_130 : okM mi_130 = true := by decide +kernel
set_option maxRecDepth 100000 in
theorem ok_131 : okM mi_131 = true := by decide +kernel
set_option maxRecDepth 100000 in
theorem ok_132 : okM mi_132 = true := by decide +kernel
set_option maxRecDepth 100000 in
theorem ok_133 : okM mi_133 = true := by decide +kernel
set_option maxRecDepth 100000 in
theorem ok_134 : okM mi_134 = true := by decide +kernel
set_option maxRecDepth 100000 in
theorem ok_135 : okM mi_135 = true := by decide +kernel
set_option maxRecDepth 100000 in
theorem ok_136 : okM mi_136 = true := by decide +kernel
set_option maxRecDepth 100000 in
theorem ok_137 : okM mi_137 = true := by decide +kernel
set_option maxRecDepth 100000 in
theorem ok_138 : okM mi_138 = true := by decide +kernel
set_option maxRecDepth 100000 in
theorem ok_139 : okM mi_139 = true := by decide +kernel
set_option maxRecDepth 100000 in
theorem ok_140 : okM mi_140 = true := by decide +kernel
set_option maxRecDepth 100000 in
theorem ok_141 : okM mi_141 = true := by decide +kernel
set_option maxRecDepth 100000 in
theorem ok_142 : okM mi_142 = true := by decide +kernel
set_option maxRecDepth 100000 in
theorem ok_143 : okM mi_143 = true := by decide +kernel
set_option maxRecDepth 100000 in
theorem ok_144 : okM mi_144 = true := by decide +kernel
set_option maxRecDepth 100000 in
theorem ok_145 : okM mi_145 = true := by decide +kernel
set_option maxRecDepth 100000 in
theorem ok_146 : okM mi_146 = true := by decide +kernel
set_option maxRecDepth 100000 in
theorem ok_147 : okM mi_147 = true := by decide +kernel
set_option maxRecDepth 100000 in
theorem ok_148 : okM mi_148 = true := by decide +kernel
end
section
set_option maxRecDepth 100000 in
theorem ok_149 : okM mi_149 = true := by decide +kernel
set_option maxRecDepth 100000 in
theorem ok_150 : okM mi_150 = true := by decide +kernel
set_option maxRecDepth 100000 in
theorem ok_151 : okM mi_151 = true := by decide +kernel
set_option maxRecDepth 100000 in
theorem ok_152 : okM mi_152 = true := by decide +kernel
set_option maxRecDepth 100000 in
theorem ok_153 : okM mi_153 = true := by decide +kernel
set_option maxRecDepth 100000 in
theorem ok_154 : okM mi_154 = true := by decide +kernel
set_option maxRecDepth 100000 in
theorem ok_155 : okM mi_155 = true := by decide +kernel
set_option maxRecDepth 100000 in
theorem ok_156 : okM mi_156 = true := by decide +kernel
set_option maxRecDepth 100000 in
theorem ok_157 : okM mi_157 = true := by decide +kernel
set_option maxRecDepth 100000 in
theorem ok_158 : okM mi_158 = true := by decide +kernel
set_option maxRecDepth 100000 in
theorem ok_159 : okM mi_159 = true := by decide +kernel
set_option maxRecDepth 100000 in
theorem ok_160 : okM mi_160 = true := by decide +kernel
set_option maxRecDepth 100000 in
theorem ok_161 : okM mi_161 = true := by decide +kernel
set_option maxRecDepth 100000 in
theorem ok_162 : okM mi_162 = true := by decide +kernel
set_option maxRecDepth 100000 in
theorem ok_163 : okM mi_163 = true := by decide +kernel
set_option maxRecDepth 100000 in
theorem ok_164 : okM mi_164 = true := by decide +kernel
set_option maxRecDepth 100000 in
theorem ok_165 : okM mi_165 = true := by decide +kernel
set_option maxRecDepth 100000 in
theorem ok_166 : okM mi_166 = true := by decide +kernel
set_option maxRecDepth 100000 in
theorem ok_167 : okM mi_167 = true := by decide +kernel
set_option maxRecDepth 100000 in
theorem ok_168 : okM mi_168 = true := by decide +kernel
set_option maxRecDepth 100000 in
theorem ok_169 : okM mi_169 = true := by decide +kernel
set_option maxRecDepth 100000 in
theorem ok_170 : okM mi_170 = true := by decide +kernel
set_option maxRecDepth 100000 in
theorem ok_171 : okM mi_171 = true := by decide +kernel
set_option maxRecDepth 100000 in
theorem ok_172 : okM mi_172 = true := by decide +kernel
set_option maxRecDepth 100000 in
theorem ok_173 : okM mi_173 = true := by decide +kernel
set_option maxRecDepth 100000 in
theorem ok_174 : okM mi_174 = true := by decide +kernel
set_option maxRecDepth 100000 in
theorem ok_175 : okM mi_175 = true := by decide +kernel
set_option maxRecDepth 100000 in
theorem ok_176 : okM mi_176 = true := by decide +kernel
end
section
set_option maxRecDepth 100000 in
theorem ok_177 : okM mi_177 = true := by decide +kernel
set_option maxRecDepth 100000 in
theorem ok_178 : okM mi_178 = true := by decide +kernel
set_option maxRecDepth 100000 in
theorem ok_179 : okM mi_179 = true := by decide +kernel
set_option maxRecDepth 100000 in
theorem ok_180 : okM mi_180 = true := by decide +kernel
set_option maxRecDepth 100000 in
theorem ok_181 : okM mi_181 = true := by decide +kernel
set_option maxRecDepth 100000 in
theorem ok_182 : okM mi_182 = true := by decide +kernel
set_option maxRecDepth 100000 in
theorem ok_183 : okM mi_183 = true := by decide +kernel
set_option maxRecDepth 100000 in
theorem ok_184 : okM mi_184 = true := by decide +kernel
set_option maxRecDepth 100000 in
theorem ok_185 : okM mi_185 = true := by decide +kernel
set_option maxRecDepth 100000 in
theorem ok_186 : okM mi_186 = true := by decide +kernel
set_option maxRecDepth 100000 in
theorem ok_187 : okM mi_187 = true := by decide +kernel
set_option maxRecDepth 100000 in
theorem ok_188 : okM mi_188 = true := by decide +kernel
set_option maxRecDepth 100000 in
theorem ok_189 : okM mi_189 = true := by decide +kernel
set_option maxRecDepth 100000 in
theorem ok_190 : okM mi_190 = true := by decide +kernel
set_option maxRecDepth 100000 in
theorem ok_191 : okM mi_191 = true := by decide +kernel
set_option maxRecDepth 100000 in
theorem ok_192 : okM mi_192 = true := by decide +kernel
set_option maxRecDepth 100000 in
theorem ok_193 : okM mi_193 = true := by decide +kernel
set_option maxRecDepth 100000 in
theorem ok_194 : okM mi_194 = true := by decide +kernel
set_option maxRecDepth 100000 in
theorem ok_195 : okM mi_195 = true := by decide +kernel
set_option maxRecDepth 100000 in
theorem ok_196 : okM mi_196 = true := by decide +kernel
set_option maxRecDepth 100000 in
theorem ok_197 : okM mi_197 = true := by decide +kernel
end
section
set_option maxRecDepth 100000 in
theorem ok_198 : okM mi_198 = true := by decide +kernel
set_option maxRecDepth 100000 in
theorem ok_199 : okM mi_199 = true := by decide +kernel
set_option maxRecDepth 100000 in
theorem ok_200 : okM mi_200 = true := by decide +kernel
set_option maxRecDepth 100000 in
theorem ok_201 : okM mi_201 = true := by decide +kernel
set_option maxRecDepth 100000 in
theorem ok_202 : okM mi_202 = true := by decide +kernel
set_option maxRecDepth 100000 in
theorem ok_203 : okM mi_203 = true := by decide +kernel
set_option maxRecDepth 100000 in
theorem ok_204 : okM mi_204 = true := by decide +kernel
set_option maxRecDepth 100000 in
theorem ok_205 : okM mi_205 = true := by decide +kernel
set_option maxRecDepth 100000 in
theorem ok_206 : okM mi_206 = true := by decide +kernel
set_option maxRecDepth 100000 in
theorem ok_207 : okM mi_207 = true := by decide +kernel
set_option maxRecDepth 100000 in
theorem ok_208 : okM mi_208 = true := by decide +kernel
set_option maxRecDepth 100000 in
theorem ok_209 : okM mi_209 = true := by decide +kernel
set_option maxRecDepth 100000 in
theorem ok_210 : okM mi_210 = true := by decide +kernel
set_option maxRecDepth 100000 in
theorem ok_211 : okM mi_211 = true := by decide +kernel
set_option maxRecDepth 100000 in
theorem ok_212 : okM mi_212 = true := by decide +kernel
set_option maxRecDepth 100000 in
theorem ok_213 : okM mi_213 = true := by decide +kernel
set_option maxRecDepth 100000 in
theorem ok_214 : okM mi_214 = true := by decide +kernel
set_option maxRecDepth 100000 in
theorem ok_215 : okM mi_215 = true := by decide +kernel
end
section
set_option maxRecDepth 100000 in
theorem ok_216 : okM mi_216 = true := by decide +kernel
set_option maxRecDepth 100000 in
theorem ok_217 : okM mi_217 = true := by decide +kernel
set_option maxRecDepth 100000 in
theorem ok_218 : okM mi_218 = true := by decide +kernel
set_option maxRecDepth 100000 in
theorem ok_219 : okM mi_219 = true := by decide +kernel
set_option maxRecDepth 100000 in
theorem ok_220 : okM mi_220 = true := by decide +kernel
set_option maxRecDepth 100000 in
theorem ok_221 : okM mi_221 = true := by decide +kernel
set_option maxRecDepth 100000 in
theorem ok_222 : okM mi_222 = true := by decide +kernel
set_option maxRecDepth 100000 in
theorem ok_223 : okM mi_223 = true := by decide +kernel
set_option maxRecDepth 100000 in
theorem ok_224 : okM mi_224 = true := by decide +kernel
set_option maxRecDepth 100000 in
theorem ok_225 : okM mi_225 = true := by decide +kernel
set_option maxRecDepth 100000 in
theorem ok_226 : okM mi_226 = true := by decide +kernel
set_option maxRecDepth 100000 in
theorem ok_227 : okM mi_227 = true := by decide +kernel
set_option maxRecDepth 100000 in
theorem ok_228 : okM mi_228 = true := by decide +kernel
set_option maxRecDepth 100000 in
theorem ok_229 : okM mi_229 = true := by decide +kernel
end
section
set_option maxRecDepth 100000 in
theorem okl_0 : okLc mi_230 (some 262) lwc_0 lwp_0 = true := by decide +kernel
end
section
set_option maxRecDepth 100000 in
theorem okl_1 : okLc mi_230 (some 320) lwc_1 lwp_1 = true := by decide +kernel
end
section
set_option maxRecDepth 100000 in
theorem okl_2 : okLc mi_230 (some 380) lwc_2 lwp_2 = true := by decide +kernel
end
section
set_option maxRecDepth 100000 in
theorem okl_3 : okLc mi_230 (some 438) lwc_3 lwp_3 = true := by decide +kernel
end
section
set_option maxRecDepth 100000 in
theorem okl_4 : okLc mi_230 (some 500) lwc_4 lwp_4 = true := by decide +kernel
end
section
set_option maxRecDepth 100000 in
theorem okl_5 : okLc mi_230 (some 566) lwc_5 lwp_5 = true := by decide +kernel
end
section
set_option maxRecDepth 100000 in
theorem okl_6 : okLc mi_230 (some 624) lwc_6 lwp_6 = true := by decide +kernel
end
section
set_option maxRecDepth 100000 in
theorem okl_7 : okLc mi_230 (some 690) lwc_7 lwp_7 = true := by decide +kernel
end
section
set_option maxRecDepth 100000 in
theorem okl_8 : okLc mi_230 (some 758) lwc_8 lwp_8 = true := by decide +kernel
end
section
set_option maxRecDepth 100000 in
theorem okl_9 : okLc mi_230 (some 826) lwc_9 lwp_9 = true := by decide +kernel
end
section
set_option maxRecDepth 100000 in
theorem okl_10 : okLc mi_230 (some 892) lwc_10 lwp_10 = true := by decide +kernel
end
section
set_option maxRecDepth 100000 in
theorem okl_11 : okLc mi_230 (some 958) lwc_11 lwp_11 = true := by decide +kernel
end
section
set_option maxRecDepth 100000 in
theorem okl_12 : okLc mi_230 (some 1036) lwc_12 lwp_12 = true := by decide +kernel
end
section
set_option maxRecDepth 100000 in
theorem okl_13 : okLc mi_230 (some 1104) lwc_13 lwp_13 = true := by decide +kernel
end
section
set_option maxRecDepth 100000 in
theorem okl_14 : okLc mi_230 (some 1166) lwc_14 lwp_14 = true := by decide +kernel
end
section
set_option maxRecDepth 100000 in
theorem okl_15 : okLc mi_230 (some 1228) lwc_15 lwp_15 = true := by decide +kernel
end
section
set_option maxRecDepth 100000 in
theorem okl_16 : okLc mi_230 (some 1304) lwc_16 lwp_16 = true := by decide +kernel
end
section
set_option maxRecDepth 100000 in
theorem okl_17 : okLc mi_230 (none) lwc_17 lwp_17 = true := by decide +kernel
end
section
theorem ok_row (r : List mI) (h : r.all okM = true) (k : Nat) (I : mI) (e : nth r k = some I) : okM I = true := by
  induction r generalizing k with
  | nil => cases e
  | cons a l ih =>
    rw [List.all_cons, Bool.and_eq_true] at h
    cases k with
    | zero => cases e; exact h.1
    | succ k => exact ih h.2 k e
theorem okLc_app {I : mI} (a : List mO) (b : List mO) (pa pb : List Nat) (nxt : Option Nat) (h1 : okLc I nxt a pa = true) (h2 : okL I b pb = true) (hn : nxt = nth pb 0) : okL I (a ++ b) (pa ++ pb) = true := by
  induction a generalizing pa with
  | nil =>
    cases pa with
    | nil => exact h2
    | cons => cases h1
  | cons o os ih =>
    cases pa with
    | nil => cases h1
    | cons pc pcs =>
      rw [okLc, Bool.and_eq_true] at h1
      show (okB I pc (nth (pcs ++ pb) 0) o.1 o.2 && okL I (os ++ b) (pcs ++ pb)) = true
      rw [Bool.and_eq_true]
      refine ⟨?_, ih pcs h1.2⟩
      cases pcs with
      | nil =>
        have h3 := h1.1
        rw [hn] at h3
        exact h3
      | cons x xs => exact h1.1
theorem okLc_end {I : mI} (a : List mO) (pa : List Nat) (h1 : okLc I none a pa = true) : okL I a pa = true := by
  have h := okLc_app a [] pa [] none h1 rfl rfl
  rw [List.append_nil, List.append_nil] at h
  exact h
theorem okh_230 : okH mi_230 = true := by decide +kernel
theorem okr_17 : okL mi_230 (lwc_17) (lwp_17) = true := okLc_end _ _ okl_17
theorem okr_16 : okL mi_230 (lwc_16 ++ (lwc_17)) (lwp_16 ++ (lwp_17)) = true := okLc_app _ _ _ _ _ okl_16 okr_17 rfl
theorem okr_15 : okL mi_230 (lwc_15 ++ (lwc_16 ++ (lwc_17))) (lwp_15 ++ (lwp_16 ++ (lwp_17))) = true := okLc_app _ _ _ _ _ okl_15 okr_16 rfl
theorem okr_14 : okL mi_230 (lwc_14 ++ (lwc_15 ++ (lwc_16 ++ (lwc_17)))) (lwp_14 ++ (lwp_15 ++ (lwp_16 ++ (lwp_17)))) = true := okLc_app _ _ _ _ _ okl_14 okr_15 rfl
theorem okr_13 : okL mi_230 (lwc_13 ++ (lwc_14 ++ (lwc_15 ++ (lwc_16 ++ (lwc_17))))) (lwp_13 ++ (lwp_14 ++ (lwp_15 ++ (lwp_16 ++ (lwp_17))))) = true := okLc_app _ _ _ _ _ okl_13 okr_14 rfl
theorem okr_12 : okL mi_230 (lwc_12 ++ (lwc_13 ++ (lwc_14 ++ (lwc_15 ++ (lwc_16 ++ (lwc_17)))))) (lwp_12 ++ (lwp_13 ++ (lwp_14 ++ (lwp_15 ++ (lwp_16 ++ (lwp_17)))))) = true := okLc_app _ _ _ _ _ okl_12 okr_13 rfl
theorem okr_11 : okL mi_230 (lwc_11 ++ (lwc_12 ++ (lwc_13 ++ (lwc_14 ++ (lwc_15 ++ (lwc_16 ++ (lwc_17))))))) (lwp_11 ++ (lwp_12 ++ (lwp_13 ++ (lwp_14 ++ (lwp_15 ++ (lwp_16 ++ (lwp_17))))))) = true := okLc_app _ _ _ _ _ okl_11 okr_12 rfl
theorem okr_10 : okL mi_230 (lwc_10 ++ (lwc_11 ++ (lwc_12 ++ (lwc_13 ++ (lwc_14 ++ (lwc_15 ++ (lwc_16 ++ (lwc_17)))))))) (lwp_10 ++ (lwp_11 ++ (lwp_12 ++ (lwp_13 ++ (lwp_14 ++ (lwp_15 ++ (lwp_16 ++ (lwp_17)))))))) = true := okLc_app _ _ _ _ _ okl_10 okr_11 rfl
theorem okr_9 : okL mi_230 (lwc_9 ++ (lwc_10 ++ (lwc_11 ++ (lwc_12 ++ (lwc_13 ++ (lwc_14 ++ (lwc_15 ++ (lwc_16 ++ (lwc_17))))))))) (lwp_9 ++ (lwp_10 ++ (lwp_11 ++ (lwp_12 ++ (lwp_13 ++ (lwp_14 ++ (lwp_15 ++ (lwp_16 ++ (lwp_17))))))))) = true := okLc_app _ _ _ _ _ okl_9 okr_10 rfl
theorem okr_8 : okL mi_230 (lwc_8 ++ (lwc_9 ++ (lwc_10 ++ (lwc_11 ++ (lwc_12 ++ (lwc_13 ++ (lwc_14 ++ (lwc_15 ++ (lwc_16 ++ (lwc_17)))))))))) (lwp_8 ++ (lwp_9 ++ (lwp_10 ++ (lwp_11 ++ (lwp_12 ++ (lwp_13 ++ (lwp_14 ++ (lwp_15 ++ (lwp_16 ++ (lwp_17)))))))))) = true := okLc_app _ _ _ _ _ okl_8 okr_9 rfl
theorem okr_7 : okL mi_230 (lwc_7 ++ (lwc_8 ++ (lwc_9 ++ (lwc_10 ++ (lwc_11 ++ (lwc_12 ++ (lwc_13 ++ (lwc_14 ++ (lwc_15 ++ (lwc_16 ++ (lwc_17))))))))))) (lwp_7 ++ (lwp_8 ++ (lwp_9 ++ (lwp_10 ++ (lwp_11 ++ (lwp_12 ++ (lwp_13 ++ (lwp_14 ++ (lwp_15 ++ (lwp_16 ++ (lwp_17))))))))))) = true := okLc_app _ _ _ _ _ okl_7 okr_8 rfl
theorem okr_6 : okL mi_230 (lwc_6 ++ (lwc_7 ++ (lwc_8 ++ (lwc_9 ++ (lwc_10 ++ (lwc_11 ++ (lwc_12 ++ (lwc_13 ++ (lwc_14 ++ (lwc_15 ++ (lwc_16 ++ (lwc_17)))))))))))) (lwp_6 ++ (lwp_7 ++ (lwp_8 ++ (lwp_9 ++ (lwp_10 ++ (lwp_11 ++ (lwp_12 ++ (lwp_13 ++ (lwp_14 ++ (lwp_15 ++ (lwp_16 ++ (lwp_17)))))))))))) = true := okLc_app _ _ _ _ _ okl_6 okr_7 rfl
theorem okr_5 : okL mi_230 (lwc_5 ++ (lwc_6 ++ (lwc_7 ++ (lwc_8 ++ (lwc_9 ++ (lwc_10 ++ (lwc_11 ++ (lwc_12 ++ (lwc_13 ++ (lwc_14 ++ (lwc_15 ++ (lwc_16 ++ (lwc_17))))))))))))) (lwp_5 ++ (lwp_6 ++ (lwp_7 ++ (lwp_8 ++ (lwp_9 ++ (lwp_10 ++ (lwp_11 ++ (lwp_12 ++ (lwp_13 ++ (lwp_14 ++ (lwp_15 ++ (lwp_16 ++ (lwp_17))))))))))))) = true := okLc_app _ _ _ _ _ okl_5 okr_6 rfl
theorem okr_4 : okL mi_230 (lwc_4 ++ (lwc_5 ++ (lwc_6 ++ (lwc_7 ++ (lwc_8 ++ (lwc_9 ++ (lwc_10 ++ (lwc_11 ++ (lwc_12 ++ (lwc_13 ++ (lwc_14 ++ (lwc_15 ++ (lwc_16 ++ (lwc_17)))))))))))))) (lwp_4 ++ (lwp_5 ++ (lwp_6 ++ (lwp_7 ++ (lwp_8 ++ (lwp_9 ++ (lwp_10 ++ (lwp_11 ++ (lwp_12 ++ (lwp_13 ++ (lwp_14 ++ (lwp_15 ++ (lwp_16 ++ (lwp_17)))))))))))))) = true := okLc_app _ _ _ _ _ okl_4 okr_5 rfl
theorem okr_3 : okL mi_230 (lwc_3 ++ (lwc_4 ++ (lwc_5 ++ (lwc_6 ++ (lwc_7 ++ (lwc_8 ++ (lwc_9 ++ (lwc_10 ++ (lwc_11 ++ (lwc_12 ++ (lwc_13 ++ (lwc_14 ++ (lwc_15 ++ (lwc_16 ++ (lwc_17))))))))))))))) (lwp_3 ++ (lwp_4 ++ (lwp_5 ++ (lwp_6 ++ (lwp_7 ++ (lwp_8 ++ (lwp_9 ++ (lwp_10 ++ (lwp_11 ++ (lwp_12 ++ (lwp_13 ++ (lwp_14 ++ (lwp_15 ++ (lwp_16 ++ (lwp_17))))))))))))))) = true := okLc_app _ _ _ _ _ okl_3 okr_4 rfl
theorem okr_2 : okL mi_230 (lwc_2 ++ (lwc_3 ++ (lwc_4 ++ (lwc_5 ++ (lwc_6 ++ (lwc_7 ++ (lwc_8 ++ (lwc_9 ++ (lwc_10 ++ (lwc_11 ++ (lwc_12 ++ (lwc_13 ++ (lwc_14 ++ (lwc_15 ++ (lwc_16 ++ (lwc_17)))))))))))))))) (lwp_2 ++ (lwp_3 ++ (lwp_4 ++ (lwp_5 ++ (lwp_6 ++ (lwp_7 ++ (lwp_8 ++ (lwp_9 ++ (lwp_10 ++ (lwp_11 ++ (lwp_12 ++ (lwp_13 ++ (lwp_14 ++ (lwp_15 ++ (lwp_16 ++ (lwp_17)))))))))))))))) = true := okLc_app _ _ _ _ _ okl_2 okr_3 rfl
theorem okr_1 : okL mi_230 (lwc_1 ++ (lwc_2 ++ (lwc_3 ++ (lwc_4 ++ (lwc_5 ++ (lwc_6 ++ (lwc_7 ++ (lwc_8 ++ (lwc_9 ++ (lwc_10 ++ (lwc_11 ++ (lwc_12 ++ (lwc_13 ++ (lwc_14 ++ (lwc_15 ++ (lwc_16 ++ (lwc_17))))))))))))))))) (lwp_1 ++ (lwp_2 ++ (lwp_3 ++ (lwp_4 ++ (lwp_5 ++ (lwp_6 ++ (lwp_7 ++ (lwp_8 ++ (lwp_9 ++ (lwp_10 ++ (lwp_11 ++ (lwp_12 ++ (lwp_13 ++ (lwp_14 ++ (lwp_15 ++ (lwp_16 ++ (lwp_17))))))))))))))))) = true := okLc_app _ _ _ _ _ okl_1 okr_2 rfl
theorem okr_0 : okL mi_230 (lwc_0 ++ (lwc_1 ++ (lwc_2 ++ (lwc_3 ++ (lwc_4 ++ (lwc_5 ++ (lwc_6 ++ (lwc_7 ++ (lwc_8 ++ (lwc_9 ++ (lwc_10 ++ (lwc_11 ++ (lwc_12 ++ (lwc_13 ++ (lwc_14 ++ (lwc_15 ++ (lwc_16 ++ (lwc_17)))))))))))))))))) (lwp_0 ++ (lwp_1 ++ (lwp_2 ++ (lwp_3 ++ (lwp_4 ++ (lwp_5 ++ (lwp_6 ++ (lwp_7 ++ (lwp_8 ++ (lwp_9 ++ (lwp_10 ++ (lwp_11 ++ (lwp_12 ++ (lwp_13 ++ (lwp_14 ++ (lwp_15 ++ (lwp_16 ++ (lwp_17)))))))))))))))))) = true := okLc_app _ _ _ _ _ okl_0 okr_1 rfl
set_option maxRecDepth 100000 in
theorem ok_230 : okM mi_230 = true := by
  unfold okM
  rw [okh_230, Bool.true_and]
  exact okr_0
theorem ok_g0 : mg_0.all okM = true := by
  unfold mg_0
  simp only [List.all_cons, List.all_nil, ok_0, ok_1, ok_2, ok_3, ok_4, ok_5, ok_6, ok_7, ok_8, ok_9, ok_10, ok_11, ok_12, ok_13, ok_14, ok_15, Bool.and_self]
theorem ok_g1 : mg_1.all okM = true := by
  unfold mg_1
  simp only [List.all_cons, List.all_nil, ok_16, ok_17, ok_18, ok_19, ok_20, ok_21, ok_22, ok_23, ok_24, ok_25, ok_26, ok_27, ok_28, ok_29, ok_30, ok_31, Bool.and_self]
theorem ok_g2 : mg_2.all okM = true := by
  unfold mg_2
  simp only [List.all_cons, List.all_nil, ok_32, ok_33, ok_34, ok_35, ok_36, ok_37, ok_38, ok_39, ok_40, ok_41, ok_42, ok_43, ok_44, ok_45, ok_46, ok_47, Bool.and_self]
theorem ok_g3 : mg_3.all okM = true := by
  unfold mg_3
  simp only [List.all_cons, List.all_nil, ok_48, ok_49, ok_50, ok_51, ok_52, ok_53, ok_54, ok_55, ok_56, ok_57, ok_58, ok_59, ok_60, ok_61, ok_62, ok_63, Bool.and_self]
theorem ok_g4 : mg_4.all okM = true := by
  unfold mg_4
  simp only [List.all_cons, List.all_nil, ok_64, ok_65, ok_66, ok_67, ok_68, ok_69, ok_70, ok_71, ok_72, ok_73, ok_74, ok_75, ok_76, ok_77, ok_78, ok_79, Bool.and_self]
theorem ok_g5 : mg_5.all okM = true := by
  unfold mg_5
  simp only [List.all_cons, List.all_nil, ok_80, ok_81, ok_82, ok_83, ok_84, ok_85, ok_86, ok_87, ok_88, ok_89, ok_90, ok_91, ok_92, ok_93, ok_94, ok_95, Bool.and_self]
theorem ok_g6 : mg_6.all okM = true := by
  unfold mg_6
  simp only [List.all_cons, List.all_nil, ok_96, ok_97, ok_98, ok_99, ok_100, ok_101, ok_102, ok_103, ok_104, ok_105, ok_106, ok_107, ok_108, ok_109, ok_110, ok_111, Bool.and_self]
theorem ok_g7 : mg_7.all okM = true := by
  unfold mg_7
  simp only [List.all_cons, List.all_nil, ok_112, ok_113, ok_114, ok_115, ok_116, ok_117, ok_118, ok_119, ok_120, ok_121, ok_122, ok_123, ok_124, ok_125, ok_126, ok_127, Bool.and_self]
theorem ok_g8 : mg_8.all okM = true := by
  unfold mg_8
  simp only [List.all_cons, List.all_nil, ok_128, ok_129, ok_130, ok_131, ok_132, ok_133, ok_134, ok_135, ok_136, ok_137, ok_138, ok_139, ok_140, ok_141, ok_142, ok_143, Bool.and_self]
theorem ok_g9 : mg_9.all okM = true := by
  unfold mg_9
  simp only [List.all_cons, List.all_nil, ok_144, ok_145, ok_146, ok_147, ok_148, ok_149, ok_150, ok_151, ok_152, ok_153, ok_154, ok_155, ok_156, ok_157, ok_158, ok_159, Bool.and_self]
theorem ok_g10 : mg_10.all okM = true := by
  unfold mg_10
  simp only [List.all_cons, List.all_nil, ok_160, ok_161, ok_162, ok_163, ok_164, ok_165, ok_166, ok_167, ok_168, ok_169, ok_170, ok_171, ok_172, ok_173, ok_174, ok_175, Bool.and_self]
theorem ok_g11 : mg_11.all okM = true := by
  unfold mg_11
  simp only [List.all_cons, List.all_nil, ok_176, ok_177, ok_178, ok_179, ok_180, ok_181, ok_182, ok_183, ok_184, ok_185, ok_186, ok_187, ok_188, ok_189, ok_190, ok_191, Bool.and_self]
theorem ok_g12 : mg_12.all okM = true := by
  unfold mg_12
  simp only [List.all_cons, List.all_nil, ok_192, ok_193, ok_194, ok_195, ok_196, ok_197, ok_198, ok_199, ok_200, ok_201, ok_202, ok_203, ok_204, ok_205, ok_206, ok_207, Bool.and_self]
theorem ok_g13 : mg_13.all okM = true := by
  unfold mg_13
  simp only [List.all_cons, List.all_nil, ok_208, ok_209, ok_210, ok_211, ok_212, ok_213, ok_214, ok_215, ok_216, ok_217, ok_218, ok_219, ok_220, ok_221, ok_222, ok_223, Bool.and_self]
theorem ok_g14 : mg_14.all okM = true := by
  unfold mg_14
  simp only [List.all_cons, List.all_nil, ok_224, ok_225, ok_226, ok_227, ok_228, ok_229, ok_230, Bool.and_self]
theorem ok_tab : ∀ r ∈ mTab, r.all okM = true := by
  intro r hr
  unfold mTab at hr
  simp only [List.mem_cons, List.not_mem_nil, or_false] at hr
  rcases hr with rfl | rfl | rfl | rfl | rfl | rfl | rfl | rfl | rfl | rfl | rfl | rfl | rfl | rfl | rfl
  · exact ok_g0
  · exact ok_g1
  · exact ok_g2
  · exact ok_g3
  · exact ok_g4
  · exact ok_g5
  · exact ok_g6
  · exact ok_g7
  · exact ok_g8
  · exact ok_g9
  · exact ok_g10
  · exact ok_g11
  · exact ok_g12
  · exact ok_g13
  · exact ok_g14
theorem nth_mem {α : Type} {l : List α} {k : Nat} {a : α} (h : nth l k = some a) : a ∈ l := by
  induction l generalizing k with
  | nil => cases h
  | cons b l ih =>
    cases k with
    | zero => cases h; exact List.mem_cons_self
    | succ k => exact List.mem_cons_of_mem _ (ih h)
theorem ok_all {t : Nat} {I : mI} (h : mG t = some I) : okM I = true := by
  unfold mG at h
  split at h
  · rename_i r e
    exact ok_row r (ok_tab r (nth_mem e)) _ I h
  · cases h
end
section
/-! what a state of the small machine says of the true one -/
def tv (ad : Nat → Nat → Nat) : mV → Value
  | .inl x => .int x
  | .inr (.inl y) => .long y
  | .inr (.inr r) => va_rf (r.map fun q => ad q.1 q.2)
def mFv (M : mM) (ad : Nat → Nat → Nat) (k i j : Nat) : Value := match mTy k j with
  | .int => .int (M.2.2.1 k i j)
  | .boolean => .int (M.2.2.1 k i j)
  | .long => .long (M.2.2.2 k i j)
  | _ => va_rf ((M.2.1 k i j).map fun q => ad q.1 q.2)
def mAr (M : mM) (ad : Nat → Nat → Nat) (ty : FieldType) (k i : Nat) : (Nat → Int32) ⊕ (Nat → Int64) ⊕ (Nat → UInt32) ⊕ (Nat → UInt64) ⊕ (Nat → Option Nat) := match ty with
  | .object _ => .inr (.inr (.inr (.inr (fun j => (M.2.1 k i j).map fun q => ad q.1 q.2))))
  | _ => .inl (M.2.2.1 k i)
def mE (M : mM) (ad : Nat → Nat → Nat) (ca : Nat → Nat → ClassId) (r : Nat × Nat) : va_E := match nth mKs r.1 with
  | some (.inl ci) => .inr (ci, (List.range (mNf ci)).map (mFv M ad r.1 r.2))
  | some (.inr (ty, n)) => .inl (ca r.1 r.2, n, mAr M ad ty r.1 r.2)
  | none => .inr (99, [])
def mWs (M : mM) (ad : Nat → Nat → Nat) (ca : Nat → Nat → ClassId) : va_W := M.1.map (fun r => (ad r.1 r.2, mE M ad ca r))
def mSz (k : Nat) : Nat := match nth mKs k with
  | some (.inl ci) => mNf ci
  | some (.inr (_, n)) => n
  | none => 0
def mSl : List (Nat × Nat) → Nat
  | [] => 0
  | r :: l => mSz r.1 + mSl l
def rOK (M : mM) : mV → Prop
  | .inr (.inr (some r)) => r ∈ M.1 ∨ r = (100, 0) ∨ r = (101, 0)
  | _ => True
def lvA (ad : Nat → Nat → Nat) : Nat → List (Option mV) → List (Nat × Value)
  | _, [] => []
  | n, none :: l => lvA ad (n + 1) l
  | n, some v :: l => (n, tv ad v) :: lvA ad (n + 1) l
def mX (U : State) : Prop := (∀ q ∈ tNT, va_Nw (wNT q) U) ∧ (∀ q ∈ tAN, va_AO (mRn (mEl q.2.2)) U) ∧ va_Nw (.fieldLinkNest RX5 27 "AnnCups" "LETTERS" "[C" "AnnCups") U
theorem mX.warm {s U : State} (hW : s.WarmedH U.vm) (h : mX s) : mX U := ⟨fun q hq => va_Nw.warmM hW (h.1 q hq), fun q hq => (h.2.1 q hq).moved hW.alike, va_Nw.warmF hW h.2.2⟩
theorem mX.same {s U : State} (hv : s.vm = U.vm) (h : mX s) : mX U := ⟨fun q hq => va_Nw.same rfl hv (h.1 q hq), fun q hq => (h.2.1 q hq).moved (by rw [hv]; exact Vm.Alike.refl _), va_Nw.same rfl hv h.2.2⟩
/-- what stays the same while a method runs -/
def mCx (p : Program) (R : Room) (s : State) (m : MethodId) (args : Array Value) (meth : Method) (c : Code) (D : va_G) (A : Nat → Prop) (b t L : Nat) (xs : Nat → Int32) (I : mI) (d n0 s0 N1 S1 : Nat) : Prop :=
  p.tables.exec = Jvm.exec ∧ c.code = I.2.2.1 ∧ c.maxLocals = I.2.2.2.1 ∧ s.vm.findClass (ownN I.1) = some m.cls ∧ (∀ w ∈ gTbl, w.before args s = true) ∧
  (∀ (c : Nat) (q : vw_C), vwCl[c]? = some q → u_Kn s q.1 q.2.1 q.2.2 (D.1 c) (D.2 c)) ∧ (∀ q : Nat, s.heap.size ≤ q → A q) ∧
  (va_X b L xs s s.heap ∧ b < s.heap.size ∧ ¬ A b) ∧ va_Z "AnnCups" "LETTERS" "[C" (.ref t) A s s.heap ∧ va_T .char t 6 (fun j => .int (lett j)) A s s.heap ∧ mX s ∧ (I.2.1.name = "<init>" → meth.name = "<init>") ∧ d + 1 ≤ R.frames ∧ (d + 1) * 60 ≤ R.locals ∧ okM I = true ∧ N1 ≤ n0 + R.cells ∧ S1 ≤ s0 + R.slots
/-- the cells -/
def mCe (s : State) (D : va_G) (A : Nat → Prop) (b t : Nat) (Z : List (Nat × Nat)) (ad0 : Nat → Nat → Nat) (M : mM) (ad : Nat → Nat → Nat) (ca : Nat → Nat → ClassId) (H : Heap) (locs : List Loc) : Prop :=
  va_P D vwCl (mWs M ad ca) H ∧ va_D A (mWs M ad ca) ∧ va_S A s.heap H locs ∧
  (∀ r ∈ M.1, ∀ (ty : FieldType) (n : Nat), nth mKs r.1 = some (.inr (ty, n)) → ArrOfT s (ca r.1 r.2) ty ∧ va_RA s (ca r.1 r.2) ty) ∧
  (∀ r ∈ M.1, ∀ j : Nat, rOK M (.inr (.inr (M.2.1 r.1 r.2 j)))) ∧ (∀ r ∈ M.1, r.1 < 52) ∧ ad 100 0 = b ∧ ad 101 0 = t ∧ ∀ q ∈ Z, q ∈ M.1 ∧ ad q.1 q.2 = ad0 q.1 q.2
/-- the locals, the room -/
def mLo (n0 s0 ml : Nat) (ls : List (Option mV)) (M : mM) (ad : Nat → Nat → Nat) (cells slots : Nat) (la : Array Slot) : Prop :=
  lv_has la ml (lvA ad 0 ls) ∧ ls.length = ml ∧ (∀ v, some v ∈ ls → rOK M v) ∧ cells + n0 = M.1.length ∧ slots + s0 = mSl M.1
def mGo (p : Program) (l : Launch) (e : Env) (R : Room) (s : State) (m : MethodId) (args : Array Value) (below : List Frame) (meth : Method) (c : Code) (D : va_G) (A : Nat → Prop) (b t : Nat) (Z : List (Nat × Nat)) (ad0 : Nat → Nat → Nat) (Q : State → Prop) (n0 s0 : Nat) (I : mI) (ip : Nat) (ls : List (Option mV)) (st : List mV) (M : mM) : Prop :=
  ∀ pc, nth I.2.2.2.2.2.2.2.2 ip = some pc → ∀ ad ca H locs cells slots la, mCe s D A b t Z ad0 M ad ca H locs → mLo n0 s0 I.2.2.2.1 ls M ad cells slots la → (∀ v ∈ st, rOK M v) →
    W p l e R s m args below meth c H locs cells slots Q (F0 m pc la (st.map (tv ad)))
theorem nth_lt {α : Type} {l : List α} {k : Nat} {a : α} (h : nth l k = some a) : k < l.length := by
  induction l generalizing k with
  | nil => cases h
  | cons b l ih =>
    cases k with
    | zero => exact Nat.succ_pos _
    | succ k => exact Nat.succ_lt_succ (ih h)
theorem nth_get {α : Type} (l : List α) (k : Nat) : nth l k = l[k]? := by
  induction l generalizing k with
  | nil => rfl
  | cons b l ih =>
    cases k with
    | zero => rfl
    | succ k => rw [nth, ih]; rfl
theorem lvA_mem (ad : Nat → Nat → Nat) (ls : List (Option mV)) (n : Nat) (q : Nat × Value) : q ∈ lvA ad n ls ↔ ∃ (i : Nat) (v : mV), nth ls i = some (some v) ∧ q = (n + i, tv ad v) := by
  induction ls generalizing n with
  | nil => exact ⟨(fun h => nomatch h), (fun ⟨_, _, h, _⟩ => nomatch h)⟩
  | cons a l ih =>
    cases a with
    | none =>
      rw [lvA, ih]
      constructor
      · rintro ⟨i, v, h, e⟩
        exact ⟨i + 1, v, h, by rw [e]; congr 1; omega⟩
      · rintro ⟨i, v, h, e⟩
        cases i with
        | zero => cases h
        | succ i => exact ⟨i, v, h, by rw [e]; congr 1; omega⟩
    | some w =>
      rw [lvA, List.mem_cons, ih]
      constructor
      · rintro (e | ⟨i, v, h, e⟩)
        · exact ⟨0, w, rfl, e⟩
        · exact ⟨i + 1, v, h, by rw [e]; congr 1; omega⟩
      · rintro ⟨i, v, h, e⟩
        cases i with
        | zero => cases h; exact Or.inl e
        | succ i => exact Or.inr ⟨i, v, h, by rw [e]; congr 1; omega⟩
theorem lv_less {la : Array Slot} {n : Nat} {l l' : List (Nat × Value)} (h : lv_has la n l) (hs : ∀ q ∈ l', q ∈ l) : lv_has la n l' := ⟨h.1, h.2.1, fun q hq => h.2.2 q (hs q hq)⟩
theorem mLo.at {n0 s0 ml : Nat} {ls : List (Option mV)} {M : mM} {ad : Nat → Nat → Nat} {cells slots : Nat} {la : Array Slot} (h : mLo n0 s0 ml ls M ad cells slots la) {i : Nat} {v : mV} (hi : nth ls i = some (some v)) : la[i]? = some (.val (tv ad v)) :=
  h.1.2.2 (i, tv ad v) ((lvA_mem ad ls 0 _).mpr ⟨i, v, hi, by rw [Nat.zero_add]⟩)
theorem mLo.ok {n0 s0 ml : Nat} {ls : List (Option mV)} {M : mM} {ad : Nat → Nat → Nat} {cells slots : Nat} {la : Array Slot} (h : mLo n0 s0 ml ls M ad cells slots la) {i : Nat} {v : mV} (hi : nth ls i = some (some v)) : rOK M v := h.2.2.1 v (nth_mem hi)
theorem tv_cat (ad : Nat → Nat → Nat) (v : mV) : (tv ad v).category = mCat v := by
  rcases v with x | x | r
  · rfl
  · rfl
  · cases r <;> rfl
theorem nth_set {α : Type} (l : List α) (n j : Nat) (a : α) : nth (l.set n a) j = if j = n ∧ n < l.length then some a else nth l j := by
  rw [nth_get, nth_get, List.getElem?_set]
  by_cases h : j = n
  · subst h
    by_cases h2 : j < l.length
    · simp [h2]
    · simp [h2]
  · have h' : ¬ n = j := fun e => h e.symm
    simp [h, h']
theorem lkill_nth {ls : List (Option mV)} {n j : Nat} {v : mV} (h : nth (lkill ls n) j = some (some v)) : nth ls j = some (some v) ∧ ¬ (j + 1 = n ∧ mCat v = 2) := by
  cases n with
  | zero => exact ⟨h, fun q => by omega⟩
  | succ k =>
    unfold lkill at h
    simp only at h
    split at h
    · rename_i x e
      rw [nth_set] at h
      split at h
      · cases h
      · rename_i hn
        refine ⟨h, fun q => hn ⟨by omega, nth_lt e⟩⟩
    · rename_i hno
      refine ⟨h, fun q => ?_⟩
      have hj : j = k := by omega
      subst hj
      rcases v with x | x | r
      · simp [mCat] at q
      · exact hno x h
      · simp [mCat] at q
theorem lkill_len (ls : List (Option mV)) (n : Nat) : (lkill ls n).length = ls.length := by
  cases n with
  | zero => rfl
  | succ k =>
    unfold lkill
    simp only
    split
    · exact List.length_set ..
    · rfl
theorem lst1_sub {ad : Nat → Nat → Nat} {ls : List (Option mV)} {n : Nat} {v : mV} {q : Nat × Value} (h : q ∈ lvA ad 0 (lst1 ls n v)) : q ∈ (n, tv ad v) :: (lvA ad 0 ls).filter (fun q => !(q.1 == n) && !(q.1 + 1 == n && q.2.category == 2)) := by
  obtain ⟨i, w, hi, e⟩ := (lvA_mem ad _ 0 q).mp h
  unfold lst1 at hi
  rw [nth_set] at hi
  split at hi
  · rename_i hc
    cases hi
    rw [e, hc.1, Nat.zero_add]
    exact List.mem_cons_self
  · rename_i hc
    obtain ⟨h1, h2⟩ := lkill_nth hi
    have hl := nth_lt h1
    refine List.mem_cons_of_mem _ (List.mem_filter.mpr ⟨(lvA_mem ad _ 0 q).mpr ⟨i, w, h1, e⟩, ?_⟩)
    have hin : ¬ i = n := fun e2 => hc ⟨e2, by rw [lkill_len, ← e2]; exact hl⟩
    rw [e]
    simp only [Nat.zero_add, tv_cat]
    simp only [Bool.and_eq_true, Bool.not_eq_true', beq_eq_false_iff_ne, Bool.and_eq_false_iff, ne_eq]
    refine ⟨hin, ?_⟩
    by_cases hq : i + 1 = n
    · exact Or.inr (fun hcat => h2 ⟨hq, hcat⟩)
    · exact Or.inl hq
theorem lst2_sub {ad : Nat → Nat → Nat} {ls : List (Option mV)} {n : Nat} {v : mV} {q : Nat × Value} (h : q ∈ lvA ad 0 (lst2 ls n v)) (hn : n + 1 < ls.length) : q ∈ (n, tv ad v) :: (lvA ad 0 ls).filter (fun q => !(q.1 == n) && (!(q.1 == n + 1) && !(q.1 + 1 == n && q.2.category == 2))) := by
  obtain ⟨i, w, hi, e⟩ := (lvA_mem ad _ 0 q).mp h
  unfold lst2 at hi
  rw [nth_set] at hi
  split at hi
  · cases hi
  · rename_i hc1
    rw [nth_set] at hi
    split at hi
    · rename_i hc
      cases hi
      rw [e, hc.1, Nat.zero_add]
      exact List.mem_cons_self
    · rename_i hc
      obtain ⟨h1, h2⟩ := lkill_nth hi
      have hl := nth_lt h1
      refine List.mem_cons_of_mem _ (List.mem_filter.mpr ⟨(lvA_mem ad _ 0 q).mpr ⟨i, w, h1, e⟩, ?_⟩)
      have hin : ¬ i = n := fun e2 => hc ⟨e2, by rw [lkill_len, ← e2]; exact hl⟩
      have hin1 : ¬ i = n + 1 := fun e2 => hc1 ⟨e2, by rw [List.length_set, lkill_len]; exact hn⟩
      rw [e]
      simp only [Nat.zero_add, tv_cat]
      simp only [Bool.and_eq_true, Bool.not_eq_true', beq_eq_false_iff_ne, Bool.and_eq_false_iff, ne_eq]
      refine ⟨hin, hin1, ?_⟩
      by_cases hq : i + 1 = n
      · exact Or.inr (fun hcat => h2 ⟨hq, hcat⟩)
      · exact Or.inl hq
theorem mem_set_sub {α : Type} {l : List α} {n : Nat} {a x : α} (h : x ∈ l.set n a) : x = a ∨ x ∈ l := by
  rcases List.mem_or_eq_of_mem_set h with h | h
  · exact Or.inr h
  · exact Or.inl h
theorem lkill_mem {ls : List (Option mV)} {n : Nat} {v : mV} (h : some v ∈ lkill ls n) : some v ∈ ls := by
  cases n with
  | zero => exact h
  | succ k =>
    unfold lkill at h
    simp only at h
    split at h
    · rcases mem_set_sub h with h | h
      · cases h
      · exact h
    · exact h
theorem mLo.st1 {n0 s0 ml : Nat} {ls : List (Option mV)} {M : mM} {ad : Nat → Nat → Nat} {cells slots : Nat} {la : Array Slot} (h : mLo n0 s0 ml ls M ad cells slots la) {n : Nat} {v : mV} (hv : rOK M v) {lb : Array Slot} (hb : lv_has lb ml ((n, tv ad v) :: (lvA ad 0 ls).filter (fun q => !(q.1 == n) && !(q.1 + 1 == n && q.2.category == 2)))) : mLo n0 s0 ml (lst1 ls n v) M ad cells slots lb := by
  refine ⟨lv_less hb (fun q hq => lst1_sub hq), ?_, fun w hw => ?_, h.2.2.2⟩
  · unfold lst1
    rw [List.length_set, lkill_len]
    exact h.2.1
  · unfold lst1 at hw
    rcases mem_set_sub hw with e | hw
    · cases e; exact hv
    · exact h.2.2.1 w (lkill_mem hw)
theorem mLo.st2 {n0 s0 ml : Nat} {ls : List (Option mV)} {M : mM} {ad : Nat → Nat → Nat} {cells slots : Nat} {la : Array Slot} (h : mLo n0 s0 ml ls M ad cells slots la) {n : Nat} {v : mV} (hn : n + 1 < ml) (hv : rOK M v) {lb : Array Slot} (hb : lv_has lb ml ((n, tv ad v) :: (lvA ad 0 ls).filter (fun q => !(q.1 == n) && (!(q.1 == n + 1) && !(q.1 + 1 == n && q.2.category == 2))))) : mLo n0 s0 ml (lst2 ls n v) M ad cells slots lb := by
  refine ⟨lv_less hb (fun q hq => lst2_sub hq (by rw [h.2.1]; exact hn)), ?_, fun w hw => ?_, h.2.2.2⟩
  · unfold lst2
    rw [List.length_set, List.length_set, lkill_len]
    exact h.2.1
  · unfold lst2 at hw
    rcases mem_set_sub hw with e | hw
    · cases e
    · rcases mem_set_sub hw with e | hw
      · cases e; exact hv
      · exact h.2.2.1 w (lkill_mem hw)
theorem okD_spec {I : mI} {pc : Nat} {i : Instr} {len : Nat} (h : okD I pc i len = true) : decode I.2.2.1 pc = .ok (i, len) := by
  unfold okD at h
  split at h
  · rename_i j l e
    simp only [Bool.and_eq_true, decide_eq_true_eq] at h
    rw [e, h.1, h.2]
  · cases h
theorem okN_spec {pc : Nat} {nx : Option Nat} {len : Nat} (h : okN pc nx len = true) : nx = some (pc + len) := by
  unfold okN at h
  split at h
  · rw [decide_eq_true_eq] at h
    rw [h]
  · cases h
theorem okS_spec {I : mI} {pc : Nat} {nx : Option Nat} {i : Instr} {len : Nat} (h : okS I pc nx i len = true) : decode I.2.2.1 pc = .ok (i, len) ∧ nx = some (pc + len) := by
  unfold okS at h
  rw [Bool.and_eq_true] at h
  exact ⟨okD_spec h.1, okN_spec h.2⟩
theorem okT_spec {I : mI} {pc : Nat} {off t : Int} (h : okT I pc off t = true) : ∃ tp : Nat, nth I.2.2.2.2.2.2.2.2 t.toNat = some tp ∧ (pc : Int) + off = (tp : Int) := by
  unfold okT at h
  split at h
  · rename_i tp e
    exact ⟨tp, e, of_decide_eq_true h⟩
  · cases h
theorem f4_val {b : Nat} (h : b < 4) : ((f4 b : Fin 4) : Nat) = b := Nat.mod_eq_of_lt h
theorem okL_at {I : mI} (os : List mO) (pcs : List Nat) (h : okL I os pcs = true) (ip : Nat) (o : mO) (ho : nth os ip = some o) : ∃ pc, nth pcs ip = some pc ∧ okB I pc (nth pcs (ip + 1)) o.1 o.2 = true := by
  induction os generalizing pcs ip with
  | nil => cases ho
  | cons a os ih =>
    cases pcs with
    | nil => cases h
    | cons pc pcs =>
      rw [okL, Bool.and_eq_true] at h
      cases ip with
      | zero => cases ho; exact ⟨pc, rfl, h.1⟩
      | succ ip => exact ih pcs h.2 ip ho
end
section
theorem st_tl {M : mM} {a : mV} {st : List mV} (h : ∀ v ∈ a :: st, rOK M v) : ∀ v ∈ st, rOK M v := fun v hv => h v (List.mem_cons_of_mem _ hv)
theorem st_hd {M : mM} {a : mV} {st : List mV} (h : ∀ v ∈ a :: st, rOK M v) : rOK M a := h a List.mem_cons_self
theorem st_cn {M : mM} {a : mV} {st : List mV} (ha : rOK M a) (h : ∀ v ∈ st, rOK M v) : ∀ v ∈ a :: st, rOK M v := fun v hv => by
  rcases List.mem_cons.mp hv with e | hv
  · rw [e]; exact ha
  · exact h v hv
section SND
variable {p : Program} {l : Launch} {e : Env} {R : Room} {s : State} {m : MethodId} {args : Array Value} {below : List Frame} {meth : Method} {c : Code} {D : va_G} {A : Nat → Prop} {b t L : Nat} {Z : List (Nat × Nat)} {ad0 : Nat → Nat → Nat} {xs : Nat → Int32} {I : mI} {d n0 s0 N1 S1 : Nat} {Q : State → Prop} {ip pc ip' : Nat} {ls ls' : List (Option mV)} {st st' : List mV} {M M' : mM} {v : Value}
theorem ms_iadd (C : mCx p R s m args meth c D A b t L xs I d n0 s0 N1 S1) (hpc : nth I.2.2.2.2.2.2.2.2 ip = some pc)  (hok : okB I pc (nth I.2.2.2.2.2.2.2.2 (ip + 1)) (.iadd) v = true) (h : mstep L xs (.iadd) v ip ls st M = some (ip', ls', st', M')) (hb : M'.1.length ≤ N1 ∧ mSl M'.1 ≤ S1) (k : mGo p l e R s m args below meth c D A b t Z ad0 Q n0 s0 I ip' ls' st' M') : mGo p l e R s m args below meth c D A b t Z ad0 Q n0 s0 I ip ls st M := by
  have hk : okS I pc (nth I.2.2.2.2.2.2.2.2 (ip + 1)) (.iadd) 1 = true := hok
  obtain ⟨hd, hn⟩ := okS_spec hk
  unfold mstep at h
  dsimp only at h
  split at h
  · cases h
    intro pc' hpc' ad ca H locs cells slots la hC hL hst
    cases hpc.symm.trans hpc'
    show W p l e R s m args below meth c H locs cells slots Q (F0 m pc la (.int _ :: .int _ :: List.map (tv ad) _))
    exact lv_iadd C.1 C.2.1 hd (k _ hn ad ca H locs cells slots la hC hL (st_cn trivial (st_tl (st_tl hst))))
  · cases h
theorem ms_isub (C : mCx p R s m args meth c D A b t L xs I d n0 s0 N1 S1) (hpc : nth I.2.2.2.2.2.2.2.2 ip = some pc)  (hok : okB I pc (nth I.2.2.2.2.2.2.2.2 (ip + 1)) (.isub) v = true) (h : mstep L xs (.isub) v ip ls st M = some (ip', ls', st', M')) (hb : M'.1.length ≤ N1 ∧ mSl M'.1 ≤ S1) (k : mGo p l e R s m args below meth c D A b t Z ad0 Q n0 s0 I ip' ls' st' M') : mGo p l e R s m args below meth c D A b t Z ad0 Q n0 s0 I ip ls st M := by
  have hk : okS I pc (nth I.2.2.2.2.2.2.2.2 (ip + 1)) (.isub) 1 = true := hok
  obtain ⟨hd, hn⟩ := okS_spec hk
  unfold mstep at h
  dsimp only at h
  split at h
  · cases h
    intro pc' hpc' ad ca H locs cells slots la hC hL hst
    cases hpc.symm.trans hpc'
    show W p l e R s m args below meth c H locs cells slots Q (F0 m pc la (.int _ :: .int _ :: List.map (tv ad) _))
    exact lv_isub C.1 C.2.1 hd (k _ hn ad ca H locs cells slots la hC hL (st_cn trivial (st_tl (st_tl hst))))
  · cases h
theorem ms_imul (C : mCx p R s m args meth c D A b t L xs I d n0 s0 N1 S1) (hpc : nth I.2.2.2.2.2.2.2.2 ip = some pc)  (hok : okB I pc (nth I.2.2.2.2.2.2.2.2 (ip + 1)) (.imul) v = true) (h : mstep L xs (.imul) v ip ls st M = some (ip', ls', st', M')) (hb : M'.1.length ≤ N1 ∧ mSl M'.1 ≤ S1) (k : mGo p l e R s m args below meth c D A b t Z ad0 Q n0 s0 I ip' ls' st' M') : mGo p l e R s m args below meth c D A b t Z ad0 Q n0 s0 I ip ls st M := by
  have hk : okS I pc (nth I.2.2.2.2.2.2.2.2 (ip + 1)) (.imul) 1 = true := hok
  obtain ⟨hd, hn⟩ := okS_spec hk
  unfold mstep at h
  dsimp only at h
  split at h
  · cases h
    intro pc' hpc' ad ca H locs cells slots la hC hL hst
    cases hpc.symm.trans hpc'
    show W p l e R s m args below meth c H locs cells slots Q (F0 m pc la (.int _ :: .int _ :: List.map (tv ad) _))
    exact lv_imul C.1 C.2.1 hd (k _ hn ad ca H locs cells slots la hC hL (st_cn trivial (st_tl (st_tl hst))))
  · cases h
theorem ms_iand (C : mCx p R s m args meth c D A b t L xs I d n0 s0 N1 S1) (hpc : nth I.2.2.2.2.2.2.2.2 ip = some pc)  (hok : okB I pc (nth I.2.2.2.2.2.2.2.2 (ip + 1)) (.iand) v = true) (h : mstep L xs (.iand) v ip ls st M = some (ip', ls', st', M')) (hb : M'.1.length ≤ N1 ∧ mSl M'.1 ≤ S1) (k : mGo p l e R s m args below meth c D A b t Z ad0 Q n0 s0 I ip' ls' st' M') : mGo p l e R s m args below meth c D A b t Z ad0 Q n0 s0 I ip ls st M := by
  have hk : okS I pc (nth I.2.2.2.2.2.2.2.2 (ip + 1)) (.iand) 1 = true := hok
  obtain ⟨hd, hn⟩ := okS_spec hk
  unfold mstep at h
  dsimp only at h
  split at h
  · cases h
    intro pc' hpc' ad ca H locs cells slots la hC hL hst
    cases hpc.symm.trans hpc'
    show W p l e R s m args below meth c H locs cells slots Q (F0 m pc la (.int _ :: .int _ :: List.map (tv ad) _))
    exact lv_iand C.1 C.2.1 hd (k _ hn ad ca H locs cells slots la hC hL (st_cn trivial (st_tl (st_tl hst))))
  · cases h
theorem ms_ior (C : mCx p R s m args meth c D A b t L xs I d n0 s0 N1 S1) (hpc : nth I.2.2.2.2.2.2.2.2 ip = some pc)  (hok : okB I pc (nth I.2.2.2.2.2.2.2.2 (ip + 1)) (.ior) v = true) (h : mstep L xs (.ior) v ip ls st M = some (ip', ls', st', M')) (hb : M'.1.length ≤ N1 ∧ mSl M'.1 ≤ S1) (k : mGo p l e R s m args below meth c D A b t Z ad0 Q n0 s0 I ip' ls' st' M') : mGo p l e R s m args below meth c D A b t Z ad0 Q n0 s0 I ip ls st M := by
  have hk : okS I pc (nth I.2.2.2.2.2.2.2.2 (ip + 1)) (.ior) 1 = true := hok
  obtain ⟨hd, hn⟩ := okS_spec hk
  unfold mstep at h
  dsimp only at h
  split at h
  · cases h
    intro pc' hpc' ad ca H locs cells slots la hC hL hst
    cases hpc.symm.trans hpc'
    show W p l e R s m args below meth c H locs cells slots Q (F0 m pc la (.int _ :: .int _ :: List.map (tv ad) _))
    exact lv_ior C.1 C.2.1 hd (k _ hn ad ca H locs cells slots la hC hL (st_cn trivial (st_tl (st_tl hst))))
  · cases h
theorem ms_ixor (C : mCx p R s m args meth c D A b t L xs I d n0 s0 N1 S1) (hpc : nth I.2.2.2.2.2.2.2.2 ip = some pc)  (hok : okB I pc (nth I.2.2.2.2.2.2.2.2 (ip + 1)) (.ixor) v = true) (h : mstep L xs (.ixor) v ip ls st M = some (ip', ls', st', M')) (hb : M'.1.length ≤ N1 ∧ mSl M'.1 ≤ S1) (k : mGo p l e R s m args below meth c D A b t Z ad0 Q n0 s0 I ip' ls' st' M') : mGo p l e R s m args below meth c D A b t Z ad0 Q n0 s0 I ip ls st M := by
  have hk : okS I pc (nth I.2.2.2.2.2.2.2.2 (ip + 1)) (.ixor) 1 = true := hok
  obtain ⟨hd, hn⟩ := okS_spec hk
  unfold mstep at h
  dsimp only at h
  split at h
  · cases h
    intro pc' hpc' ad ca H locs cells slots la hC hL hst
    cases hpc.symm.trans hpc'
    show W p l e R s m args below meth c H locs cells slots Q (F0 m pc la (.int _ :: .int _ :: List.map (tv ad) _))
    exact lv_ixor C.1 C.2.1 hd (k _ hn ad ca H locs cells slots la hC hL (st_cn trivial (st_tl (st_tl hst))))
  · cases h
theorem ms_ishl (C : mCx p R s m args meth c D A b t L xs I d n0 s0 N1 S1) (hpc : nth I.2.2.2.2.2.2.2.2 ip = some pc)  (hok : okB I pc (nth I.2.2.2.2.2.2.2.2 (ip + 1)) (.ishl) v = true) (h : mstep L xs (.ishl) v ip ls st M = some (ip', ls', st', M')) (hb : M'.1.length ≤ N1 ∧ mSl M'.1 ≤ S1) (k : mGo p l e R s m args below meth c D A b t Z ad0 Q n0 s0 I ip' ls' st' M') : mGo p l e R s m args below meth c D A b t Z ad0 Q n0 s0 I ip ls st M := by
  have hk : okS I pc (nth I.2.2.2.2.2.2.2.2 (ip + 1)) (.ishl) 1 = true := hok
  obtain ⟨hd, hn⟩ := okS_spec hk
  unfold mstep at h
  dsimp only at h
  split at h
  · cases h
    intro pc' hpc' ad ca H locs cells slots la hC hL hst
    cases hpc.symm.trans hpc'
    show W p l e R s m args below meth c H locs cells slots Q (F0 m pc la (.int _ :: .int _ :: List.map (tv ad) _))
    exact lv_ishl C.1 C.2.1 hd (k _ hn ad ca H locs cells slots la hC hL (st_cn trivial (st_tl (st_tl hst))))
  · cases h
theorem ms_ishr (C : mCx p R s m args meth c D A b t L xs I d n0 s0 N1 S1) (hpc : nth I.2.2.2.2.2.2.2.2 ip = some pc)  (hok : okB I pc (nth I.2.2.2.2.2.2.2.2 (ip + 1)) (.ishr) v = true) (h : mstep L xs (.ishr) v ip ls st M = some (ip', ls', st', M')) (hb : M'.1.length ≤ N1 ∧ mSl M'.1 ≤ S1) (k : mGo p l e R s m args below meth c D A b t Z ad0 Q n0 s0 I ip' ls' st' M') : mGo p l e R s m args below meth c D A b t Z ad0 Q n0 s0 I ip ls st M := by
  have hk : okS I pc (nth I.2.2.2.2.2.2.2.2 (ip + 1)) (.ishr) 1 = true := hok
  obtain ⟨hd, hn⟩ := okS_spec hk
  unfold mstep at h
  dsimp only at h
  split at h
  · cases h
    intro pc' hpc' ad ca H locs cells slots la hC hL hst
    cases hpc.symm.trans hpc'
    show W p l e R s m args below meth c H locs cells slots Q (F0 m pc la (.int _ :: .int _ :: List.map (tv ad) _))
    exact lv_ishr C.1 C.2.1 hd (k _ hn ad ca H locs cells slots la hC hL (st_cn trivial (st_tl (st_tl hst))))
  · cases h
theorem ms_ladd (C : mCx p R s m args meth c D A b t L xs I d n0 s0 N1 S1) (hpc : nth I.2.2.2.2.2.2.2.2 ip = some pc)  (hok : okB I pc (nth I.2.2.2.2.2.2.2.2 (ip + 1)) (.ladd) v = true) (h : mstep L xs (.ladd) v ip ls st M = some (ip', ls', st', M')) (hb : M'.1.length ≤ N1 ∧ mSl M'.1 ≤ S1) (k : mGo p l e R s m args below meth c D A b t Z ad0 Q n0 s0 I ip' ls' st' M') : mGo p l e R s m args below meth c D A b t Z ad0 Q n0 s0 I ip ls st M := by
  have hk : okS I pc (nth I.2.2.2.2.2.2.2.2 (ip + 1)) (.ladd) 1 = true := hok
  obtain ⟨hd, hn⟩ := okS_spec hk
  unfold mstep at h
  dsimp only at h
  split at h
  · cases h
    intro pc' hpc' ad ca H locs cells slots la hC hL hst
    cases hpc.symm.trans hpc'
    show W p l e R s m args below meth c H locs cells slots Q (F0 m pc la (.long _ :: .long _ :: List.map (tv ad) _))
    exact lv_ladd C.1 C.2.1 hd (k _ hn ad ca H locs cells slots la hC hL (st_cn trivial (st_tl (st_tl hst))))
  · cases h
theorem ms_lmul (C : mCx p R s m args meth c D A b t L xs I d n0 s0 N1 S1) (hpc : nth I.2.2.2.2.2.2.2.2 ip = some pc)  (hok : okB I pc (nth I.2.2.2.2.2.2.2.2 (ip + 1)) (.lmul) v = true) (h : mstep L xs (.lmul) v ip ls st M = some (ip', ls', st', M')) (hb : M'.1.length ≤ N1 ∧ mSl M'.1 ≤ S1) (k : mGo p l e R s m args below meth c D A b t Z ad0 Q n0 s0 I ip' ls' st' M') : mGo p l e R s m args below meth c D A b t Z ad0 Q n0 s0 I ip ls st M := by
  have hk : okS I pc (nth I.2.2.2.2.2.2.2.2 (ip + 1)) (.lmul) 1 = true := hok
  obtain ⟨hd, hn⟩ := okS_spec hk
  unfold mstep at h
  dsimp only at h
  split at h
  · cases h
    intro pc' hpc' ad ca H locs cells slots la hC hL hst
    cases hpc.symm.trans hpc'
    show W p l e R s m args below meth c H locs cells slots Q (F0 m pc la (.long _ :: .long _ :: List.map (tv ad) _))
    exact lv_lmul C.1 C.2.1 hd (k _ hn ad ca H locs cells slots la hC hL (st_cn trivial (st_tl (st_tl hst))))
  · cases h
theorem ms_ineg (C : mCx p R s m args meth c D A b t L xs I d n0 s0 N1 S1) (hpc : nth I.2.2.2.2.2.2.2.2 ip = some pc)  (hok : okB I pc (nth I.2.2.2.2.2.2.2.2 (ip + 1)) (.ineg) v = true) (h : mstep L xs (.ineg) v ip ls st M = some (ip', ls', st', M')) (hb : M'.1.length ≤ N1 ∧ mSl M'.1 ≤ S1) (k : mGo p l e R s m args below meth c D A b t Z ad0 Q n0 s0 I ip' ls' st' M') : mGo p l e R s m args below meth c D A b t Z ad0 Q n0 s0 I ip ls st M := by
  have hk : okS I pc (nth I.2.2.2.2.2.2.2.2 (ip + 1)) (.ineg) 1 = true := hok
  obtain ⟨hd, hn⟩ := okS_spec hk
  unfold mstep at h
  dsimp only at h
  split at h
  · cases h
    intro pc' hpc' ad ca H locs cells slots la hC hL hst
    cases hpc.symm.trans hpc'
    show W p l e R s m args below meth c H locs cells slots Q (F0 m pc la (.int _ :: List.map (tv ad) _))
    exact lv_ineg C.1 C.2.1 hd (k _ hn ad ca H locs cells slots la hC hL (st_cn trivial (st_tl hst)))
  · cases h
theorem ms_i2l (C : mCx p R s m args meth c D A b t L xs I d n0 s0 N1 S1) (hpc : nth I.2.2.2.2.2.2.2.2 ip = some pc)  (hok : okB I pc (nth I.2.2.2.2.2.2.2.2 (ip + 1)) (.i2l) v = true) (h : mstep L xs (.i2l) v ip ls st M = some (ip', ls', st', M')) (hb : M'.1.length ≤ N1 ∧ mSl M'.1 ≤ S1) (k : mGo p l e R s m args below meth c D A b t Z ad0 Q n0 s0 I ip' ls' st' M') : mGo p l e R s m args below meth c D A b t Z ad0 Q n0 s0 I ip ls st M := by
  have hk : okS I pc (nth I.2.2.2.2.2.2.2.2 (ip + 1)) (.i2l) 1 = true := hok
  obtain ⟨hd, hn⟩ := okS_spec hk
  unfold mstep at h
  dsimp only at h
  split at h
  · cases h
    intro pc' hpc' ad ca H locs cells slots la hC hL hst
    cases hpc.symm.trans hpc'
    show W p l e R s m args below meth c H locs cells slots Q (F0 m pc la (.int _ :: List.map (tv ad) _))
    exact lv_i2l C.1 C.2.1 hd rfl (k _ hn ad ca H locs cells slots la hC hL (st_cn trivial (st_tl hst)))
  · cases h
theorem ms_l2i (C : mCx p R s m args meth c D A b t L xs I d n0 s0 N1 S1) (hpc : nth I.2.2.2.2.2.2.2.2 ip = some pc)  (hok : okB I pc (nth I.2.2.2.2.2.2.2.2 (ip + 1)) (.l2i) v = true) (h : mstep L xs (.l2i) v ip ls st M = some (ip', ls', st', M')) (hb : M'.1.length ≤ N1 ∧ mSl M'.1 ≤ S1) (k : mGo p l e R s m args below meth c D A b t Z ad0 Q n0 s0 I ip' ls' st' M') : mGo p l e R s m args below meth c D A b t Z ad0 Q n0 s0 I ip ls st M := by
  have hk : okS I pc (nth I.2.2.2.2.2.2.2.2 (ip + 1)) (.l2i) 1 = true := hok
  obtain ⟨hd, hn⟩ := okS_spec hk
  unfold mstep at h
  dsimp only at h
  split at h
  · cases h
    intro pc' hpc' ad ca H locs cells slots la hC hL hst
    cases hpc.symm.trans hpc'
    show W p l e R s m args below meth c H locs cells slots Q (F0 m pc la (.long _ :: List.map (tv ad) _))
    exact lv_l2i C.1 C.2.1 hd rfl (k _ hn ad ca H locs cells slots la hC hL (st_cn trivial (st_tl hst)))
  · cases h
theorem ms_i2b (C : mCx p R s m args meth c D A b t L xs I d n0 s0 N1 S1) (hpc : nth I.2.2.2.2.2.2.2.2 ip = some pc)  (hok : okB I pc (nth I.2.2.2.2.2.2.2.2 (ip + 1)) (.i2b) v = true) (h : mstep L xs (.i2b) v ip ls st M = some (ip', ls', st', M')) (hb : M'.1.length ≤ N1 ∧ mSl M'.1 ≤ S1) (k : mGo p l e R s m args below meth c D A b t Z ad0 Q n0 s0 I ip' ls' st' M') : mGo p l e R s m args below meth c D A b t Z ad0 Q n0 s0 I ip ls st M := by
  have hk : okS I pc (nth I.2.2.2.2.2.2.2.2 (ip + 1)) (.i2b) 1 = true := hok
  obtain ⟨hd, hn⟩ := okS_spec hk
  unfold mstep at h
  dsimp only at h
  split at h
  · cases h
    intro pc' hpc' ad ca H locs cells slots la hC hL hst
    cases hpc.symm.trans hpc'
    show W p l e R s m args below meth c H locs cells slots Q (F0 m pc la (.int _ :: List.map (tv ad) _))
    exact lv_i2b C.1 C.2.1 hd rfl (k _ hn ad ca H locs cells slots la hC hL (st_cn trivial (st_tl hst)))
  · cases h
theorem ms_iushr (C : mCx p R s m args meth c D A b t L xs I d n0 s0 N1 S1) (hpc : nth I.2.2.2.2.2.2.2.2 ip = some pc)  (hok : okB I pc (nth I.2.2.2.2.2.2.2.2 (ip + 1)) (.iushr) v = true) (h : mstep L xs (.iushr) v ip ls st M = some (ip', ls', st', M')) (hb : M'.1.length ≤ N1 ∧ mSl M'.1 ≤ S1) (k : mGo p l e R s m args below meth c D A b t Z ad0 Q n0 s0 I ip' ls' st' M') : mGo p l e R s m args below meth c D A b t Z ad0 Q n0 s0 I ip ls st M := by
  have hk : okS I pc (nth I.2.2.2.2.2.2.2.2 (ip + 1)) (.iushr) 1 = true := hok
  obtain ⟨hd, hn⟩ := okS_spec hk
  unfold mstep at h
  dsimp only at h
  split at h
  · cases h
    intro pc' hpc' ad ca H locs cells slots la hC hL hst
    cases hpc.symm.trans hpc'
    show W p l e R s m args below meth c H locs cells slots Q (F0 m pc la (.int _ :: .int _ :: List.map (tv ad) _))
    exact lv_iushr C.1 C.2.1 hd rfl (k _ hn ad ca H locs cells slots la hC hL (st_cn trivial (st_tl (st_tl hst))))
  · cases h
theorem ms_lcmp (C : mCx p R s m args meth c D A b t L xs I d n0 s0 N1 S1) (hpc : nth I.2.2.2.2.2.2.2.2 ip = some pc)  (hok : okB I pc (nth I.2.2.2.2.2.2.2.2 (ip + 1)) (.lcmp) v = true) (h : mstep L xs (.lcmp) v ip ls st M = some (ip', ls', st', M')) (hb : M'.1.length ≤ N1 ∧ mSl M'.1 ≤ S1) (k : mGo p l e R s m args below meth c D A b t Z ad0 Q n0 s0 I ip' ls' st' M') : mGo p l e R s m args below meth c D A b t Z ad0 Q n0 s0 I ip ls st M := by
  have hk : okS I pc (nth I.2.2.2.2.2.2.2.2 (ip + 1)) (.lcmp) 1 = true := hok
  obtain ⟨hd, hn⟩ := okS_spec hk
  unfold mstep at h
  dsimp only at h
  split at h
  · cases h
    intro pc' hpc' ad ca H locs cells slots la hC hL hst
    cases hpc.symm.trans hpc'
    show W p l e R s m args below meth c H locs cells slots Q (F0 m pc la (.long _ :: .long _ :: List.map (tv ad) _))
    exact W.lcmp C.1 C.2.1 hd (k _ hn ad ca H locs cells slots la hC hL (st_cn trivial (st_tl (st_tl hst))))
  · cases h
theorem ms_idiv (C : mCx p R s m args meth c D A b t L xs I d n0 s0 N1 S1) (hpc : nth I.2.2.2.2.2.2.2.2 ip = some pc)  (hok : okB I pc (nth I.2.2.2.2.2.2.2.2 (ip + 1)) (.idiv) v = true) (h : mstep L xs (.idiv) v ip ls st M = some (ip', ls', st', M')) (hb : M'.1.length ≤ N1 ∧ mSl M'.1 ≤ S1) (k : mGo p l e R s m args below meth c D A b t Z ad0 Q n0 s0 I ip' ls' st' M') : mGo p l e R s m args below meth c D A b t Z ad0 Q n0 s0 I ip ls st M := by
  have hk : okS I pc (nth I.2.2.2.2.2.2.2.2 (ip + 1)) (.idiv) 1 = true := hok
  obtain ⟨hd, hn⟩ := okS_spec hk
  unfold mstep at h
  dsimp only at h
  split at h
  · split at h
    · cases h
    · rename_i hne
      cases h
      intro pc' hpc' ad ca H locs cells slots la hC hL hst
      cases hpc.symm.trans hpc'
      show W p l e R s m args below meth c H locs cells slots Q (F0 m pc la (.int _ :: .int _ :: List.map (tv ad) _))
      exact lv_idiv C.1 C.2.1 hd hne (k _ hn ad ca H locs cells slots la hC hL (st_cn trivial (st_tl (st_tl hst))))
  · cases h
theorem ms_irem (C : mCx p R s m args meth c D A b t L xs I d n0 s0 N1 S1) (hpc : nth I.2.2.2.2.2.2.2.2 ip = some pc)  (hok : okB I pc (nth I.2.2.2.2.2.2.2.2 (ip + 1)) (.irem) v = true) (h : mstep L xs (.irem) v ip ls st M = some (ip', ls', st', M')) (hb : M'.1.length ≤ N1 ∧ mSl M'.1 ≤ S1) (k : mGo p l e R s m args below meth c D A b t Z ad0 Q n0 s0 I ip' ls' st' M') : mGo p l e R s m args below meth c D A b t Z ad0 Q n0 s0 I ip ls st M := by
  have hk : okS I pc (nth I.2.2.2.2.2.2.2.2 (ip + 1)) (.irem) 1 = true := hok
  obtain ⟨hd, hn⟩ := okS_spec hk
  unfold mstep at h
  dsimp only at h
  split at h
  · split at h
    · cases h
    · rename_i hne
      cases h
      intro pc' hpc' ad ca H locs cells slots la hC hL hst
      cases hpc.symm.trans hpc'
      show W p l e R s m args below meth c H locs cells slots Q (F0 m pc la (.int _ :: .int _ :: List.map (tv ad) _))
      exact lv_irem C.1 C.2.1 hd hne (k _ hn ad ca H locs cells slots la hC hL (st_cn trivial (st_tl (st_tl hst))))
  · cases h
theorem ms_ldiv (C : mCx p R s m args meth c D A b t L xs I d n0 s0 N1 S1) (hpc : nth I.2.2.2.2.2.2.2.2 ip = some pc)  (hok : okB I pc (nth I.2.2.2.2.2.2.2.2 (ip + 1)) (.ldiv) v = true) (h : mstep L xs (.ldiv) v ip ls st M = some (ip', ls', st', M')) (hb : M'.1.length ≤ N1 ∧ mSl M'.1 ≤ S1) (k : mGo p l e R s m args below meth c D A b t Z ad0 Q n0 s0 I ip' ls' st' M') : mGo p l e R s m args below meth c D A b t Z ad0 Q n0 s0 I ip ls st M := by
  have hk : okS I pc (nth I.2.2.2.2.2.2.2.2 (ip + 1)) (.ldiv) 1 = true := hok
  obtain ⟨hd, hn⟩ := okS_spec hk
  unfold mstep at h
  dsimp only at h
  split at h
  · split at h
    · cases h
    · rename_i hne
      cases h
      intro pc' hpc' ad ca H locs cells slots la hC hL hst
      cases hpc.symm.trans hpc'
      show W p l e R s m args below meth c H locs cells slots Q (F0 m pc la (.long _ :: .long _ :: List.map (tv ad) _))
      exact lv_ldiv C.1 C.2.1 hd hne (k _ hn ad ca H locs cells slots la hC hL (st_cn trivial (st_tl (st_tl hst))))
  · cases h
theorem ms_lrem (C : mCx p R s m args meth c D A b t L xs I d n0 s0 N1 S1) (hpc : nth I.2.2.2.2.2.2.2.2 ip = some pc)  (hok : okB I pc (nth I.2.2.2.2.2.2.2.2 (ip + 1)) (.lrem) v = true) (h : mstep L xs (.lrem) v ip ls st M = some (ip', ls', st', M')) (hb : M'.1.length ≤ N1 ∧ mSl M'.1 ≤ S1) (k : mGo p l e R s m args below meth c D A b t Z ad0 Q n0 s0 I ip' ls' st' M') : mGo p l e R s m args below meth c D A b t Z ad0 Q n0 s0 I ip ls st M := by
  have hk : okS I pc (nth I.2.2.2.2.2.2.2.2 (ip + 1)) (.lrem) 1 = true := hok
  obtain ⟨hd, hn⟩ := okS_spec hk
  unfold mstep at h
  dsimp only at h
  split at h
  · split at h
    · cases h
    · rename_i hne
      cases h
      intro pc' hpc' ad ca H locs cells slots la hC hL hst
      cases hpc.symm.trans hpc'
      show W p l e R s m args below meth c H locs cells slots Q (F0 m pc la (.long _ :: .long _ :: List.map (tv ad) _))
      exact lv_lrem C.1 C.2.1 hd hne (k _ hn ad ca H locs cells slots la hC hL (st_cn trivial (st_tl (st_tl hst))))
  · cases h
theorem ms_iload (C : mCx p R s m args meth c D A b t L xs I d n0 s0 N1 S1) (hpc : nth I.2.2.2.2.2.2.2.2 ip = some pc) {n : Nat} (hok : okB I pc (nth I.2.2.2.2.2.2.2.2 (ip + 1)) (.iload n) v = true) (h : mstep L xs (.iload n) v ip ls st M = some (ip', ls', st', M')) (hb : M'.1.length ≤ N1 ∧ mSl M'.1 ≤ S1) (k : mGo p l e R s m args below meth c D A b t Z ad0 Q n0 s0 I ip' ls' st' M') : mGo p l e R s m args below meth c D A b t Z ad0 Q n0 s0 I ip ls st M := by
  have hk : (decide (n < I.2.2.2.1) && ((decide (n < 4) && okS I pc (nth I.2.2.2.2.2.2.2.2 (ip + 1)) (.iload_n (f4 n)) 1) || okS I pc (nth I.2.2.2.2.2.2.2.2 (ip + 1)) (.iload n) 2)) = true := hok
  unfold mstep at h
  dsimp only at h
  split at h
  · rename_i x hx
    cases h
    intro pc' hpc' ad ca H locs cells slots la hC hL hst
    cases hpc.symm.trans hpc'
    have hv := hL.at hx
    simp only [Bool.and_eq_true, Bool.or_eq_true, decide_eq_true_eq] at hk
    rcases hk.2 with ⟨h4, hk⟩ | hk
    · obtain ⟨hd, hn⟩ := okS_spec hk
      exact lv_iload_n C.1 C.2.1 hd (f4_val h4) hv (k _ hn ad ca H locs cells slots la hC hL (st_cn trivial hst))
    · obtain ⟨hd, hn⟩ := okS_spec hk
      exact lv_iload C.1 C.2.1 hd hv (k _ hn ad ca H locs cells slots la hC hL (st_cn trivial hst))
  · cases h
theorem ms_lload (C : mCx p R s m args meth c D A b t L xs I d n0 s0 N1 S1) (hpc : nth I.2.2.2.2.2.2.2.2 ip = some pc) {n : Nat} (hok : okB I pc (nth I.2.2.2.2.2.2.2.2 (ip + 1)) (.lload n) v = true) (h : mstep L xs (.lload n) v ip ls st M = some (ip', ls', st', M')) (hb : M'.1.length ≤ N1 ∧ mSl M'.1 ≤ S1) (k : mGo p l e R s m args below meth c D A b t Z ad0 Q n0 s0 I ip' ls' st' M') : mGo p l e R s m args below meth c D A b t Z ad0 Q n0 s0 I ip ls st M := by
  have hk : (decide (n < I.2.2.2.1) && ((decide (n < 4) && okS I pc (nth I.2.2.2.2.2.2.2.2 (ip + 1)) (.lload_n (f4 n)) 1) || okS I pc (nth I.2.2.2.2.2.2.2.2 (ip + 1)) (.lload n) 2)) = true := hok
  unfold mstep at h
  dsimp only at h
  split at h
  · rename_i x hx
    cases h
    intro pc' hpc' ad ca H locs cells slots la hC hL hst
    cases hpc.symm.trans hpc'
    have hv := hL.at hx
    simp only [Bool.and_eq_true, Bool.or_eq_true, decide_eq_true_eq] at hk
    rcases hk.2 with ⟨h4, hk⟩ | hk
    · obtain ⟨hd, hn⟩ := okS_spec hk
      exact lv_lload_n C.1 C.2.1 hd (f4_val h4) hv (k _ hn ad ca H locs cells slots la hC hL (st_cn trivial hst))
    · obtain ⟨hd, hn⟩ := okS_spec hk
      exact lv_lload C.1 C.2.1 hd hv (k _ hn ad ca H locs cells slots la hC hL (st_cn trivial hst))
  · cases h
theorem ms_aload (C : mCx p R s m args meth c D A b t L xs I d n0 s0 N1 S1) (hpc : nth I.2.2.2.2.2.2.2.2 ip = some pc) {n : Nat} (hok : okB I pc (nth I.2.2.2.2.2.2.2.2 (ip + 1)) (.aload n) v = true) (h : mstep L xs (.aload n) v ip ls st M = some (ip', ls', st', M')) (hb : M'.1.length ≤ N1 ∧ mSl M'.1 ≤ S1) (k : mGo p l e R s m args below meth c D A b t Z ad0 Q n0 s0 I ip' ls' st' M') : mGo p l e R s m args below meth c D A b t Z ad0 Q n0 s0 I ip ls st M := by
  have hk : (decide (n < I.2.2.2.1) && ((decide (n < 4) && okS I pc (nth I.2.2.2.2.2.2.2.2 (ip + 1)) (.aload_n (f4 n)) 1) || okS I pc (nth I.2.2.2.2.2.2.2.2 (ip + 1)) (.aload n) 2)) = true := hok
  unfold mstep at h
  dsimp only at h
  split at h
  · rename_i r hx
    cases h
    intro pc' hpc' ad ca H locs cells slots la hC hL hst
    cases hpc.symm.trans hpc'
    have hv := hL.at hx
    have ho := hL.ok hx
    simp only [Bool.and_eq_true, Bool.or_eq_true, decide_eq_true_eq] at hk
    rcases hk.2 with ⟨h4, hk⟩ | hk
    · obtain ⟨hd, hn⟩ := okS_spec hk
      have hg := k _ hn ad ca H locs cells slots la hC hL (st_cn ho hst)
      cases r with
      | none => exact lv_aload_nN C.1 C.2.1 hd (f4_val h4) hv hg
      | some q => exact lv_aload_n C.1 C.2.1 hd (f4_val h4) hv hg
    · obtain ⟨hd, hn⟩ := okS_spec hk
      have hg := k _ hn ad ca H locs cells slots la hC hL (st_cn ho hst)
      cases r with
      | none => exact lv_aloadN C.1 C.2.1 hd hv hg
      | some q => exact lv_aload C.1 C.2.1 hd hv hg
  · cases h
theorem ms_istore (C : mCx p R s m args meth c D A b t L xs I d n0 s0 N1 S1) (hpc : nth I.2.2.2.2.2.2.2.2 ip = some pc) {n : Nat} (hok : okB I pc (nth I.2.2.2.2.2.2.2.2 (ip + 1)) (.istore n) v = true) (h : mstep L xs (.istore n) v ip ls st M = some (ip', ls', st', M')) (hb : M'.1.length ≤ N1 ∧ mSl M'.1 ≤ S1) (k : mGo p l e R s m args below meth c D A b t Z ad0 Q n0 s0 I ip' ls' st' M') : mGo p l e R s m args below meth c D A b t Z ad0 Q n0 s0 I ip ls st M := by
  have hk : (decide (n < I.2.2.2.1) && ((decide (n < 4) && okS I pc (nth I.2.2.2.2.2.2.2.2 (ip + 1)) (.istore_n (f4 n)) 1) || okS I pc (nth I.2.2.2.2.2.2.2.2 (ip + 1)) (.istore n) 2)) = true := hok
  unfold mstep at h
  dsimp only at h
  split at h
  · cases h
    intro pc' hpc' ad ca H locs cells slots la hC hL hst
    cases hpc.symm.trans hpc'
    simp only [Bool.and_eq_true, Bool.or_eq_true, decide_eq_true_eq] at hk
    rcases hk.2 with ⟨h4, hk1⟩ | hk1
    · obtain ⟨hd, hn⟩ := okS_spec hk1
      exact lv_istore_n C.1 C.2.1 hd (f4_val h4) hL.1 hk.1 rfl (fun lb hb => k _ hn ad ca H locs cells slots lb hC (hL.st1 (v := .inl _) trivial hb) (st_tl hst))
    · obtain ⟨hd, hn⟩ := okS_spec hk1
      exact lv_istore C.1 C.2.1 hd hL.1 hk.1 rfl (fun lb hb => k _ hn ad ca H locs cells slots lb hC (hL.st1 (v := .inl _) trivial hb) (st_tl hst))
  · cases h
theorem ms_astore (C : mCx p R s m args meth c D A b t L xs I d n0 s0 N1 S1) (hpc : nth I.2.2.2.2.2.2.2.2 ip = some pc) {n : Nat} (hok : okB I pc (nth I.2.2.2.2.2.2.2.2 (ip + 1)) (.astore n) v = true) (h : mstep L xs (.astore n) v ip ls st M = some (ip', ls', st', M')) (hb : M'.1.length ≤ N1 ∧ mSl M'.1 ≤ S1) (k : mGo p l e R s m args below meth c D A b t Z ad0 Q n0 s0 I ip' ls' st' M') : mGo p l e R s m args below meth c D A b t Z ad0 Q n0 s0 I ip ls st M := by
  have hk : (decide (n < I.2.2.2.1) && ((decide (n < 4) && okS I pc (nth I.2.2.2.2.2.2.2.2 (ip + 1)) (.astore_n (f4 n)) 1) || okS I pc (nth I.2.2.2.2.2.2.2.2 (ip + 1)) (.astore n) 2)) = true := hok
  unfold mstep at h
  dsimp only at h
  split at h
  · rename_i r st1
    cases h
    intro pc' hpc' ad ca H locs cells slots la hC hL hst
    cases hpc.symm.trans hpc'
    simp only [Bool.and_eq_true, Bool.or_eq_true, decide_eq_true_eq] at hk
    have ho := st_hd hst
    rcases hk.2 with ⟨h4, hk1⟩ | hk1
    · obtain ⟨hd, hn⟩ := okS_spec hk1
      cases r with
      | none => exact lv_astore_nN C.1 C.2.1 hd (f4_val h4) hL.1 hk.1 rfl (fun lb hb => k _ hn ad ca H locs cells slots lb hC (hL.st1 (v := .inr (.inr none)) ho hb) (st_tl hst))
      | some q => exact lv_astore_n C.1 C.2.1 hd (f4_val h4) hL.1 hk.1 rfl (fun lb hb => k _ hn ad ca H locs cells slots lb hC (hL.st1 (v := .inr (.inr (some q))) ho hb) (st_tl hst))
    · obtain ⟨hd, hn⟩ := okS_spec hk1
      cases r with
      | none => exact lv_astoreN C.1 C.2.1 hd hL.1 hk.1 rfl (fun lb hb => k _ hn ad ca H locs cells slots lb hC (hL.st1 (v := .inr (.inr none)) ho hb) (st_tl hst))
      | some q => exact lv_astore C.1 C.2.1 hd hL.1 hk.1 rfl (fun lb hb => k _ hn ad ca H locs cells slots lb hC (hL.st1 (v := .inr (.inr (some q))) ho hb) (st_tl hst))
  · cases h
theorem ms_lstore (C : mCx p R s m args meth c D A b t L xs I d n0 s0 N1 S1) (hpc : nth I.2.2.2.2.2.2.2.2 ip = some pc) {n : Nat} (hok : okB I pc (nth I.2.2.2.2.2.2.2.2 (ip + 1)) (.lstore n) v = true) (h : mstep L xs (.lstore n) v ip ls st M = some (ip', ls', st', M')) (hb : M'.1.length ≤ N1 ∧ mSl M'.1 ≤ S1) (k : mGo p l e R s m args below meth c D A b t Z ad0 Q n0 s0 I ip' ls' st' M') : mGo p l e R s m args below meth c D A b t Z ad0 Q n0 s0 I ip ls st M := by
  have hk : (decide (n + 1 < I.2.2.2.1) && ((decide (n < 4) && okS I pc (nth I.2.2.2.2.2.2.2.2 (ip + 1)) (.lstore_n (f4 n)) 1) || okS I pc (nth I.2.2.2.2.2.2.2.2 (ip + 1)) (.lstore n) 2)) = true := hok
  unfold mstep at h
  dsimp only at h
  split at h
  · cases h
    intro pc' hpc' ad ca H locs cells slots la hC hL hst
    cases hpc.symm.trans hpc'
    simp only [Bool.and_eq_true, Bool.or_eq_true, decide_eq_true_eq] at hk
    rcases hk.2 with ⟨h4, hk1⟩ | hk1
    · obtain ⟨hd, hn⟩ := okS_spec hk1
      exact lv_lstore_n C.1 C.2.1 hd (f4_val h4) hL.1 hk.1 rfl (fun lb hb => k _ hn ad ca H locs cells slots lb hC (hL.st2 (v := .inr (.inl _)) hk.1 trivial hb) (st_tl hst))
    · obtain ⟨hd, hn⟩ := okS_spec hk1
      exact lv_lstore C.1 C.2.1 hd hL.1 hk.1 rfl (fun lb hb => k _ hn ad ca H locs cells slots lb hC (hL.st2 (v := .inr (.inl _)) hk.1 trivial hb) (st_tl hst))
  · cases h
theorem ms_iinc (C : mCx p R s m args meth c D A b t L xs I d n0 s0 N1 S1) (hpc : nth I.2.2.2.2.2.2.2.2 ip = some pc) {n : Nat} {z : Int} (hok : okB I pc (nth I.2.2.2.2.2.2.2.2 (ip + 1)) (.iinc n z) v = true) (h : mstep L xs (.iinc n z) v ip ls st M = some (ip', ls', st', M')) (hb : M'.1.length ≤ N1 ∧ mSl M'.1 ≤ S1) (k : mGo p l e R s m args below meth c D A b t Z ad0 Q n0 s0 I ip' ls' st' M') : mGo p l e R s m args below meth c D A b t Z ad0 Q n0 s0 I ip ls st M := by
  unfold mstep at h
  dsimp only at h
  split at h
  · rename_i y x hx
    cases h
    have hk : (decide (n < I.2.2.2.1) && okS I pc (nth I.2.2.2.2.2.2.2.2 (ip + 1)) (.iinc n y.toInt) 3) = true := hok
    simp only [Bool.and_eq_true, decide_eq_true_eq] at hk
    obtain ⟨hd, hn⟩ := okS_spec hk.2
    intro pc' hpc' ad ca H locs cells slots la hC hL hst
    cases hpc.symm.trans hpc'
    obtain ⟨q, hq⟩ := List.getElem?_of_mem ((lvA_mem ad ls 0 (n, tv ad (.inl x))).mpr ⟨n, _, hx, by rw [Nat.zero_add]⟩)
    exact lv_iinc C.1 C.2.1 hd hL.1 hq (by rw [Int32.ofInt_toInt]) hk.1 rfl (fun lb hb => k _ hn ad ca H locs cells slots lb hC (hL.st1 (v := .inl _) trivial hb) hst)
  · cases h
theorem ms_iconst (C : mCx p R s m args meth c D A b t L xs I d n0 s0 N1 S1) (hpc : nth I.2.2.2.2.2.2.2.2 ip = some pc) {z : Int} (hok : okB I pc (nth I.2.2.2.2.2.2.2.2 (ip + 1)) (.iconst z) v = true) (h : mstep L xs (.iconst z) v ip ls st M = some (ip', ls', st', M')) (hb : M'.1.length ≤ N1 ∧ mSl M'.1 ≤ S1) (k : mGo p l e R s m args below meth c D A b t Z ad0 Q n0 s0 I ip' ls' st' M') : mGo p l e R s m args below meth c D A b t Z ad0 Q n0 s0 I ip ls st M := by
  unfold mstep at h
  dsimp only at h
  split at h
  · rename_i x
    cases h
    have hk : (okS I pc (nth I.2.2.2.2.2.2.2.2 (ip + 1)) (.iconst x.toInt) 1 || (okS I pc (nth I.2.2.2.2.2.2.2.2 (ip + 1)) (.bipush x.toInt) 2 && decide ((Int8.ofInt x.toInt).toInt32 = x)) || (okS I pc (nth I.2.2.2.2.2.2.2.2 (ip + 1)) (.sipush x.toInt) 3 && decide ((Int16.ofInt x.toInt).toInt32 = x)) ||
      tCI.any (fun q => decide (q.1 = I.1) && decide (q.2.2 = x) && (okS I pc (nth I.2.2.2.2.2.2.2.2 (ip + 1)) (.ldc q.2.1) 2 || okS I pc (nth I.2.2.2.2.2.2.2.2 (ip + 1)) (.ldc_w q.2.1) 3))) = true := hok
    intro pc' hpc' ad ca H locs cells slots la hC hL hst
    cases hpc.symm.trans hpc'
    simp only [Bool.or_eq_true, Bool.and_eq_true, decide_eq_true_eq, List.any_eq_true] at hk
    rcases hk with ((hk | ⟨hk, hx⟩) | ⟨hk, hx⟩) | ⟨q, hq, ⟨hq1, hq2⟩, hk⟩
    · obtain ⟨hd, hn⟩ := okS_spec hk
      exact lv_iconst C.1 C.2.1 hd (Int32.ofInt_toInt x) (k _ hn ad ca H locs cells slots la hC hL (st_cn trivial hst))
    · obtain ⟨hd, hn⟩ := okS_spec hk
      exact lv_bipush C.1 C.2.1 hd hx (k _ hn ad ca H locs cells slots la hC hL (st_cn trivial hst))
    · obtain ⟨hd, hn⟩ := okS_spec hk
      exact lv_sipush C.1 C.2.1 hd hx (k _ hn ad ca H locs cells slots la hC hL (st_cn trivial hst))
    · have hw : (Cond.constant (ownN I.1) q.2.1 x).before args s = true := by
        rw [← hq1, ← hq2]
        exact C.2.2.2.2.1 _ (tCI_in _ (List.mem_map.mpr ⟨q, hq, rfl⟩))
      rcases hk with hk | hk
      · obtain ⟨hd, hn⟩ := okS_spec hk
        exact lv_ldc C.1 C.2.1 C.2.2.2.1 hw hd (k _ hn ad ca H locs cells slots la hC hL (st_cn trivial hst))
      · obtain ⟨hd, hn⟩ := okS_spec hk
        exact lv_ldcw C.1 C.2.1 C.2.2.2.1 hw hd (k _ hn ad ca H locs cells slots la hC hL (st_cn trivial hst))
  · cases h
theorem ms_lconst (C : mCx p R s m args meth c D A b t L xs I d n0 s0 N1 S1) (hpc : nth I.2.2.2.2.2.2.2.2 ip = some pc) {z : Fin 2} (hok : okB I pc (nth I.2.2.2.2.2.2.2.2 (ip + 1)) (.lconst z) v = true) (h : mstep L xs (.lconst z) v ip ls st M = some (ip', ls', st', M')) (hb : M'.1.length ≤ N1 ∧ mSl M'.1 ≤ S1) (k : mGo p l e R s m args below meth c D A b t Z ad0 Q n0 s0 I ip' ls' st' M') : mGo p l e R s m args below meth c D A b t Z ad0 Q n0 s0 I ip ls st M := by
  unfold mstep at h
  dsimp only at h
  split at h
  · rename_i x
    cases h
    have hk : ((decide (x = 0) && okS I pc (nth I.2.2.2.2.2.2.2.2 (ip + 1)) (.lconst 0) 1) || (decide (x = 1) && okS I pc (nth I.2.2.2.2.2.2.2.2 (ip + 1)) (.lconst 1) 1) || tCL.any (fun q => decide (q.1 = I.1) && decide (q.2.2 = x) && okS I pc (nth I.2.2.2.2.2.2.2.2 (ip + 1)) (.ldc2_w q.2.1) 3)) = true := hok
    intro pc' hpc' ad ca H locs cells slots la hC hL hst
    cases hpc.symm.trans hpc'
    simp only [Bool.or_eq_true, Bool.and_eq_true, decide_eq_true_eq, List.any_eq_true] at hk
    rcases hk with (⟨hx, hk⟩ | ⟨hx, hk⟩) | ⟨q, hq, ⟨hq1, hq2⟩, hk⟩
    · obtain ⟨hd, hn⟩ := okS_spec hk
      exact lv_lconst C.1 C.2.1 hd (by rw [hx]; rfl) (k _ hn ad ca H locs cells slots la hC hL (st_cn trivial hst))
    · obtain ⟨hd, hn⟩ := okS_spec hk
      exact lv_lconst C.1 C.2.1 hd (by rw [hx]; rfl) (k _ hn ad ca H locs cells slots la hC hL (st_cn trivial hst))
    · have hw : (Cond.constantLong (ownN I.1) q.2.1 x).before args s = true := by
        rw [← hq1, ← hq2]
        exact C.2.2.2.2.1 _ (tCL_in _ (List.mem_map.mpr ⟨q, hq, rfl⟩))
      obtain ⟨hd, hn⟩ := okS_spec hk
      exact lv_ldc2 C.1 C.2.1 C.2.2.2.1 hw hd (k _ hn ad ca H locs cells slots la hC hL (st_cn trivial hst))
  · cases h
theorem ms_anull (C : mCx p R s m args meth c D A b t L xs I d n0 s0 N1 S1) (hpc : nth I.2.2.2.2.2.2.2.2 ip = some pc)  (hok : okB I pc (nth I.2.2.2.2.2.2.2.2 (ip + 1)) (.aconst_null) v = true) (h : mstep L xs (.aconst_null) v ip ls st M = some (ip', ls', st', M')) (hb : M'.1.length ≤ N1 ∧ mSl M'.1 ≤ S1) (k : mGo p l e R s m args below meth c D A b t Z ad0 Q n0 s0 I ip' ls' st' M') : mGo p l e R s m args below meth c D A b t Z ad0 Q n0 s0 I ip ls st M := by
  have hk : okS I pc (nth I.2.2.2.2.2.2.2.2 (ip + 1)) (.aconst_null) 1 = true := hok
  obtain ⟨hd, hn⟩ := okS_spec hk
  unfold mstep at h
  dsimp only at h
  cases h
  intro pc' hpc' ad ca H locs cells slots la hC hL hst
  cases hpc.symm.trans hpc'
  exact lv_null C.1 C.2.1 hd (k _ hn ad ca H locs cells slots la hC hL (st_cn trivial hst))
theorem ms_dup (C : mCx p R s m args meth c D A b t L xs I d n0 s0 N1 S1) (hpc : nth I.2.2.2.2.2.2.2.2 ip = some pc)  (hok : okB I pc (nth I.2.2.2.2.2.2.2.2 (ip + 1)) (.dup) v = true) (h : mstep L xs (.dup) v ip ls st M = some (ip', ls', st', M')) (hb : M'.1.length ≤ N1 ∧ mSl M'.1 ≤ S1) (k : mGo p l e R s m args below meth c D A b t Z ad0 Q n0 s0 I ip' ls' st' M') : mGo p l e R s m args below meth c D A b t Z ad0 Q n0 s0 I ip ls st M := by
  have hk : okS I pc (nth I.2.2.2.2.2.2.2.2 (ip + 1)) (.dup) 1 = true := hok
  obtain ⟨hd, hn⟩ := okS_spec hk
  unfold mstep at h
  dsimp only at h
  split at h
  · cases h
    intro pc' hpc' ad ca H locs cells slots la hC hL hst
    cases hpc.symm.trans hpc'
    exact lv_dup C.1 C.2.1 hd rfl (k _ hn ad ca H locs cells slots la hC hL (st_cn trivial hst))
  · rename_i r st1
    cases h
    intro pc' hpc' ad ca H locs cells slots la hC hL hst
    cases hpc.symm.trans hpc'
    exact lv_dup C.1 C.2.1 hd (tv_cat ad (.inr (.inr r))) (k _ hn ad ca H locs cells slots la hC hL (st_cn (st_hd hst) hst))
  · cases h
theorem ms_dup2 (C : mCx p R s m args meth c D A b t L xs I d n0 s0 N1 S1) (hpc : nth I.2.2.2.2.2.2.2.2 ip = some pc)  (hok : okB I pc (nth I.2.2.2.2.2.2.2.2 (ip + 1)) (.dup2) v = true) (h : mstep L xs (.dup2) v ip ls st M = some (ip', ls', st', M')) (hb : M'.1.length ≤ N1 ∧ mSl M'.1 ≤ S1) (k : mGo p l e R s m args below meth c D A b t Z ad0 Q n0 s0 I ip' ls' st' M') : mGo p l e R s m args below meth c D A b t Z ad0 Q n0 s0 I ip ls st M := by
  have hk : okS I pc (nth I.2.2.2.2.2.2.2.2 (ip + 1)) (.dup2) 1 = true := hok
  obtain ⟨hd, hn⟩ := okS_spec hk
  unfold mstep at h
  dsimp only at h
  split at h
  · rename_i x r st1
    cases h
    intro pc' hpc' ad ca H locs cells slots la hC hL hst
    cases hpc.symm.trans hpc'
    exact lv_dup2_11 C.1 C.2.1 hd rfl (tv_cat ad (.inr (.inr r))) (k _ hn ad ca H locs cells slots la hC hL (st_cn trivial (st_cn (st_hd (st_tl hst)) hst)))
  · cases h
theorem ms_goto (C : mCx p R s m args meth c D A b t L xs I d n0 s0 N1 S1) (hpc : nth I.2.2.2.2.2.2.2.2 ip = some pc) {z : Int} (hok : okB I pc (nth I.2.2.2.2.2.2.2.2 (ip + 1)) (.goto z) v = true) (h : mstep L xs (.goto z) v ip ls st M = some (ip', ls', st', M')) (hb : M'.1.length ≤ N1 ∧ mSl M'.1 ≤ S1) (k : mGo p l e R s m args below meth c D A b t Z ad0 Q n0 s0 I ip' ls' st' M') : mGo p l e R s m args below meth c D A b t Z ad0 Q n0 s0 I ip ls st M := by
  unfold mstep at h
  dsimp only at h
  cases h
  unfold okB at hok
  dsimp only at hok
  split at hok
  · rename_i off hd
    obtain ⟨tp, ht, he⟩ := okT_spec hok
    intro pc' hpc' ad ca H locs cells slots la hC hL hst
    cases hpc.symm.trans hpc'
    exact lv_goto C.1 C.2.1 hd he (k _ ht ad ca H locs cells slots la hC hL hst)
  · cases hok
theorem ms_ifnull (C : mCx p R s m args meth c D A b t L xs I d n0 s0 N1 S1) (hpc : nth I.2.2.2.2.2.2.2.2 ip = some pc) {z : Int} (hok : okB I pc (nth I.2.2.2.2.2.2.2.2 (ip + 1)) (.ifnull z) v = true) (h : mstep L xs (.ifnull z) v ip ls st M = some (ip', ls', st', M')) (hb : M'.1.length ≤ N1 ∧ mSl M'.1 ≤ S1) (k : mGo p l e R s m args below meth c D A b t Z ad0 Q n0 s0 I ip' ls' st' M') : mGo p l e R s m args below meth c D A b t Z ad0 Q n0 s0 I ip ls st M := by
  unfold okB at hok
  dsimp only at hok
  split at hok
  · rename_i off hd
    rw [Bool.and_eq_true] at hok
    obtain ⟨tp, ht, he⟩ := okT_spec hok.1
    have hn := okN_spec hok.2
    unfold mstep at h
    dsimp only at h
    split at h
    · cases h
      intro pc' hpc' ad ca H locs cells slots la hC hL hst
      cases hpc.symm.trans hpc'
      exact lv_ifnullN C.1 C.2.1 hd he (k _ ht ad ca H locs cells slots la hC hL (st_tl hst))
    · cases h
      intro pc' hpc' ad ca H locs cells slots la hC hL hst
      cases hpc.symm.trans hpc'
      exact lv_ifnull C.1 C.2.1 hd (k _ hn ad ca H locs cells slots la hC hL (st_tl hst))
    · cases h
  · cases hok
theorem ms_ifnonnull (C : mCx p R s m args meth c D A b t L xs I d n0 s0 N1 S1) (hpc : nth I.2.2.2.2.2.2.2.2 ip = some pc) {z : Int} (hok : okB I pc (nth I.2.2.2.2.2.2.2.2 (ip + 1)) (.ifnonnull z) v = true) (h : mstep L xs (.ifnonnull z) v ip ls st M = some (ip', ls', st', M')) (hb : M'.1.length ≤ N1 ∧ mSl M'.1 ≤ S1) (k : mGo p l e R s m args below meth c D A b t Z ad0 Q n0 s0 I ip' ls' st' M') : mGo p l e R s m args below meth c D A b t Z ad0 Q n0 s0 I ip ls st M := by
  unfold okB at hok
  dsimp only at hok
  split at hok
  · rename_i off hd
    rw [Bool.and_eq_true] at hok
    obtain ⟨tp, ht, he⟩ := okT_spec hok.1
    have hn := okN_spec hok.2
    unfold mstep at h
    dsimp only at h
    split at h
    · cases h
      intro pc' hpc' ad ca H locs cells slots la hC hL hst
      cases hpc.symm.trans hpc'
      exact lv_ifnonnullN C.1 C.2.1 hd (k _ hn ad ca H locs cells slots la hC hL (st_tl hst))
    · cases h
      intro pc' hpc' ad ca H locs cells slots la hC hL hst
      cases hpc.symm.trans hpc'
      exact lv_ifnonnull C.1 C.2.1 hd he (k _ ht ad ca H locs cells slots la hC hL (st_tl hst))
    · cases h
  · cases hok
theorem ms_icmp (C : mCx p R s m args meth c D A b t L xs I d n0 s0 N1 S1) (hpc : nth I.2.2.2.2.2.2.2.2 ip = some pc) {q : ClassFile.Cond} {z : Int} (hok : okB I pc (nth I.2.2.2.2.2.2.2.2 (ip + 1)) (.if_icmp q z) v = true) (h : mstep L xs (.if_icmp q z) v ip ls st M = some (ip', ls', st', M')) (hb : M'.1.length ≤ N1 ∧ mSl M'.1 ≤ S1) (k : mGo p l e R s m args below meth c D A b t Z ad0 Q n0 s0 I ip' ls' st' M') : mGo p l e R s m args below meth c D A b t Z ad0 Q n0 s0 I ip ls st M := by
  unfold okB at hok
  dsimp only at hok
  split at hok
  · rename_i q' off hd
    simp only [Bool.and_eq_true, decide_eq_true_eq] at hok
    obtain ⟨⟨hq, hT⟩, hN⟩ := hok
    subst hq
    obtain ⟨tp, ht, he⟩ := okT_spec hT
    have hn := okN_spec hN
    unfold mstep at h
    dsimp only at h
    split at h
    · cases q
      · dsimp only at h
        intro pc' hpc' ad ca H locs cells slots la hC hL hst
        cases hpc.symm.trans hpc'
        show W p l e R s m args below meth c H locs cells slots Q (F0 m pc la (.int _ :: .int _ :: List.map (tv ad) _))
        refine lv_icmp_eq C.1 C.2.1 hd he (fun hc => by rw [if_pos hc] at h; cases h; exact k _ ht ad ca H locs cells slots la hC hL (st_tl (st_tl hst))) (fun hc => by rw [if_neg hc] at h; cases h; exact k _ hn ad ca H locs cells slots la hC hL (st_tl (st_tl hst)))
      · dsimp only at h
        intro pc' hpc' ad ca H locs cells slots la hC hL hst
        cases hpc.symm.trans hpc'
        show W p l e R s m args below meth c H locs cells slots Q (F0 m pc la (.int _ :: .int _ :: List.map (tv ad) _))
        refine lv_icmp_ne C.1 C.2.1 hd he (fun hc => by rw [if_pos hc] at h; cases h; exact k _ ht ad ca H locs cells slots la hC hL (st_tl (st_tl hst))) (fun hc => by rw [if_neg (fun z => z hc)] at h; cases h; exact k _ hn ad ca H locs cells slots la hC hL (st_tl (st_tl hst)))
      · dsimp only at h
        intro pc' hpc' ad ca H locs cells slots la hC hL hst
        cases hpc.symm.trans hpc'
        show W p l e R s m args below meth c H locs cells slots Q (F0 m pc la (.int _ :: .int _ :: List.map (tv ad) _))
        refine lv_icmp_lt C.1 C.2.1 hd he (fun hc => by rw [if_pos hc] at h; cases h; exact k _ ht ad ca H locs cells slots la hC hL (st_tl (st_tl hst))) (fun hc => by rw [if_neg hc] at h; cases h; exact k _ hn ad ca H locs cells slots la hC hL (st_tl (st_tl hst)))
      · dsimp only at h
        intro pc' hpc' ad ca H locs cells slots la hC hL hst
        cases hpc.symm.trans hpc'
        show W p l e R s m args below meth c H locs cells slots Q (F0 m pc la (.int _ :: .int _ :: List.map (tv ad) _))
        refine lv_icmp_ge C.1 C.2.1 hd he (fun hc => by rw [if_pos hc] at h; cases h; exact k _ ht ad ca H locs cells slots la hC hL (st_tl (st_tl hst))) (fun hc => by rw [if_neg hc] at h; cases h; exact k _ hn ad ca H locs cells slots la hC hL (st_tl (st_tl hst)))
      · dsimp only at h
        intro pc' hpc' ad ca H locs cells slots la hC hL hst
        cases hpc.symm.trans hpc'
        show W p l e R s m args below meth c H locs cells slots Q (F0 m pc la (.int _ :: .int _ :: List.map (tv ad) _))
        refine lv_icmp_gt C.1 C.2.1 hd he (fun hc => by rw [if_pos hc] at h; cases h; exact k _ ht ad ca H locs cells slots la hC hL (st_tl (st_tl hst))) (fun hc => by rw [if_neg hc] at h; cases h; exact k _ hn ad ca H locs cells slots la hC hL (st_tl (st_tl hst)))
      · dsimp only at h
        intro pc' hpc' ad ca H locs cells slots la hC hL hst
        cases hpc.symm.trans hpc'
        show W p l e R s m args below meth c H locs cells slots Q (F0 m pc la (.int _ :: .int _ :: List.map (tv ad) _))
        refine lv_icmp_le C.1 C.2.1 hd he (fun hc => by rw [if_pos hc] at h; cases h; exact k _ ht ad ca H locs cells slots la hC hL (st_tl (st_tl hst))) (fun hc => by rw [if_neg hc] at h; cases h; exact k _ hn ad ca H locs cells slots la hC hL (st_tl (st_tl hst)))
    · cases h
  · cases hok
theorem ms_ifc (C : mCx p R s m args meth c D A b t L xs I d n0 s0 N1 S1) (hpc : nth I.2.2.2.2.2.2.2.2 ip = some pc) {q : ClassFile.Cond} {z : Int} (hok : okB I pc (nth I.2.2.2.2.2.2.2.2 (ip + 1)) (.ifCond q z) v = true) (h : mstep L xs (.ifCond q z) v ip ls st M = some (ip', ls', st', M')) (hb : M'.1.length ≤ N1 ∧ mSl M'.1 ≤ S1) (k : mGo p l e R s m args below meth c D A b t Z ad0 Q n0 s0 I ip' ls' st' M') : mGo p l e R s m args below meth c D A b t Z ad0 Q n0 s0 I ip ls st M := by
  unfold okB at hok
  dsimp only at hok
  split at hok
  · rename_i q' off hd
    simp only [Bool.and_eq_true, decide_eq_true_eq] at hok
    obtain ⟨⟨hq, hT⟩, hN⟩ := hok
    subst hq
    obtain ⟨tp, ht, he⟩ := okT_spec hT
    have hn := okN_spec hN
    unfold mstep at h
    dsimp only at h
    split at h
    · cases q
      · dsimp only at h
        intro pc' hpc' ad ca H locs cells slots la hC hL hst
        cases hpc.symm.trans hpc'
        show W p l e R s m args below meth c H locs cells slots Q (F0 m pc la (.int _ :: List.map (tv ad) _))
        refine lv_if_eq C.1 C.2.1 hd he (fun hc => by rw [if_pos hc] at h; cases h; exact k _ ht ad ca H locs cells slots la hC hL (st_tl hst)) (fun hc => by rw [if_neg hc] at h; cases h; exact k _ hn ad ca H locs cells slots la hC hL (st_tl hst))
      · dsimp only at h
        intro pc' hpc' ad ca H locs cells slots la hC hL hst
        cases hpc.symm.trans hpc'
        show W p l e R s m args below meth c H locs cells slots Q (F0 m pc la (.int _ :: List.map (tv ad) _))
        refine lv_if_ne C.1 C.2.1 hd he (fun hc => by rw [if_pos hc] at h; cases h; exact k _ ht ad ca H locs cells slots la hC hL (st_tl hst)) (fun hc => by rw [if_neg (fun z => z hc)] at h; cases h; exact k _ hn ad ca H locs cells slots la hC hL (st_tl hst))
      · dsimp only at h
        intro pc' hpc' ad ca H locs cells slots la hC hL hst
        cases hpc.symm.trans hpc'
        show W p l e R s m args below meth c H locs cells slots Q (F0 m pc la (.int _ :: List.map (tv ad) _))
        refine lv_if_lt C.1 C.2.1 hd he (fun hc => by rw [if_pos hc] at h; cases h; exact k _ ht ad ca H locs cells slots la hC hL (st_tl hst)) (fun hc => by rw [if_neg hc] at h; cases h; exact k _ hn ad ca H locs cells slots la hC hL (st_tl hst))
      · dsimp only at h
        intro pc' hpc' ad ca H locs cells slots la hC hL hst
        cases hpc.symm.trans hpc'
        show W p l e R s m args below meth c H locs cells slots Q (F0 m pc la (.int _ :: List.map (tv ad) _))
        refine lv_if_ge C.1 C.2.1 hd he (fun hc => by rw [if_pos hc] at h; cases h; exact k _ ht ad ca H locs cells slots la hC hL (st_tl hst)) (fun hc => by rw [if_neg hc] at h; cases h; exact k _ hn ad ca H locs cells slots la hC hL (st_tl hst))
      · dsimp only at h
        intro pc' hpc' ad ca H locs cells slots la hC hL hst
        cases hpc.symm.trans hpc'
        show W p l e R s m args below meth c H locs cells slots Q (F0 m pc la (.int _ :: List.map (tv ad) _))
        refine lv_if_gt C.1 C.2.1 hd he (fun hc => by rw [if_pos hc] at h; cases h; exact k _ ht ad ca H locs cells slots la hC hL (st_tl hst)) (fun hc => by rw [if_neg hc] at h; cases h; exact k _ hn ad ca H locs cells slots la hC hL (st_tl hst))
      · dsimp only at h
        intro pc' hpc' ad ca H locs cells slots la hC hL hst
        cases hpc.symm.trans hpc'
        show W p l e R s m args below meth c H locs cells slots Q (F0 m pc la (.int _ :: List.map (tv ad) _))
        refine lv_if_le C.1 C.2.1 hd he (fun hc => by rw [if_pos hc] at h; cases h; exact k _ ht ad ca H locs cells slots la hC hL (st_tl hst)) (fun hc => by rw [if_neg hc] at h; cases h; exact k _ hn ad ca H locs cells slots la hC hL (st_tl hst))
    · cases h
  · cases hok
theorem okTs_spec {I : mI} {pc : Nat} (os ts : List Int) (h : okTs I pc os ts = true) {j : Nat} {tg : Int} (hj : nth ts j = some tg) : ∃ off, nth os j = some off ∧ ∃ tp : Nat, nth I.2.2.2.2.2.2.2.2 tg.toNat = some tp ∧ (pc : Int) + off = (tp : Int) := by
  induction os generalizing ts j with
  | nil =>
    cases ts with
    | nil => cases hj
    | cons => cases h
  | cons o os ih =>
    cases ts with
    | nil => cases h
    | cons t ts =>
      rw [okTs, Bool.and_eq_true] at h
      cases j with
      | zero => cases hj; exact ⟨o, rfl, okT_spec h.1⟩
      | succ j => exact ih ts h.2 hj
theorem ms_tsw (C : mCx p R s m args meth c D A b t L xs I d n0 s0 N1 S1) (hpc : nth I.2.2.2.2.2.2.2.2 ip = some pc) {z lo hi : Int} {offs : Array Int} (hok : okB I pc (nth I.2.2.2.2.2.2.2.2 (ip + 1)) (.tableswitch z lo hi offs) v = true) (h : mstep L xs (.tableswitch z lo hi offs) v ip ls st M = some (ip', ls', st', M')) (hb : M'.1.length ≤ N1 ∧ mSl M'.1 ≤ S1) (k : mGo p l e R s m args below meth c D A b t Z ad0 Q n0 s0 I ip' ls' st' M') : mGo p l e R s m args below meth c D A b t Z ad0 Q n0 s0 I ip ls st M := by
  unfold okB at hok
  dsimp only at hok
  split at hok
  · rename_i d' lo' hi' offs' len hd
    simp only [Bool.and_eq_true, decide_eq_true_eq] at hok
    obtain ⟨⟨⟨hlo, hhi⟩, hT⟩, hTs⟩ := hok
    subst hlo
    subst hhi
    unfold mstep at h
    dsimp only at h
    split at h
    · split at h
      · rename_i hc
        cases h
        obtain ⟨tp, ht, he⟩ := okT_spec hT
        intro pc' hpc' ad ca H locs cells slots la hC hL hst
        cases hpc.symm.trans hpc'
        exact lv_tableOut C.1 C.2.1 hd hc he (k _ ht ad ca H locs cells slots la hC hL (st_tl hst))
      · rename_i hc
        split at h
        · rename_i tg hg
          cases h
          obtain ⟨off, ho, tp, ht, he⟩ := okTs_spec _ _ hTs hg
          intro pc' hpc' ad ca H locs cells slots la hC hL hst
          cases hpc.symm.trans hpc'
          exact lv_tableIn C.1 C.2.1 hd (fun q => hc (Or.inl q)) (fun q => hc (Or.inr q)) (by rw [← Array.getElem?_toList, ← nth_get]; exact ho) he (k _ ht ad ca H locs cells slots la hC hL (st_tl hst))
        · cases h
    · cases h
  · cases hok
end SND
end
section
/-! instructions that read, write or make cells -/
theorem mK_obj : ∀ k, k < 8 → nth mKs k = some (.inl k) := fun k h => match k, h with
  | 0, _ => rfl
  | 1, _ => rfl
  | 2, _ => rfl
  | 3, _ => rfl
  | 4, _ => rfl
  | 5, _ => rfl
  | 6, _ => rfl
  | 7, _ => rfl
  | n + 8, h => absurd h (by omega)
theorem mK_lt {k : Nat} {x : Nat ⊕ (FieldType × Nat)} (h : nth mKs k = some x) : k < 52 := nth_lt h
def okTy : FieldType → Bool
  | .int => true
  | .boolean => true
  | .long => true
  | .object _ => true
  | .array _ => true
  | _ => false
theorem cl_okTy : ∀ ci, ci < 8 → ∀ j, j < mNf ci → okTy (mTy ci j) = true := by decide +kernel
def mElB (k : Nat) : Bool := match nth mKs k with
  | some (.inr (.object C, _)) => decide (C = mRn (mEl k)) && decide (mEl k < 8)
  | some (.inr (ty, n)) => decide (n ≤ 1110) && (decide (ty = .int) || decide (ty = .byte) || decide (ty = .boolean))
  | some (.inl ci) => decide (ci = k) && decide (k < 8)
  | none => true
theorem mElB_ok : ∀ k, k < 52 → mElB k = true := by decide +kernel
theorem mEl_ok {k n : Nat} {C : String} (h : nth mKs k = some (.inr (.object C, n))) : C = mRn (mEl k) ∧ mEl k < 8 := by
  have h1 := mElB_ok k (mK_lt h)
  unfold mElB at h1
  rw [h] at h1
  simpa only [Bool.and_eq_true, decide_eq_true_eq] using h1
theorem mK_inl {k ci : Nat} (h : nth mKs k = some (.inl ci)) : ci = k ∧ k < 8 := by
  have h1 := mElB_ok k (mK_lt h)
  unfold mElB at h1
  rw [h] at h1
  simpa only [Bool.and_eq_true, decide_eq_true_eq] using h1
theorem mK_n {k n : Nat} {ty : FieldType} (h : nth mKs k = some (.inr (ty, n))) (ho : ∀ C, ty ≠ .object C) : n ≤ 1110 ∧ (ty = .int ∨ ty = .byte ∨ ty = .boolean) := by
  have h1 := mElB_ok k (mK_lt h)
  unfold mElB at h1
  rw [h] at h1
  cases ty <;> simp_all
theorem mWs_at {M : mM} (ad : Nat → Nat → Nat) (ca : Nat → Nat → ClassId) {r : Nat × Nat} (h : r ∈ M.1) : ∃ q0 : Nat, M.1[q0]? = some r ∧ (mWs M ad ca)[q0]? = some (ad r.1 r.2, mE M ad ca r) := by
  obtain ⟨q0, hq⟩ := List.getElem?_of_mem h
  refine ⟨q0, hq, ?_⟩
  unfold mWs
  rw [List.getElem?_map, hq]
  rfl
theorem mWs_set {A : Nat → Prop} {M M' : mM} {ad : Nat → Nat → Nat} {ca : Nat → Nat → ClassId} {r : Nat × Nat} {q0 : Nat} {e' : va_E} (hD : va_D A (mWs M ad ca)) (hq : M.1[q0]? = some r) (h1 : M'.1 = M.1) (h2 : mE M' ad ca r = e') (h3 : ∀ r', r' ≠ r → mE M' ad ca r' = mE M ad ca r') : mWs M' ad ca = (mWs M ad ca).set q0 (ad r.1 r.2, e') := by
  refine List.ext_getElem? (fun j => ?_)
  have hlen : q0 < (mWs M ad ca).length := by
    unfold mWs
    rw [List.length_map]
    exact (List.getElem?_eq_some_iff.mp hq).1
  rw [List.getElem?_set]
  by_cases hj : q0 = j
  · subst hj
    rw [if_pos rfl, if_pos hlen]
    unfold mWs
    rw [List.getElem?_map, h1, hq]
    show some (ad r.1 r.2, mE M' ad ca r) = _
    rw [h2]
  · rw [if_neg hj]
    unfold mWs
    rw [List.getElem?_map, List.getElem?_map, h1]
    cases hr : M.1[j]? with
    | none => rfl
    | some r' =>
      show some (ad r'.1 r'.2, mE M' ad ca r') = some (ad r'.1 r'.2, mE M ad ca r')
      rw [h3 r' (fun e => hj ?_)]
      subst e
      refine hD.1 q0 j (ad r'.1 r'.2, mE M ad ca r') (ad r'.1 r'.2, mE M ad ca r') ?_ ?_ rfl
      · unfold mWs
        rw [List.getElem?_map, hq]
        rfl
      · unfold mWs
        rw [List.getElem?_map, hr]
        rfl
theorem mE_congr {M M' : mM} {ad ad' : Nat → Nat → Nat} {ca ca' : Nat → Nat → ClassId} {r : Nat × Nat} (h1 : ∀ j, (M'.2.1 r.1 r.2 j).map (fun q => ad' q.1 q.2) = (M.2.1 r.1 r.2 j).map (fun q => ad q.1 q.2)) (h2 : ∀ j, M'.2.2.1 r.1 r.2 j = M.2.2.1 r.1 r.2 j) (h3 : ∀ j, M'.2.2.2 r.1 r.2 j = M.2.2.2 r.1 r.2 j) (h4 : ca' r.1 r.2 = ca r.1 r.2) : mE M' ad' ca' r = mE M ad ca r := by
  have hF : mFv M' ad' r.1 r.2 = mFv M ad r.1 r.2 := by
    funext j
    unfold mFv
    rw [h1 j, h2 j, h3 j]
  have hA : ∀ ty, mAr M' ad' ty r.1 r.2 = mAr M ad ty r.1 r.2 := by
    intro ty
    have e2 : M'.2.2.1 r.1 r.2 = M.2.2.1 r.1 r.2 := funext h2
    have e1 : (fun j => (M'.2.1 r.1 r.2 j).map (fun q => ad' q.1 q.2)) = (fun j => (M.2.1 r.1 r.2 j).map (fun q => ad q.1 q.2)) := funext h1
    unfold mAr
    rw [e1, e2]
  unfold mE
  rw [hF, h4]
  simp only [hA]
theorem up3_ne {α : Type} {f : Nat → Nat → Nat → α} {k i j : Nat} {v : α} {r : Nat × Nat} (h : r ≠ (k, i)) (j' : Nat) : up3 f k i j v r.1 r.2 j' = f r.1 r.2 j' := by
  unfold up3
  rw [if_neg]
  rintro ⟨h1, h2, -⟩
  exact h (Prod.ext h1 h2)
theorem up2_ne {α : Type} {f : Nat → Nat → Nat → α} {k i : Nat} {g : Nat → α} {r : Nat × Nat} (h : r ≠ (k, i)) (j' : Nat) : up2 f k i g r.1 r.2 j' = f r.1 r.2 j' := by
  unfold up2
  rw [if_neg]
  rintro ⟨h1, h2⟩
  exact h (Prod.ext h1 h2)
theorem up3_eq {α : Type} (f : Nat → Nat → Nat → α) (k i j : Nat) (v : α) : up3 f k i j v k i j = v := if_pos ⟨rfl, rfl, rfl⟩
theorem up3_nj {α : Type} {f : Nat → Nat → Nat → α} {k i j j' : Nat} {v : α} (h : j' ≠ j) : up3 f k i j v k i j' = f k i j' := if_neg (fun q => h q.2.2)
theorem up2_eq {α : Type} (f : Nat → Nat → Nat → α) (k i : Nat) (g : Nat → α) : up2 f k i g k i = g := funext fun _ => if_pos ⟨rfl, rfl⟩
theorem up3_fun {α : Type} (f : Nat → Nat → Nat → Int32) (k i j : Nat) (v : Int32) : up3 f k i j v k i = upd (f k i) j v := by
  funext j'
  unfold up3 upd
  by_cases h : j' = j
  · rw [if_pos ⟨rfl, rfl, h⟩, if_pos h]
  · rw [if_neg (fun q => h q.2.2), if_neg h]
theorem mMap_set {M M' : mM} {ad : Nat → Nat → Nat} {k i j N : Nat} {v : Value} (hj : j < N) (h1 : mFv M' ad k i j = v) (h2 : ∀ j', j' ≠ j → mFv M' ad k i j' = mFv M ad k i j') : (List.range N).map (mFv M' ad k i) = ((List.range N).map (mFv M ad k i)).set j v := by
  refine List.ext_getElem? (fun x => ?_)
  rw [List.getElem?_set, List.getElem?_map, List.getElem?_map]
  by_cases hx : j = x
  · subst hx
    rw [if_pos rfl, if_pos (by rw [List.length_map, List.length_range]; exact hj), List.getElem?_range hj, Option.map_some, h1]
  · rw [if_neg hx]
    cases hr : (List.range N)[x]? with
    | none => rfl
    | some y =>
      have hy : y = x := by
        obtain ⟨hl, e⟩ := List.getElem?_eq_some_iff.mp hr
        rw [List.getElem_range] at e
        exact e.symm
      rw [hy, Option.map_some, Option.map_some, h2 x (fun e => hx e.symm)]
theorem rOK_in {M : mM} {k i : Nat} (h : rOK M (.inr (.inr (some (k, i))))) (hk : k < 52) : (k, i) ∈ M.1 := by
  rcases h with h | h | h
  · exact h
  · cases h; omega
  · cases h; omega
theorem mK1 {s : State} {D : va_G} {cA : ClassId} {ty : FieldType} (h : ∀ (c : Nat) (q : vw_C), vwCl[c]? = some q → u_Kn s q.1 q.2.1 q.2.2 (D.1 c) (D.2 c)) (hT : ArrOfT s cA ty ∧ va_RA s cA ty) : va_K D vwCl [(cA, ty)] s := ⟨h, fun j q hj => by
  cases j with
  | zero => cases hj; exact hT
  | succ j => cases hj⟩
theorem mK0 {s : State} {D : va_G} (h : ∀ (c : Nat) (q : vw_C), vwCl[c]? = some q → u_Kn s q.1 q.2.1 q.2.2 (D.1 c) (D.2 c)) : va_K D vwCl [] s := ⟨h, fun j q hj => by cases hj⟩
theorem mE_obj {M : mM} {ad : Nat → Nat → Nat} {ca : Nat → Nat → ClassId} {k i : Nat} (hk : k < 8) : mE M ad ca (k, i) = .inr (k, (List.range (mNf k)).map (mFv M ad k i)) := by
  unfold mE
  rw [mK_obj k hk]
theorem mE_arr {M : mM} {ad : Nat → Nat → Nat} {ca : Nat → Nat → ClassId} {k i n : Nat} {ty : FieldType} (hk : nth mKs k = some (.inr (ty, n))) : mE M ad ca (k, i) = .inl (ca k i, n, mAr M ad ty k i) := by
  unfold mE
  rw [hk]
theorem mRows {M : mM} {ad : Nat → Nat → Nat} {k i j N : Nat} (hj : j < N) : ((List.range N).map (mFv M ad k i))[j]? = some (mFv M ad k i j) := by
  rw [List.getElem?_map, List.getElem?_range hj, Option.map_some]
theorem mSum {st : List mV} {ad : Nat → Nat → Nat} : ((st.map (tv ad)).map fun v => v.category).sum = mCats st := by
  induction st with
  | nil => rfl
  | cons a l ih =>
    rw [List.map_cons, List.map_cons, List.sum_cons, ih, tv_cat]
    rfl
section SNH
variable {p : Program} {l : Launch} {e : Env} {R : Room} {s : State} {m : MethodId} {args : Array Value} {below : List Frame} {meth : Method} {c : Code} {D : va_G} {A : Nat → Prop} {b t L : Nat} {Z : List (Nat × Nat)} {ad0 : Nat → Nat → Nat} {xs : Nat → Int32} {I : mI} {d n0 s0 N1 S1 : Nat} {Q : State → Prop} {ip pc ip' : Nat} {ls ls' : List (Option mV)} {st st' : List mV} {M M' : mM} {v : Value}
theorem ms_get (C : mCx p R s m args meth c D A b t L xs I d n0 s0 N1 S1) (hpc : nth I.2.2.2.2.2.2.2.2 ip = some pc) {ci j : Nat} (hok : okB I pc (nth I.2.2.2.2.2.2.2.2 (ip + 1)) (.invokeinterface ci j) v = true) (h : mstep L xs (.invokeinterface ci j) v ip ls st M = some (ip', ls', st', M')) (hb : M'.1.length ≤ N1 ∧ mSl M'.1 ≤ S1) (k : mGo p l e R s m args below meth c D A b t Z ad0 Q n0 s0 I ip' ls' st' M') : mGo p l e R s m args below meth c D A b t Z ad0 Q n0 s0 I ip ls st M := by
  have hk : tFT.any (fun q => decide (q.1 = I.1) && decide (q.2.2.1 = ci) && decide (q.2.2.2 = j) && okS I pc (nth I.2.2.2.2.2.2.2.2 (ip + 1)) (.getfield q.2.1) 3) = true := hok
  simp only [List.any_eq_true, Bool.and_eq_true, decide_eq_true_eq] at hk
  obtain ⟨q, hq, ⟨⟨hq1, hq2⟩, hq3⟩, hk⟩ := hk
  obtain ⟨hd, hn⟩ := okS_spec hk
  obtain ⟨hc8, hjn, hcl⟩ := tFT_ok q hq
  have hw : (wFT q).before args s = true := C.2.2.2.2.1 _ (tFT_in _ (List.mem_map.mpr ⟨q, hq, rfl⟩))
  unfold wFT at hw
  rw [hq1, hq2, hq3] at hw
  rw [hq2, hq3] at hcl hjn
  rw [hq2] at hc8
  have key : ∀ i (x : mV), (∀ ad, tv ad x = mFv M ad ci i j) → (∀ r, x = .inr (.inr r) → r = M.2.1 ci i j) → ∀ st1, st = .inr (.inr (some (ci, i))) :: st1 → mGo p l e R s m args below meth c D A b t Z ad0 Q n0 s0 I (ip + 1) ls (x :: st1) M → mGo p l e R s m args below meth c D A b t Z ad0 Q n0 s0 I ip ls st M := by
    intro i x hx hx2 st1 e0 k
    subst e0
    intro pc' hpc' ad ca H locs cells slots la hC hL hst
    cases hpc.symm.trans hpc'
    have hin := rOK_in (st_hd hst) (by omega)
    obtain ⟨q0, hq0, hq9⟩ := mWs_at ad ca hin
    rw [mE_obj hc8] at hq9
    show W p l e R s m args below meth c H locs cells slots Q (F0 m pc la (.ref (ad ci i) :: List.map (tv ad) st1))
    refine va_get (D := D) (v := mFv M ad ci i j) C.1 C.2.1 C.2.2.2.2.1 (cl_in ci hc8) C.2.2.2.1 (mK0 C.2.2.2.2.2.1) hC.1 q0 hq9 (cl_at ci hc8) j hjn hw (fun y hy => by rw [← hcl]; exact hy) (mRows hjn) hd ?_
    have hg := k _ hn ad ca H locs cells slots la hC hL (st_cn ?_ (st_tl hst))
    · rw [List.map_cons, hx ad] at hg
      exact hg
    · rcases x with x | x | r
      · trivial
      · trivial
      · rw [hx2 r rfl]
        exact hC.2.2.2.2.1 (ci, i) hin j
  unfold mstep at h
  dsimp only at h
  split at h
  · rename_i k1 i st1
    split at h
    · rename_i hkc
      subst hkc
      split at h
      · rename_i ht
        cases h
        exact key i (.inl (M.2.2.1 k1 i j)) (fun ad => by unfold mFv; rw [ht]; rfl) (fun r hr => by cases hr) _ rfl k
      · rename_i ht
        cases h
        exact key i (.inl (M.2.2.1 k1 i j)) (fun ad => by unfold mFv; rw [ht]; rfl) (fun r hr => by cases hr) _ rfl k
      · rename_i ht
        cases h
        exact key i (.inr (.inl (M.2.2.2 k1 i j))) (fun ad => by unfold mFv; rw [ht]; rfl) (fun r hr => by cases hr) _ rfl k
      · rename_i ht
        cases h
        exact key i (.inr (.inr (M.2.1 k1 i j))) (fun ad => by unfold mFv; rw [ht]; rfl) (fun r hr => by cases hr; rfl) _ rfl k
      · rename_i ht
        cases h
        exact key i (.inr (.inr (M.2.1 k1 i j))) (fun ad => by unfold mFv; rw [ht]; rfl) (fun r hr => by cases hr; rfl) _ rfl k
      · cases h
    · cases h
  · cases h
end SNH
end
section
theorem rOK_same {M M' : mM} (h : M'.1 = M.1) (v : mV) : rOK M' v ↔ rOK M v := by
  rcases v with x | x | r
  · exact Iff.rfl
  · exact Iff.rfl
  · cases r with
    | none => exact Iff.rfl
    | some r =>
      show (r ∈ M'.1 ∨ r = (100, 0) ∨ r = (101, 0)) ↔ (r ∈ M.1 ∨ r = (100, 0) ∨ r = (101, 0))
      rw [h]
theorem mLo_same {n0 s0 ml : Nat} {ls : List (Option mV)} {M M' : mM} {ad : Nat → Nat → Nat} {cells slots : Nat} {la : Array Slot} (e : M'.1 = M.1) (h : mLo n0 s0 ml ls M ad cells slots la) : mLo n0 s0 ml ls M' ad cells slots la :=
  ⟨h.1, h.2.1, fun v hv => (rOK_same e v).mpr (h.2.2.1 v hv), by rw [e]; exact h.2.2.2.1, by rw [e]; exact h.2.2.2.2⟩
theorem mCe_set {s : State} {D : va_G} {A : Nat → Prop} {b t : Nat} {Z : List (Nat × Nat)} {ad0 : Nat → Nat → Nat} {M M' : mM} {ad : Nat → Nat → Nat} {ca : Nat → Nat → ClassId} {H H1 : Heap} {locs locs1 : List Loc} {q0 : Nat} {r : Nat × Nat} {e' : va_E} (hC : mCe s D A b t Z ad0 M ad ca H locs) (hq : M.1[q0]? = some r) (h1 : M'.1 = M.1) (h2 : mE M' ad ca r = e') (h3 : ∀ r', r' ≠ r → mE M' ad ca r' = mE M ad ca r') (hcl : ∀ r ∈ M.1, ∀ j, rOK M (.inr (.inr (M'.2.1 r.1 r.2 j)))) (hP : va_P D vwCl ((mWs M ad ca).set q0 (ad r.1 r.2, e')) H1) (hD : va_D A ((mWs M ad ca).set q0 (ad r.1 r.2, e'))) (hS : va_S A s.heap H1 locs1) : mCe s D A b t Z ad0 M' ad ca H1 locs1 := by
  have e := mWs_set hC.2.1 hq h1 h2 h3
  refine ⟨by rw [e]; exact hP, by rw [e]; exact hD, hS, by rw [h1]; exact hC.2.2.2.1, fun r hr j => (rOK_same h1 _).mpr (hcl r (by rw [← h1]; exact hr) j), by rw [h1]; exact hC.2.2.2.2.2.1, hC.2.2.2.2.2.2.1, hC.2.2.2.2.2.2.2.1, by rw [h1]; exact hC.2.2.2.2.2.2.2.2⟩
section SNP
variable {p : Program} {l : Launch} {e : Env} {R : Room} {s : State} {m : MethodId} {args : Array Value} {below : List Frame} {meth : Method} {c : Code} {D : va_G} {A : Nat → Prop} {b t L : Nat} {Z : List (Nat × Nat)} {ad0 : Nat → Nat → Nat} {xs : Nat → Int32} {I : mI} {d n0 s0 N1 S1 : Nat} {Q : State → Prop} {ip pc ip' : Nat} {ls ls' : List (Option mV)} {st st' : List mV} {M M' : mM} {v : Value}
theorem ms_put (C : mCx p R s m args meth c D A b t L xs I d n0 s0 N1 S1) (hpc : nth I.2.2.2.2.2.2.2.2 ip = some pc) {ci j : Nat} (hok : okB I pc (nth I.2.2.2.2.2.2.2.2 (ip + 1)) (.multianewarray ci j) v = true) (h : mstep L xs (.multianewarray ci j) v ip ls st M = some (ip', ls', st', M')) (hb : M'.1.length ≤ N1 ∧ mSl M'.1 ≤ S1) (k : mGo p l e R s m args below meth c D A b t Z ad0 Q n0 s0 I ip' ls' st' M') : mGo p l e R s m args below meth c D A b t Z ad0 Q n0 s0 I ip ls st M := by
  have hk : tFT.any (fun q => decide (q.1 = I.1) && decide (q.2.2.1 = ci) && decide (q.2.2.2 = j) && okS I pc (nth I.2.2.2.2.2.2.2.2 (ip + 1)) (.putfield q.2.1) 3 && (!(mFt ci j).2.2.2 || (decide (I.2.1.name = "<init>") && decide (I.1 = ci)))) = true := hok
  simp only [List.any_eq_true, Bool.and_eq_true, decide_eq_true_eq, Bool.or_eq_true, Bool.not_eq_true'] at hk
  obtain ⟨q, hq, ⟨⟨⟨hq1, hq2⟩, hq3⟩, hk⟩, hfin⟩ := hk
  obtain ⟨hd, hn⟩ := okS_spec hk
  obtain ⟨hc8, hjn, hcl⟩ := tFT_ok q hq
  have hw : (wFT q).before args s = true := C.2.2.2.2.1 _ (tFT_in _ (List.mem_map.mpr ⟨q, hq, rfl⟩))
  unfold wFT at hw
  rw [hq1, hq2, hq3] at hw
  rw [hq2, hq3] at hcl hjn
  rw [hq2] at hc8
  have key : ∀ i (x : mV) (M1 : mM), M1.1 = M.1 → (∀ ad, mFv M1 ad ci i j = tv ad x) → (∀ ad j', j' ≠ j → mFv M1 ad ci i j' = mFv M ad ci i j') → (∀ ad ca r', r' ≠ (ci, i) → mE M1 ad ca r' = mE M ad ca r') → (∀ ad, narrow (mTy ci j) (tv ad x) = tv ad x ∧ fits (mTy ci j) (tv ad x) = true) →
      (∀ (r : Nat × Nat) (j' : Nat), M1.2.1 r.1 r.2 j' = M.2.1 r.1 r.2 j' ∨ x = .inr (.inr (M1.2.1 r.1 r.2 j'))) → ∀ st1, st = x :: .inr (.inr (some (ci, i))) :: st1 → mGo p l e R s m args below meth c D A b t Z ad0 Q n0 s0 I (ip + 1) ls st1 M1 → mGo p l e R s m args below meth c D A b t Z ad0 Q n0 s0 I ip ls st M := by
    intro i x M1 e1 hx hx2 hE hnf hcl2 st1 e0 k
    subst e0
    intro pc' hpc' ad ca H locs cells slots la hC hL hst
    cases hpc.symm.trans hpc'
    have hin := rOK_in (st_hd (st_tl hst)) (by omega)
    obtain ⟨q0, hq0, hq9⟩ := mWs_at ad ca hin
    rw [mE_obj hc8] at hq9
    have hset : mE M1 ad ca (ci, i) = .inr (ci, ((List.range (mNf ci)).map (mFv M ad ci i)).set j (tv ad x)) := by
      rw [mE_obj hc8, mMap_set hjn (hx ad) (hx2 ad)]
    have hclo : ∀ r ∈ M.1, ∀ j', rOK M (.inr (.inr (M1.2.1 r.1 r.2 j'))) := fun r hr j' => by
      rcases hcl2 r j' with e2 | e2
      · rw [e2]; exact hC.2.2.2.2.1 r hr j'
      · rw [← e2]; exact st_hd hst
    have hfs : j < ((List.range (mNf ci)).map (mFv M ad ci i)).length := by rw [List.length_map, List.length_range]; exact hjn
    show W p l e R s m args below meth c H locs cells slots Q (F0 m pc la (tv ad x :: .ref (ad ci i) :: List.map (tv ad) st1))
    by_cases hf : (mFt ci j).2.2.2 = true
    · have hin2 : I.2.1.name = "<init>" ∧ I.1 = ci := by
        rcases hfin with h0 | h0
        · rw [h0] at hf; cases hf
        · exact h0
      have hown : s.vm.findClass (mRn ci) = some m.cls := by
        have h1 := C.2.2.2.1
        rw [hin2.2] at h1
        rw [show mRn ci = ownN ci from ?_]
        · exact h1
        · match ci, hc8 with
          | 0, _ => rfl
          | 1, _ => rfl
          | 2, _ => rfl
          | 3, _ => rfl
          | 4, _ => rfl
          | 5, _ => rfl
          | 6, _ => rfl
          | 7, _ => rfl
          | n + 8, h => exact absurd h (by omega)
      have hwo : (Cond.fieldLink (mRn ci) q.2.1 (mRn ci) (mFt ci j).2.1 (mFt ci j).2.2.1).before args s = true := by
        rw [hin2.2] at hw
        rw [show mRn ci = ownN ci from ?_]
        · rw [show mRn ci = ownN ci from ?_] at hw
          · exact hw
          · match ci, hc8 with
            | 0, _ => rfl
            | 1, _ => rfl
            | 2, _ => rfl
            | 3, _ => rfl
            | 4, _ => rfl
            | 5, _ => rfl
            | 6, _ => rfl
            | 7, _ => rfl
            | n + 8, h => exact absurd h (by omega)
        · match ci, hc8 with
          | 0, _ => rfl
          | 1, _ => rfl
          | 2, _ => rfl
          | 3, _ => rfl
          | 4, _ => rfl
          | 5, _ => rfl
          | 6, _ => rfl
          | 7, _ => rfl
          | n + 8, h => exact absurd h (by omega)
      exact va_putF (D := D) (v := tv ad x) (ty := mTy ci j) C.1 C.2.1 C.2.2.2.2.1 (cl_in ci hc8) (mTy ci) (cl_ty ci hc8) (cl_nm ci hc8) hown (mK0 C.2.2.2.2.2.1) hC.1 hC.2.1 hC.2.2.1 q0 hq9 (cl_at ci hc8) j hjn hwo (fun y hy => by rw [← hcl]; exact hy) hf (C.2.2.2.2.2.2.2.2.2.2.2.1 hin2.1) hcl (cl_ty ci hc8 j hjn) (hnf ad).1 (hnf ad).2 hfs hd
        (fun H1 locs1 hP hD hS => k _ hn ad ca H1 locs1 cells slots la (mCe_set hC hq0 e1 hset (hE ad ca) hclo hP hD hS) (mLo_same e1 hL) (fun w hw => (rOK_same e1 w).mpr (st_tl (st_tl hst) w hw)))
    · exact va_put (D := D) (v := tv ad x) (ty := mTy ci j) C.1 C.2.1 C.2.2.2.2.1 (cl_in ci hc8) (mTy ci) (cl_ty ci hc8) (cl_nm ci hc8) C.2.2.2.1 (mK0 C.2.2.2.2.2.1) hC.1 hC.2.1 hC.2.2.1 q0 hq9 (cl_at ci hc8) j hjn hw (fun y hy => by rw [← hcl]; exact hy) (by simpa using hf) (cl_ty ci hc8 j hjn) (hnf ad).1 (hnf ad).2 hfs hd
        (fun H1 locs1 hP hD hS => k _ hn ad ca H1 locs1 cells slots la (mCe_set hC hq0 e1 hset (hE ad ca) hclo hP hD hS) (mLo_same e1 hL) (fun w hw => (rOK_same e1 w).mpr (st_tl (st_tl hst) w hw)))
  unfold mstep at h
  dsimp only at h
  split at h
  · rename_i x k1 i st1
    split at h
    · rename_i hkc
      subst hkc
      split at h
      · rename_i ht
        cases h
        exact key i (.inl x) (M.1, M.2.1, up3 M.2.2.1 k1 i j x, M.2.2.2) rfl (fun ad => by unfold mFv; rw [ht]; simp only [up3_eq]; rfl) (fun ad j' hj => by unfold mFv; simp only [up3_nj hj]) (fun ad ca r' hr => mE_congr (fun _ => rfl) (fun j' => up3_ne hr j') (fun _ => rfl) rfl) (fun ad => by rw [ht]; exact ⟨rfl, rfl⟩) (fun r j' => Or.inl rfl) _ rfl k
      · rename_i ht
        split at h
        · rename_i h01
          cases h
          exact key i (.inl x) (M.1, M.2.1, up3 M.2.2.1 k1 i j x, M.2.2.2) rfl (fun ad => by unfold mFv; rw [ht]; simp only [up3_eq]; rfl) (fun ad j' hj => by unfold mFv; simp only [up3_nj hj]) (fun ad ca r' hr => mE_congr (fun _ => rfl) (fun j' => up3_ne hr j') (fun _ => rfl) rfl) (fun ad => by rw [ht]; rcases h01 with h01 | h01 <;> rw [h01] <;> exact ⟨rfl, rfl⟩) (fun r j' => Or.inl rfl) _ rfl k
        · cases h
      · cases h
    · cases h
  · rename_i y k1 i st1
    split at h
    · rename_i hkc
      subst hkc
      split at h
      · rename_i ht
        cases h
        exact key i (.inr (.inl y)) (M.1, M.2.1, M.2.2.1, up3 M.2.2.2 k1 i j y) rfl (fun ad => by unfold mFv; rw [ht]; simp only [up3_eq]; rfl) (fun ad j' hj => by unfold mFv; simp only [up3_nj hj]) (fun ad ca r' hr => mE_congr (fun _ => rfl) (fun _ => rfl) (fun j' => up3_ne hr j') rfl) (fun ad => by rw [ht]; exact ⟨rfl, rfl⟩) (fun r j' => Or.inl rfl) _ rfl k
      · cases h
    · cases h
  · rename_i r k1 i st1
    have hcl3 : ∀ (r' : Nat × Nat) (j' : Nat), up3 M.2.1 k1 i j r r'.1 r'.2 j' = M.2.1 r'.1 r'.2 j' ∨ (.inr (.inr r) : mV) = .inr (.inr (up3 M.2.1 k1 i j r r'.1 r'.2 j')) := by
      intro r' j'
      unfold up3
      split
      · exact Or.inr rfl
      · exact Or.inl rfl
    split at h
    · rename_i hkc
      subst hkc
      split at h
      · rename_i ht
        cases h
        exact key i (.inr (.inr r)) (M.1, up3 M.2.1 k1 i j r, M.2.2.1, M.2.2.2) rfl (fun ad => by unfold mFv; rw [ht]; simp only [up3_eq]; rfl) (fun ad j' hj => by unfold mFv; simp only [up3_nj hj]) (fun ad ca r' hr => mE_congr (fun j' => by simp only [up3_ne hr j']) (fun _ => rfl) (fun _ => rfl) rfl) (fun ad => by rw [ht]; cases r <;> exact ⟨rfl, rfl⟩) hcl3 _ rfl k
      · rename_i ht
        cases h
        exact key i (.inr (.inr r)) (M.1, up3 M.2.1 k1 i j r, M.2.2.1, M.2.2.2) rfl (fun ad => by unfold mFv; rw [ht]; simp only [up3_eq]; rfl) (fun ad j' hj => by unfold mFv; simp only [up3_nj hj]) (fun ad ca r' hr => mE_congr (fun j' => by simp only [up3_ne hr j']) (fun _ => rfl) (fun _ => rfl) rfl) (fun ad => by rw [ht]; cases r <;> exact ⟨rfl, rfl⟩) hcl3 _ rfl k
      · cases h
    · cases h
  · cases h
end SNP
end
section
section SNA
variable {p : Program} {l : Launch} {e : Env} {R : Room} {s : State} {m : MethodId} {args : Array Value} {below : List Frame} {meth : Method} {c : Code} {D : va_G} {A : Nat → Prop} {b t L : Nat} {Z : List (Nat × Nat)} {ad0 : Nat → Nat → Nat} {xs : Nat → Int32} {I : mI} {d n0 s0 N1 S1 : Nat} {Q : State → Prop} {ip pc ip' : Nat} {ls ls' : List (Option mV)} {st st' : List mV} {M M' : mM} {v : Value}
theorem ms_iaload (C : mCx p R s m args meth c D A b t L xs I d n0 s0 N1 S1) (hpc : nth I.2.2.2.2.2.2.2.2 ip = some pc)  (hok : okB I pc (nth I.2.2.2.2.2.2.2.2 (ip + 1)) (.iaload) v = true) (h : mstep L xs (.iaload) v ip ls st M = some (ip', ls', st', M')) (hb : M'.1.length ≤ N1 ∧ mSl M'.1 ≤ S1) (k : mGo p l e R s m args below meth c D A b t Z ad0 Q n0 s0 I ip' ls' st' M') : mGo p l e R s m args below meth c D A b t Z ad0 Q n0 s0 I ip ls st M := by
  have hk : okS I pc (nth I.2.2.2.2.2.2.2.2 (ip + 1)) (.iaload) 1 = true := hok
  obtain ⟨hd, hn⟩ := okS_spec hk
  unfold mstep at h
  dsimp only at h
  split at h
  · rename_i x k1 i zst1
    split at h
    · rename_i hk1
      split at h
      · cases h
      · rename_i hin
        cases h
        intro pc' hpc' ad ca H locs cells slots la hC hL hst
        cases hpc.symm.trans hpc'
        subst hk1
        have hr : i = 0 := by
          rcases st_hd (st_tl hst) with h1 | h1 | h1
          · exact absurd (show 100 < 52 from hC.2.2.2.2.2.1 _ h1) (by decide)
          · cases h1; rfl
          · cases h1
        subst hr
        show W p l e R s m args below meth c H locs cells slots Q (F0 m pc la (.int x :: .ref (ad 100 0) :: List.map (tv ad) _))
        rw [hC.2.2.2.2.2.2.1]
        exact va_sld C.1 C.2.1 C.2.2.2.2.2.2.2.1.1 C.2.2.2.2.2.2.2.1.2.1 C.2.2.2.2.2.2.2.1.2.2 hC.2.2.1 hin hd (k _ hn ad ca H locs cells slots la hC hL (st_cn trivial (st_tl (st_tl hst))))
    · split at h
      · rename_i n hkd
        split at h
        · cases h
        · rename_i hin
          cases h
          intro pc' hpc' ad ca H locs cells slots la hC hL hst
          cases hpc.symm.trans hpc'
          have hm := rOK_in (st_hd (st_tl hst)) (mK_lt hkd)
          obtain ⟨q0, hq0, hq9⟩ := mWs_at ad ca hm
          rw [mE_arr hkd] at hq9
          show W p l e R s m args below meth c H locs cells slots Q (F0 m pc la (.int x :: .ref (ad k1 i) :: List.map (tv ad) _))
          exact va_iald (D := D) (f := M.2.2.1 k1 i) C.1 C.2.1 (mK1 C.2.2.2.2.2.1 (hC.2.2.2.1 _ hm _ _ hkd)) hC.1 q0 0 hq9 rfl hin hd (k _ hn ad ca H locs cells slots la hC hL (st_cn trivial (st_tl (st_tl hst))))
      · cases h
  · cases h
theorem ms_baload (C : mCx p R s m args meth c D A b t L xs I d n0 s0 N1 S1) (hpc : nth I.2.2.2.2.2.2.2.2 ip = some pc)  (hok : okB I pc (nth I.2.2.2.2.2.2.2.2 (ip + 1)) (.baload) v = true) (h : mstep L xs (.baload) v ip ls st M = some (ip', ls', st', M')) (hb : M'.1.length ≤ N1 ∧ mSl M'.1 ≤ S1) (k : mGo p l e R s m args below meth c D A b t Z ad0 Q n0 s0 I ip' ls' st' M') : mGo p l e R s m args below meth c D A b t Z ad0 Q n0 s0 I ip ls st M := by
  have hk : okS I pc (nth I.2.2.2.2.2.2.2.2 (ip + 1)) (.baload) 1 = true := hok
  obtain ⟨hd, hn⟩ := okS_spec hk
  unfold mstep at h
  dsimp only at h
  split at h
  · rename_i x k1 i zst1
    split at h
    · rename_i n hkd
      split at h
      · cases h
      · rename_i hin
        cases h
        intro pc' hpc' ad ca H locs cells slots la hC hL hst
        cases hpc.symm.trans hpc'
        have hm := rOK_in (st_hd (st_tl hst)) (mK_lt hkd)
        obtain ⟨q0, hq0, hq9⟩ := mWs_at ad ca hm
        rw [mE_arr hkd] at hq9
        show W p l e R s m args below meth c H locs cells slots Q (F0 m pc la (.int x :: .ref (ad k1 i) :: List.map (tv ad) _))
        exact va_bald (D := D) (f := M.2.2.1 k1 i) C.1 C.2.1 (mK1 C.2.2.2.2.2.1 (hC.2.2.2.1 _ hm _ _ hkd)) hC.1 q0 0 hq9 rfl hin hd (k _ hn ad ca H locs cells slots la hC hL (st_cn trivial (st_tl (st_tl hst))))
    · rename_i n hkd
      split at h
      · cases h
      · rename_i hin
        cases h
        intro pc' hpc' ad ca H locs cells slots la hC hL hst
        cases hpc.symm.trans hpc'
        have hm := rOK_in (st_hd (st_tl hst)) (mK_lt hkd)
        obtain ⟨q0, hq0, hq9⟩ := mWs_at ad ca hm
        rw [mE_arr hkd] at hq9
        show W p l e R s m args below meth c H locs cells slots Q (F0 m pc la (.int x :: .ref (ad k1 i) :: List.map (tv ad) _))
        exact va_zald (D := D) (f := M.2.2.1 k1 i) C.1 C.2.1 (mK1 C.2.2.2.2.2.1 (hC.2.2.2.1 _ hm _ _ hkd)) hC.1 q0 0 hq9 rfl hin hd (k _ hn ad ca H locs cells slots la hC hL (st_cn trivial (st_tl (st_tl hst))))
    · cases h
  · cases h
theorem ms_caload (C : mCx p R s m args meth c D A b t L xs I d n0 s0 N1 S1) (hpc : nth I.2.2.2.2.2.2.2.2 ip = some pc)  (hok : okB I pc (nth I.2.2.2.2.2.2.2.2 (ip + 1)) (.caload) v = true) (h : mstep L xs (.caload) v ip ls st M = some (ip', ls', st', M')) (hb : M'.1.length ≤ N1 ∧ mSl M'.1 ≤ S1) (k : mGo p l e R s m args below meth c D A b t Z ad0 Q n0 s0 I ip' ls' st' M') : mGo p l e R s m args below meth c D A b t Z ad0 Q n0 s0 I ip ls st M := by
  have hk : okS I pc (nth I.2.2.2.2.2.2.2.2 (ip + 1)) (.caload) 1 = true := hok
  obtain ⟨hd, hn⟩ := okS_spec hk
  unfold mstep at h
  dsimp only at h
  split at h
  · rename_i x k1 i zst1
    split at h
    · rename_i hk1
      split at h
      · cases h
      · rename_i hin
        cases h
        intro pc' hpc' ad ca H locs cells slots la hC hL hst
        cases hpc.symm.trans hpc'
        subst hk1
        have hr : i = 0 := by
          rcases st_hd (st_tl hst) with h1 | h1 | h1
          · exact absurd (show 101 < 52 from hC.2.2.2.2.2.1 _ h1) (by decide)
          · cases h1
          · cases h1; rfl
        subst hr
        show W p l e R s m args below meth c H locs cells slots Q (F0 m pc la (.int x :: .ref (ad 101 0) :: List.map (tv ad) _))
        rw [hC.2.2.2.2.2.2.2.1]
        exact va_tc C.1 C.2.1 C.2.2.2.2.2.2.2.2.2.1 hC.2.2.1 hin rfl hd (k _ hn ad ca H locs cells slots la hC hL (st_cn trivial (st_tl (st_tl hst))))
    · cases h
  · cases h
theorem ms_aaload (C : mCx p R s m args meth c D A b t L xs I d n0 s0 N1 S1) (hpc : nth I.2.2.2.2.2.2.2.2 ip = some pc)  (hok : okB I pc (nth I.2.2.2.2.2.2.2.2 (ip + 1)) (.aaload) v = true) (h : mstep L xs (.aaload) v ip ls st M = some (ip', ls', st', M')) (hb : M'.1.length ≤ N1 ∧ mSl M'.1 ≤ S1) (k : mGo p l e R s m args below meth c D A b t Z ad0 Q n0 s0 I ip' ls' st' M') : mGo p l e R s m args below meth c D A b t Z ad0 Q n0 s0 I ip ls st M := by
  have hk : okS I pc (nth I.2.2.2.2.2.2.2.2 (ip + 1)) (.aaload) 1 = true := hok
  obtain ⟨hd, hn⟩ := okS_spec hk
  unfold mstep at h
  dsimp only at h
  split at h
  · rename_i x k1 i zst1
    split at h
    · rename_i cn n hkd
      split at h
      · cases h
      · rename_i hin
        cases h
        intro pc' hpc' ad ca H locs cells slots la hC hL hst
        cases hpc.symm.trans hpc'
        have hm := rOK_in (st_hd (st_tl hst)) (mK_lt hkd)
        obtain ⟨q0, hq0, hq9⟩ := mWs_at ad ca hm
        rw [mE_arr hkd] at hq9
        show W p l e R s m args below meth c H locs cells slots Q (F0 m pc la (.int x :: .ref (ad k1 i) :: List.map (tv ad) _))
        exact va_aldq (D := D) (f := fun j => (M.2.1 k1 i j).map fun (q : Nat × Nat) => ad q.1 q.2) C.1 C.2.1 (mK1 C.2.2.2.2.2.1 (hC.2.2.2.1 _ hm _ _ hkd)) hC.1 q0 0 hq9 rfl hin hd (k _ hn ad ca H locs cells slots la hC hL (st_cn (hC.2.2.2.2.1 _ hm _) (st_tl (st_tl hst))))
    · cases h
  · cases h
theorem ms_iastore (C : mCx p R s m args meth c D A b t L xs I d n0 s0 N1 S1) (hpc : nth I.2.2.2.2.2.2.2.2 ip = some pc)  (hok : okB I pc (nth I.2.2.2.2.2.2.2.2 (ip + 1)) (.iastore) v = true) (h : mstep L xs (.iastore) v ip ls st M = some (ip', ls', st', M')) (hb : M'.1.length ≤ N1 ∧ mSl M'.1 ≤ S1) (k : mGo p l e R s m args below meth c D A b t Z ad0 Q n0 s0 I ip' ls' st' M') : mGo p l e R s m args below meth c D A b t Z ad0 Q n0 s0 I ip ls st M := by
  have hk : okS I pc (nth I.2.2.2.2.2.2.2.2 (ip + 1)) (.iastore) 1 = true := hok
  obtain ⟨hd, hn⟩ := okS_spec hk
  unfold mstep at h
  dsimp only at h
  split at h
  · rename_i y x k1 i zst1
    split at h
    · rename_i n hkd
      split at h
      · cases h
      · rename_i hin
        cases h
        intro pc' hpc' ad ca H locs cells slots la hC hL hst
        cases hpc.symm.trans hpc'
        have hm := rOK_in (st_hd (st_tl (st_tl hst))) (mK_lt hkd)
        obtain ⟨q0, hq0, hq9⟩ := mWs_at ad ca hm
        rw [mE_arr hkd] at hq9
        show W p l e R s m args below meth c H locs cells slots Q (F0 m pc la (.int y :: .int x :: .ref (ad k1 i) :: List.map (tv ad) _))
        refine va_iast (D := D) (f := M.2.2.1 k1 i) C.1 C.2.1 (mK1 C.2.2.2.2.2.1 (hC.2.2.2.1 _ hm _ _ hkd)) hC.1 hC.2.1 hC.2.2.1 q0 0 hq9 rfl hin hd (fun H1 locs1 hP hD hS => k _ hn ad ca H1 locs1 cells slots la (mCe_set hC hq0 rfl ?_ (fun r' hr => mE_congr (fun _ => rfl) (fun j' => up3_ne hr j') (fun _ => rfl) rfl) hC.2.2.2.2.1 hP hD hS) (mLo_same rfl hL) (fun w hw => (rOK_same rfl w).mpr (st_tl (st_tl (st_tl hst)) w hw)))
        rw [mE_arr hkd]
        show Sum.inl (ca k1 i, n, Sum.inl (up3 M.2.2.1 k1 i x.toNatClampNeg y k1 i)) = _
        rw [up3_fun (α := Int32)]
    · cases h
  · cases h
theorem ms_bastore (C : mCx p R s m args meth c D A b t L xs I d n0 s0 N1 S1) (hpc : nth I.2.2.2.2.2.2.2.2 ip = some pc)  (hok : okB I pc (nth I.2.2.2.2.2.2.2.2 (ip + 1)) (.bastore) v = true) (h : mstep L xs (.bastore) v ip ls st M = some (ip', ls', st', M')) (hb : M'.1.length ≤ N1 ∧ mSl M'.1 ≤ S1) (k : mGo p l e R s m args below meth c D A b t Z ad0 Q n0 s0 I ip' ls' st' M') : mGo p l e R s m args below meth c D A b t Z ad0 Q n0 s0 I ip ls st M := by
  have hk : okS I pc (nth I.2.2.2.2.2.2.2.2 (ip + 1)) (.bastore) 1 = true := hok
  obtain ⟨hd, hn⟩ := okS_spec hk
  unfold mstep at h
  dsimp only at h
  split at h
  · rename_i y x k1 i zst1
    split at h
    · rename_i n hkd
      split at h
      · cases h
      · rename_i hin
        cases h
        intro pc' hpc' ad ca H locs cells slots la hC hL hst
        cases hpc.symm.trans hpc'
        have hm := rOK_in (st_hd (st_tl (st_tl hst))) (mK_lt hkd)
        obtain ⟨q0, hq0, hq9⟩ := mWs_at ad ca hm
        rw [mE_arr hkd] at hq9
        show W p l e R s m args below meth c H locs cells slots Q (F0 m pc la (.int y :: .int x :: .ref (ad k1 i) :: List.map (tv ad) _))
        refine va_bast (D := D) (f := M.2.2.1 k1 i) C.1 C.2.1 (mK1 C.2.2.2.2.2.1 (hC.2.2.2.1 _ hm _ _ hkd)) hC.1 hC.2.1 hC.2.2.1 q0 0 hq9 rfl hin hd (fun H1 locs1 hP hD hS => k _ hn ad ca H1 locs1 cells slots la (mCe_set hC hq0 rfl ?_ (fun r' hr => mE_congr (fun _ => rfl) (fun j' => up3_ne hr j') (fun _ => rfl) rfl) hC.2.2.2.2.1 hP hD hS) (mLo_same rfl hL) (fun w hw => (rOK_same rfl w).mpr (st_tl (st_tl (st_tl hst)) w hw)))
        rw [mE_arr hkd]
        show Sum.inl (ca k1 i, n, Sum.inl (up3 M.2.2.1 k1 i x.toNatClampNeg (vp_nar .byte y) k1 i)) = _
        rw [up3_fun (α := Int32)]
    · rename_i n hkd
      split at h
      · cases h
      · rename_i hin
        cases h
        intro pc' hpc' ad ca H locs cells slots la hC hL hst
        cases hpc.symm.trans hpc'
        have hm := rOK_in (st_hd (st_tl (st_tl hst))) (mK_lt hkd)
        obtain ⟨q0, hq0, hq9⟩ := mWs_at ad ca hm
        rw [mE_arr hkd] at hq9
        show W p l e R s m args below meth c H locs cells slots Q (F0 m pc la (.int y :: .int x :: .ref (ad k1 i) :: List.map (tv ad) _))
        refine va_zast (D := D) (f := M.2.2.1 k1 i) C.1 C.2.1 (mK1 C.2.2.2.2.2.1 (hC.2.2.2.1 _ hm _ _ hkd)) hC.1 hC.2.1 hC.2.2.1 q0 0 hq9 rfl hin hd (fun H1 locs1 hP hD hS => k _ hn ad ca H1 locs1 cells slots la (mCe_set hC hq0 rfl ?_ (fun r' hr => mE_congr (fun _ => rfl) (fun j' => up3_ne hr j') (fun _ => rfl) rfl) hC.2.2.2.2.1 hP hD hS) (mLo_same rfl hL) (fun w hw => (rOK_same rfl w).mpr (st_tl (st_tl (st_tl hst)) w hw)))
        rw [mE_arr hkd]
        show Sum.inl (ca k1 i, n, Sum.inl (up3 M.2.2.1 k1 i x.toNatClampNeg (vp_nar .boolean y) k1 i)) = _
        rw [up3_fun (α := Int32)]
    · cases h
  · cases h
theorem up3_funr (f : Nat → Nat → Nat → Option (Nat × Nat)) (ad : Nat → Nat → Nat) (k i j : Nat) (r : Nat × Nat) : (fun j' => (up3 f k i j (some r) k i j').map fun q => ad q.1 q.2) = va_up (fun j' => (f k i j').map fun q => ad q.1 q.2) j (some (ad r.1 r.2)) := by
  funext j'
  unfold up3 va_up
  by_cases h : j' = j
  · rw [if_pos ⟨rfl, rfl, h⟩, if_pos h]; rfl
  · rw [if_neg (fun q => h q.2.2), if_neg h]
theorem ms_aastore (C : mCx p R s m args meth c D A b t L xs I d n0 s0 N1 S1) (hpc : nth I.2.2.2.2.2.2.2.2 ip = some pc)  (hok : okB I pc (nth I.2.2.2.2.2.2.2.2 (ip + 1)) (.aastore) v = true) (h : mstep L xs (.aastore) v ip ls st M = some (ip', ls', st', M')) (hb : M'.1.length ≤ N1 ∧ mSl M'.1 ≤ S1) (k : mGo p l e R s m args below meth c D A b t Z ad0 Q n0 s0 I ip' ls' st' M') : mGo p l e R s m args below meth c D A b t Z ad0 Q n0 s0 I ip ls st M := by
  have hk : okS I pc (nth I.2.2.2.2.2.2.2.2 (ip + 1)) (.aastore) 1 = true := hok
  obtain ⟨hd, hn⟩ := okS_spec hk
  unfold mstep at h
  dsimp only at h
  split at h
  · rename_i k2 i2 x k1 i zst1
    split at h
    · rename_i hel
      split at h
      · rename_i cn n hkd
        split at h
        · cases h
        · rename_i hin
          cases h
          intro pc' hpc' ad ca H locs cells slots la hC hL hst
          cases hpc.symm.trans hpc'
          obtain ⟨hcn, hel8⟩ := mEl_ok hkd
          rw [hel] at hcn hel8
          subst hcn
          have hm := rOK_in (st_hd (st_tl (st_tl hst))) (mK_lt hkd)
          have hm2 := rOK_in (st_hd hst) (by omega)
          obtain ⟨q0, hq0, hq9⟩ := mWs_at ad ca hm
          obtain ⟨q1, hq1, hq8⟩ := mWs_at ad ca hm2
          rw [mE_arr hkd] at hq9
          rw [mE_obj hel8] at hq8
          show W p l e R s m args below meth c H locs cells slots Q (F0 m pc la (.ref (ad k2 i2) :: .int x :: .ref (ad k1 i) :: List.map (tv ad) _))
          refine va_astq (D := D) (r := (mRn k2, mFt k2, mNf k2)) (f := fun j => (M.2.1 k1 i j).map fun (q : Nat × Nat) => ad q.1 q.2) C.1 C.2.1 (mK1 C.2.2.2.2.2.1 (hC.2.2.2.1 _ hm _ _ hkd)) hC.1 hC.2.1 hC.2.2.1 q0 0 q1 k2 hq9 rfl hq8 (cl_at k2 hel8) hin hd (fun H1 locs1 hP hD hS => k _ hn ad ca H1 locs1 cells slots la (mCe_set hC hq0 rfl ?_ (fun r' hr => mE_congr (fun j' => by simp only [up3_ne hr j']) (fun _ => rfl) (fun _ => rfl) rfl) (fun r hr j' => ?_) hP hD hS) (mLo_same rfl hL) (fun w hw => (rOK_same rfl w).mpr (st_tl (st_tl (st_tl hst)) w hw)))
          · rw [mE_arr hkd]
            show Sum.inl (ca k1 i, n, Sum.inr (Sum.inr (Sum.inr (Sum.inr (fun j' => (up3 M.2.1 k1 i x.toNatClampNeg (some (k2, i2)) k1 i j').map fun q => ad q.1 q.2))))) = _
            rw [up3_funr]
          · show rOK M (.inr (.inr (up3 M.2.1 k1 i x.toNatClampNeg (some (k2, i2)) r.1 r.2 j')))
            unfold up3
            split
            · exact st_hd hst
            · exact hC.2.2.2.2.1 r hr j'
      · cases h
    · cases h
  · cases h
theorem ms_alen (C : mCx p R s m args meth c D A b t L xs I d n0 s0 N1 S1) (hpc : nth I.2.2.2.2.2.2.2.2 ip = some pc)  (hok : okB I pc (nth I.2.2.2.2.2.2.2.2 (ip + 1)) (.arraylength) v = true) (h : mstep L xs (.arraylength) v ip ls st M = some (ip', ls', st', M')) (hb : M'.1.length ≤ N1 ∧ mSl M'.1 ≤ S1) (k : mGo p l e R s m args below meth c D A b t Z ad0 Q n0 s0 I ip' ls' st' M') : mGo p l e R s m args below meth c D A b t Z ad0 Q n0 s0 I ip ls st M := by
  have hk : okS I pc (nth I.2.2.2.2.2.2.2.2 (ip + 1)) (.arraylength) 1 = true := hok
  obtain ⟨hd, hn⟩ := okS_spec hk
  unfold mstep at h
  dsimp only at h
  split at h
  · rename_i k1 i zst1
    split at h
    · rename_i hk1
      cases h
      intro pc' hpc' ad ca H locs cells slots la hC hL hst
      cases hpc.symm.trans hpc'
      subst hk1
      have hr : i = 0 := by
        rcases st_hd hst with h1 | h1 | h1
        · exact absurd (show 100 < 52 from hC.2.2.2.2.2.1 _ h1) (by decide)
        · cases h1; rfl
        · cases h1
      subst hr
      show W p l e R s m args below meth c H locs cells slots Q (F0 m pc la (.ref (ad 100 0) :: List.map (tv ad) _))
      rw [hC.2.2.2.2.2.2.1]
      exact va_slen C.1 C.2.1 C.2.2.2.2.2.2.2.1.1 C.2.2.2.2.2.2.2.1.2.1 C.2.2.2.2.2.2.2.1.2.2 hC.2.2.1 hd (k _ hn ad ca H locs cells slots la hC hL (st_cn trivial (st_tl hst)))
    · split at h
      · rename_i ty n hkd
        cases h
        intro pc' hpc' ad ca H locs cells slots la hC hL hst
        cases hpc.symm.trans hpc'
        have hm := rOK_in (st_hd hst) (mK_lt hkd)
        obtain ⟨q0, hq0, hq9⟩ := mWs_at ad ca hm
        rw [mE_arr hkd] at hq9
        show W p l e R s m args below meth c H locs cells slots Q (F0 m pc la (.ref (ad k1 i) :: List.map (tv ad) _))
        exact va_alen (D := D) C.1 C.2.1 (mK1 C.2.2.2.2.2.1 (hC.2.2.2.1 _ hm _ _ hkd)) hC.1 q0 0 hq9 rfl rfl hd (k _ hn ad ca H locs cells slots la hC hL (st_cn trivial (st_tl hst)))
      · cases h
  · cases h
end SNA
end
section
/-! making cells, and the calls that the library answers for -/
theorem mHas_not {l : List (Nat × Nat)} {k i : Nat} (h : ¬ mHas l k i = true) : (k, i) ∉ l := by
  induction l with
  | nil => exact List.not_mem_nil
  | cons r l ih =>
    unfold mHas at h
    split at h
    · exact absurd rfl h
    · rename_i hne
      intro hm
      rcases List.mem_cons.mp hm with e | hm
      · exact hne (by rw [← e]; exact ⟨rfl, rfl⟩)
      · exact ih h hm
def adU (ad : Nat → Nat → Nat) (k i q : Nat) : Nat → Nat → Nat := fun k' i' => if k' = k ∧ i' = i then q else ad k' i'
theorem adU_ne {ad : Nat → Nat → Nat} {k i q : Nat} {r : Nat × Nat} (h : r ≠ (k, i)) : adU ad k i q r.1 r.2 = ad r.1 r.2 := by
  unfold adU
  rw [if_neg]
  rintro ⟨h1, h2⟩
  exact h (Prod.ext h1 h2)
theorem adU_eq (ad : Nat → Nat → Nat) (k i q : Nat) : adU ad k i q k i = q := if_pos ⟨rfl, rfl⟩
theorem rOK_ne {M : mM} {k i : Nat} {r : Nat × Nat} (h : rOK M (.inr (.inr (some r)))) (hn : (k, i) ∉ M.1) (hk : k < 52) : r ≠ (k, i) := by
  rintro rfl
  rcases h with h | h | h
  · exact hn h
  · cases h; omega
  · cases h; omega
theorem map_adU {M : mM} {ad : Nat → Nat → Nat} {k i q : Nat} {r : Option (Nat × Nat)} (h : rOK M (.inr (.inr r))) (hn : (k, i) ∉ M.1) (hk : k < 52) : r.map (fun q' => adU ad k i q q'.1 q'.2) = r.map (fun q' => ad q'.1 q'.2) := by
  cases r with
  | none => rfl
  | some r => rw [Option.map_some, Option.map_some, adU_ne (rOK_ne h hn hk)]
theorem tv_adU {M : mM} {ad : Nat → Nat → Nat} {k i q : Nat} {v : mV} (h : rOK M v) (hn : (k, i) ∉ M.1) (hk : k < 52) : tv (adU ad k i q) v = tv ad v := by
  rcases v with x | x | r
  · rfl
  · rfl
  · show va_rf (r.map (fun q' => adU ad k i q q'.1 q'.2)) = va_rf (r.map (fun q' => ad q'.1 q'.2))
    rw [map_adU h hn hk]
theorem lvA_adU {M : mM} {ad : Nat → Nat → Nat} {k i q : Nat} {ls : List (Option mV)} (h : ∀ v, some v ∈ ls → rOK M v) (hn : (k, i) ∉ M.1) (hk : k < 52) (n : Nat) : lvA (adU ad k i q) n ls = lvA ad n ls := by
  induction ls generalizing n with
  | nil => rfl
  | cons a l ih =>
    cases a with
    | none => exact ih (fun v hv => h v (List.mem_cons_of_mem _ hv)) (n + 1)
    | some w =>
      unfold lvA
      rw [ih (fun v hv => h v (List.mem_cons_of_mem _ hv)) (n + 1), tv_adU (h w List.mem_cons_self) hn hk]
theorem mSl_app (l : List (Nat × Nat)) (r : Nat × Nat) : mSl (l ++ [r]) = mSl l + mSz r.1 := by
  induction l with
  | nil => show mSz r.1 + mSl [] = 0 + mSz r.1; rw [show mSl [] = 0 from rfl]; omega
  | cons a l ih =>
    show mSz a.1 + mSl (l ++ [r]) = mSz a.1 + mSl l + mSz r.1
    rw [ih]; omega
theorem mAlloc {s : State} {D : va_G} {A : Nat → Prop} {Z : List (Nat × Nat)} {ad0 : Nat → Nat → Nat} {b t n0 s0 ml cells slots k i q : Nat} {cA : ClassId} {ls : List (Option mV)} {st : List mV} {M M' : mM} {ad : Nat → Nat → Nat} {ca : Nat → Nat → ClassId} {H H1 : Heap} {locs : List Loc} {la : Array Slot}
    (hC : mCe s D A b t Z ad0 M ad ca H locs) (hL : mLo n0 s0 ml ls M ad cells slots la) (hst : ∀ v ∈ st, rOK M v) (hn : (k, i) ∉ M.1) (hk : k < 52) (h1 : M'.1 = M.1 ++ [(k, i)]) (h2 : ∀ r : Nat × Nat, r ≠ (k, i) → ∀ j, M'.2.1 r.1 r.2 j = M.2.1 r.1 r.2 j) (h3 : ∀ r : Nat × Nat, r ≠ (k, i) → ∀ j, M'.2.2.1 r.1 r.2 j = M.2.2.1 r.1 r.2 j) (h4 : ∀ r : Nat × Nat, r ≠ (k, i) → ∀ j, M'.2.2.2 r.1 r.2 j = M.2.2.2 r.1 r.2 j) (h5 : ∀ j, M'.2.1 k i j = none)
    (hT : ∀ ty n, nth mKs k = some (.inr (ty, n)) → ArrOfT s cA ty ∧ va_RA s cA ty) {e : va_E} (he : mE M' (adU ad k i q) (adU ca k i cA) (k, i) = e) (hP : va_P D vwCl (mWs M ad ca ++ [(q, e)]) H1) (hD : va_D A (mWs M ad ca ++ [(q, e)])) (hS : va_S A s.heap H1 locs) :
    mCe s D A b t Z ad0 M' (adU ad k i q) (adU ca k i cA) H1 locs ∧ mLo n0 s0 ml ls M' (adU ad k i q) (cells + 1) (slots + mSz k) la ∧ st.map (tv (adU ad k i q)) = st.map (tv ad) ∧ (∀ v ∈ st, rOK M' v) ∧ rOK M' (.inr (.inr (some (k, i)))) := by
  have hmono : ∀ v, rOK M v → rOK M' v := by
    intro v hv
    rcases v with x | x | r
    · trivial
    · trivial
    · cases r with
      | none => trivial
      | some r =>
        rcases hv with hv | hv
        · exact Or.inl (by rw [h1]; exact List.mem_append_left _ hv)
        · exact Or.inr hv
  have hne : ∀ r ∈ M.1, r ≠ (k, i) := fun r hr e => hn (by rw [← e]; exact hr)
  have hws : mWs M' (adU ad k i q) (adU ca k i cA) = mWs M ad ca ++ [(q, e)] := by
    unfold mWs
    rw [h1, List.map_append]
    congr 1
    · refine List.map_congr_left (fun r hr => ?_)
      rw [adU_ne (hne r hr), mE_congr (M := M) (ad := ad) (ca := ca) (fun j => by rw [h2 r (hne r hr) j]; exact map_adU (hC.2.2.2.2.1 r hr j) hn hk) (h3 r (hne r hr)) (h4 r (hne r hr)) (adU_ne (hne r hr))]
    · show [(adU ad k i q k i, mE M' (adU ad k i q) (adU ca k i cA) (k, i))] = [(q, e)]
      rw [he, adU_eq]
  refine ⟨⟨by rw [hws]; exact hP, by rw [hws]; exact hD, hS, ?_, ?_, ?_, ?_, ?_, ?_⟩, ⟨?_, hL.2.1, fun v hv => hmono v (hL.2.2.1 v hv), ?_, ?_⟩, ?_, fun v hv => hmono v (hst v hv), Or.inl (by rw [h1]; exact List.mem_append_right _ List.mem_cons_self)⟩
  · intro r hr ty n hty
    rw [h1] at hr
    rcases List.mem_append.mp hr with hr | hr
    · rw [adU_ne (hne r hr)]
      exact hC.2.2.2.1 r hr ty n hty
    · rw [List.mem_singleton.mp hr] at hty ⊢
      show ArrOfT s (adU ca k i cA k i) ty ∧ va_RA s (adU ca k i cA k i) ty
      rw [adU_eq]
      exact hT ty n hty
  · intro r hr j
    rw [h1] at hr
    rcases List.mem_append.mp hr with hr | hr
    · rw [h2 r (hne r hr) j]
      exact hmono _ (hC.2.2.2.2.1 r hr j)
    · rw [List.mem_singleton.mp hr, show M'.2.1 (k, i).1 (k, i).2 j = none from h5 j]
      trivial
  · intro r hr
    rw [h1] at hr
    rcases List.mem_append.mp hr with hr | hr
    · exact hC.2.2.2.2.2.1 r hr
    · rw [List.mem_singleton.mp hr]; exact hk
  · rw [show adU ad k i q 100 0 = ad 100 0 from adU_ne (r := (100, 0)) (fun e => by cases e; omega)]
    exact hC.2.2.2.2.2.2.1
  · rw [show adU ad k i q 101 0 = ad 101 0 from adU_ne (r := (101, 0)) (fun e => by cases e; omega)]
    exact hC.2.2.2.2.2.2.2.1
  · intro q' hq'
    obtain ⟨z1, z2⟩ := hC.2.2.2.2.2.2.2.2 q' hq'
    exact ⟨by rw [h1]; exact List.mem_append_left _ z1, by rw [adU_ne (hne q' z1)]; exact z2⟩
  · rw [lvA_adU hL.2.2.1 hn hk]
    exact hL.1
  · rw [h1, List.length_append, ← hL.2.2.2.1]
    simp only [List.length_cons, List.length_nil]
    omega
  · rw [h1, mSl_app, ← hL.2.2.2.2]
    show slots + mSz k + s0 = slots + s0 + mSz k
    omega
  · exact List.map_congr_left (fun v hv => tv_adU (hst v hv) hn hk)
theorem own_rn : ∀ k, k < 8 → ownN k = mRn k := fun k h => match k, h with
  | 0, _ => rfl
  | 1, _ => rfl
  | 2, _ => rfl
  | 3, _ => rfl
  | 4, _ => rfl
  | 5, _ => rfl
  | 6, _ => rfl
  | 7, _ => rfl
  | n + 8, h => absurd h (by omega)
def mNewO (M : mM) (k : Nat) : mM := (M.1 ++ [(k, mCnt M.1 k)], up2 M.2.1 k (mCnt M.1 k) (fun _ => none), up2 M.2.2.1 k (mCnt M.1 k) (fun _ => 0), up2 M.2.2.2 k (mCnt M.1 k) (fun _ => 0))
def mNewA (M : mM) (k : Nat) : mM := (M.1 ++ [(k, mCnt M.1 k)], up2 M.2.1 k (mCnt M.1 k) (fun _ => none), up2 M.2.2.1 k (mCnt M.1 k) (fun _ => 0), M.2.2.2)
theorem mNewO_1 {M : mM} {k : Nat} {r : Nat × Nat} (hr : r ≠ (k, mCnt M.1 k)) (j : Nat) : (mNewO M k).2.1 r.1 r.2 j = M.2.1 r.1 r.2 j := up2_ne (f := M.2.1) (g := fun _ => none) hr j
theorem mNewO_e1 (M : mM) (k j : Nat) : (mNewO M k).2.1 k (mCnt M.1 k) j = none := congrFun (up2_eq M.2.1 k (mCnt M.1 k) (fun _ => none)) j
theorem mNewO_2 {M : mM} {k : Nat} {r : Nat × Nat} (hr : r ≠ (k, mCnt M.1 k)) (j : Nat) : (mNewO M k).2.2.1 r.1 r.2 j = M.2.2.1 r.1 r.2 j := up2_ne (f := M.2.2.1) (g := fun _ => 0) hr j
theorem mNewO_e2 (M : mM) (k j : Nat) : (mNewO M k).2.2.1 k (mCnt M.1 k) j = 0 := congrFun (up2_eq M.2.2.1 k (mCnt M.1 k) (fun _ => 0)) j
theorem mNewO_3 {M : mM} {k : Nat} {r : Nat × Nat} (hr : r ≠ (k, mCnt M.1 k)) (j : Nat) : (mNewO M k).2.2.2 r.1 r.2 j = M.2.2.2 r.1 r.2 j := up2_ne (f := M.2.2.2) (g := fun _ => 0) hr j
theorem mNewO_e3 (M : mM) (k j : Nat) : (mNewO M k).2.2.2 k (mCnt M.1 k) j = 0 := congrFun (up2_eq M.2.2.2 k (mCnt M.1 k) (fun _ => 0)) j
theorem mNewA_1 {M : mM} {k : Nat} {r : Nat × Nat} (hr : r ≠ (k, mCnt M.1 k)) (j : Nat) : (mNewA M k).2.1 r.1 r.2 j = M.2.1 r.1 r.2 j := up2_ne (f := M.2.1) (g := fun _ => none) hr j
theorem mNewA_e1 (M : mM) (k j : Nat) : (mNewA M k).2.1 k (mCnt M.1 k) j = none := congrFun (up2_eq M.2.1 k (mCnt M.1 k) (fun _ => none)) j
theorem mNewA_2 {M : mM} {k : Nat} {r : Nat × Nat} (hr : r ≠ (k, mCnt M.1 k)) (j : Nat) : (mNewA M k).2.2.1 r.1 r.2 j = M.2.2.1 r.1 r.2 j := up2_ne (f := M.2.2.1) (g := fun _ => 0) hr j
theorem mNewA_e2 (M : mM) (k j : Nat) : (mNewA M k).2.2.1 k (mCnt M.1 k) j = 0 := congrFun (up2_eq M.2.2.1 k (mCnt M.1 k) (fun _ => 0)) j
def fs0 (k : Nat) : List Value := (List.range (mNf k)).map (fun j => defaultValue (mTy k j))
theorem fs0_V {k j : Nat} (h : j < mNf k) : defaultValue (mTy k j) = vp_V (fs0 k) j := by
  unfold vp_V fs0
  rw [List.getD_eq_getElem?_getD, List.getElem?_map, List.getElem?_range h]
  rfl
theorem mFv_new {M : mM} {ad : Nat → Nat → Nat} {k i j : Nat} (hk : k < 8) (hj : j < mNf k) (h1 : M.2.1 k i j = none) (h2 : M.2.2.1 k i j = 0) (h3 : M.2.2.2 k i j = 0) : mFv M ad k i j = defaultValue (mTy k j) := by
  have ho := cl_okTy k hk j hj
  unfold mFv
  rw [h1, h2, h3]
  cases hty : mTy k j <;> rw [hty] at ho <;> first | rfl | cases ho
def tANb (q : Nat × Nat × Nat) : Prop := match nth mKs q.2.2 with
  | some (.inr (ty, n)) => ∃ cn, ty = .object cn ∧ n ≤ 6
  | _ => False
theorem tAN_ob : ∀ q ∈ tAN, tANb q := by
  intro q hq
  unfold tAN at hq
  simp only [List.mem_cons, List.not_mem_nil, or_false] at hq
  rcases hq with rfl | rfl | rfl
  · exact ⟨_, rfl, by decide⟩
  · exact ⟨_, rfl, by decide⟩
  · exact ⟨_, rfl, by decide⟩
section SNN
variable {p : Program} {l : Launch} {e : Env} {R : Room} {s : State} {m : MethodId} {args : Array Value} {below : List Frame} {meth : Method} {c : Code} {D : va_G} {A : Nat → Prop} {b t L : Nat} {Z : List (Nat × Nat)} {ad0 : Nat → Nat → Nat} {xs : Nat → Int32} {I : mI} {d n0 s0 N1 S1 : Nat} {Q : State → Prop} {ip pc ip' : Nat} {ls ls' : List (Option mV)} {st st' : List mV} {M M' : mM} {v : Value}
theorem ms_new (C : mCx p R s m args meth c D A b t L xs I d n0 s0 N1 S1) (hpc : nth I.2.2.2.2.2.2.2.2 ip = some pc) {kd : Nat} (hok : okB I pc (nth I.2.2.2.2.2.2.2.2 (ip + 1)) (.new kd) v = true) (h : mstep L xs (.new kd) v ip ls st M = some (ip', ls', st', M')) (hb : M'.1.length ≤ N1 ∧ mSl M'.1 ≤ S1) (k : mGo p l e R s m args below meth c D A b t Z ad0 Q n0 s0 I ip' ls' st' M') : mGo p l e R s m args below meth c D A b t Z ad0 Q n0 s0 I ip ls st M := by
  have hk : tCN.any (fun q => decide (q.1 = I.1) && decide (q.2.2 = kd) && okS I pc (nth I.2.2.2.2.2.2.2.2 (ip + 1)) (.new q.2.1) 3) = true := hok
  simp only [List.any_eq_true, Bool.and_eq_true, decide_eq_true_eq] at hk
  obtain ⟨q, hq, ⟨hq1, hq2⟩, hk⟩ := hk
  obtain ⟨hd, hn⟩ := okS_spec hk
  have hc8 := tCN_ok q hq
  rw [hq2] at hc8
  have hw : (wCN q).before args s = true := C.2.2.2.2.1 _ (tCN_in _ (List.mem_map.mpr ⟨q, hq, rfl⟩))
  unfold wCN at hw
  rw [hq1, hq2] at hw
  have hw2 : (Cond.instantiable (mRn kd) (mNf kd)).before args s = true := C.2.2.2.2.1 _ (tIN_in _ (List.mem_map.mpr ⟨kd, List.mem_range.mpr hc8, rfl⟩))
  have hw3 : (Cond.initialized (mRn kd)).before args s = true := by
    rw [← own_rn kd hc8]
    exact C.2.2.2.2.1 _ (tII_in _ (List.mem_map.mpr ⟨kd, List.mem_range.mpr (by omega), rfl⟩))
  unfold mstep at h
  dsimp only at h
  rw [mK_obj kd hc8] at h
  dsimp only at h
  split at h
  · cases h
  · rename_i hhas
    cases h
    have hnot := mHas_not hhas
    have hsz : mSz kd = mNf kd := by unfold mSz; rw [mK_obj kd hc8]
    have hb1 := hb.1
    have hb2 := hb.2
    rw [List.length_append] at hb1
    rw [mSl_app, hsz] at hb2
    simp only [List.length_cons, List.length_nil] at hb1
    intro pc' hpc' ad ca H locs cells slots la hC hL hst
    cases hpc.symm.trans hpc'
    have hl1 := hL.2.2.2.1
    have hl2 := hL.2.2.2.2
    have hr1 := C.2.2.2.2.2.2.2.2.2.2.2.2.2.2.2.1
    have hr2 := C.2.2.2.2.2.2.2.2.2.2.2.2.2.2.2.2
    refine va_new (ci := kd) (fs := fs0 kd) C.1 C.2.1 C.2.2.2.2.1 (cl_in kd hc8) (mTy kd) (cl_ty kd hc8) C.2.2.2.1 hw hw2 hw3 (mK0 C.2.2.2.2.2.1) hC.1 hC.2.1 hC.2.2.1 C.2.2.2.2.2.2.1 (cl_at kd hc8) (fun j hj => fs0_V hj) (by omega) (by omega) hd (fun qa H1 hP hD hS => ?_)
    obtain ⟨g1, g2, g3, g4, g5⟩ := mAlloc (k := kd) (i := mCnt M.1 kd) (q := qa) (cA := 0) (M' := mNewO M kd) hC hL hst hnot (by omega) rfl (fun r hr j => mNewO_1 hr j) (fun r hr j => mNewO_2 hr j) (fun r hr j => mNewO_3 hr j) (mNewO_e1 M kd) (fun ty n hty => by rw [mK_obj kd hc8] at hty; cases hty) (e := .inr (kd, fs0 kd)) (by
      rw [mE_obj hc8]
      unfold fs0
      congr 2
      refine List.map_congr_left (fun j hj => mFv_new hc8 (List.mem_range.mp hj) ?_ ?_ ?_)
      · exact mNewO_e1 M kd j
      · exact mNewO_e2 M kd j
      · exact mNewO_e3 M kd j) hP hD hS
    have hg := k _ hn _ _ H1 locs _ _ la g1 g2 (st_cn g5 g4)
    rw [List.map_cons, g3, hsz] at hg
    show W p l e R s m args below meth c H1 locs (cells + 1) (slots + mNf kd) Q (F0 m (pc + 3) la (.ref qa :: List.map (tv ad) st))
    have e1 : tv (adU ad kd (mCnt M.1 kd) qa) (.inr (.inr (some (kd, mCnt M.1 kd)))) = .ref qa := by
      show Value.ref (adU ad kd (mCnt M.1 kd) qa kd (mCnt M.1 kd)) = .ref qa
      rw [adU_eq]
    rw [e1] at hg
    exact hg
theorem ms_newa (C : mCx p R s m args meth c D A b t L xs I d n0 s0 N1 S1) (hpc : nth I.2.2.2.2.2.2.2.2 ip = some pc) {kd : Nat} (hok : okB I pc (nth I.2.2.2.2.2.2.2.2 (ip + 1)) (.anewarray kd) v = true) (h : mstep L xs (.anewarray kd) v ip ls st M = some (ip', ls', st', M')) (hb : M'.1.length ≤ N1 ∧ mSl M'.1 ≤ S1) (k : mGo p l e R s m args below meth c D A b t Z ad0 Q n0 s0 I ip' ls' st' M') : mGo p l e R s m args below meth c D A b t Z ad0 Q n0 s0 I ip ls st M := by
  unfold mstep at h
  dsimp only at h
  split at h
  · rename_i zx zst
    split at h
    · rename_i ty n hkd
      split at h
      · cases h
      · rename_i hno
        cases h
        have hnot : (kd, mCnt M.1 kd) ∉ M.1 := mHas_not (fun z => hno (Or.inr (Or.inr z)))
        have hxn : zx.toNatClampNeg = n := Decidable.byContradiction (fun z => hno (Or.inr (Or.inl z)))
        have hsz : mSz kd = n := by unfold mSz; rw [hkd]
        have hb1 := hb.1
        have hb2 := hb.2
        rw [List.length_append] at hb1
        rw [mSl_app, hsz] at hb2
        simp only [List.length_cons, List.length_nil] at hb1
        unfold okB at hok
        dsimp only at hok
        rw [hkd, Bool.or_eq_true] at hok
        intro pc' hpc' ad ca H locs cells slots la hC hL hst
        cases hpc.symm.trans hpc'
        have hl1 := hL.2.2.2.1
        have hl2 := hL.2.2.2.2
        have hr1 := C.2.2.2.2.2.2.2.2.2.2.2.2.2.2.2.1
        have hr2 := C.2.2.2.2.2.2.2.2.2.2.2.2.2.2.2.2
        show W p l e R s m args below meth c H locs cells slots Q (F0 m pc la (.int zx :: List.map (tv ad) _))
        rcases hok with hok | hok
        · cases ty
          case int =>
            have hn1 := (mK_n hkd (fun C z => by cases z)).1
            have hk : okS I pc (nth I.2.2.2.2.2.2.2.2 (ip + 1)) (.newarray .int) 2 = true := hok
            obtain ⟨hd, hn⟩ := okS_spec hk
            have hby : n * componentBytes .int ≤ 536870912 := by
              have e9 : componentBytes .int ≤ 4 := by decide
              have e8 := Nat.mul_le_mul hn1 e9
              omega
            refine va_newa (D := D) (atype := .int) (ty := .int) (a0 := (n, .inl (fun _ => 0))) C.1 C.2.1 (C.2.2.2.2.1 _ (tAR_in _ (by simp [newarray.typeOf]))) rfl (mK0 C.2.2.2.2.2.1) hC.1 hC.2.1 hC.2.2.1 C.2.2.2.2.2.2.1 (fun cA => rfl) (fun z => hno (Or.inl z)) hxn hby (by omega) (by omega) hd (fun qa cA H1 hK hP hD hS => ?_)
            obtain ⟨g1, g2, g3, g4, g5⟩ := mAlloc (k := kd) (i := mCnt M.1 kd) (q := qa) (cA := cA) (M' := mNewA M kd) hC hL (st_tl hst) hnot (mK_lt hkd) rfl (fun r hr j => mNewA_1 hr j) (fun r hr j => mNewA_2 hr j) (fun r hr j => rfl) (mNewA_e1 M kd) (fun ty' n' hty => by rw [hkd] at hty; cases hty; exact hK.2 0 (cA, .int) rfl) (e := .inl (cA, n, .inl (fun _ => 0))) (by
              rw [mE_arr hkd, adU_eq]
              show Sum.inl (cA, n, Sum.inl (up2 M.2.2.1 kd (mCnt M.1 kd) (fun _ => 0) kd (mCnt M.1 kd))) = _
              rw [up2_eq]) hP hD hS
            have hg := k _ hn _ _ H1 locs _ _ la g1 g2 (st_cn g5 g4)
            rw [List.map_cons, g3, hsz] at hg
            have e1 : tv (adU ad kd (mCnt M.1 kd) qa) (.inr (.inr (some (kd, mCnt M.1 kd)))) = .ref qa := by
              show Value.ref (adU ad kd (mCnt M.1 kd) qa kd (mCnt M.1 kd)) = .ref qa
              rw [adU_eq]
            rw [e1] at hg
            exact hg
          case byte =>
            have hn1 := (mK_n hkd (fun C z => by cases z)).1
            have hk : okS I pc (nth I.2.2.2.2.2.2.2.2 (ip + 1)) (.newarray .byte) 2 = true := hok
            obtain ⟨hd, hn⟩ := okS_spec hk
            have hby : n * componentBytes .byte ≤ 536870912 := by
              have e9 : componentBytes .byte ≤ 4 := by decide
              have e8 := Nat.mul_le_mul hn1 e9
              omega
            refine va_newa (D := D) (atype := .byte) (ty := .byte) (a0 := (n, .inl (fun _ => 0))) C.1 C.2.1 (C.2.2.2.2.1 _ (tAR_in _ (by simp [newarray.typeOf]))) rfl (mK0 C.2.2.2.2.2.1) hC.1 hC.2.1 hC.2.2.1 C.2.2.2.2.2.2.1 (fun cA => rfl) (fun z => hno (Or.inl z)) hxn hby (by omega) (by omega) hd (fun qa cA H1 hK hP hD hS => ?_)
            obtain ⟨g1, g2, g3, g4, g5⟩ := mAlloc (k := kd) (i := mCnt M.1 kd) (q := qa) (cA := cA) (M' := mNewA M kd) hC hL (st_tl hst) hnot (mK_lt hkd) rfl (fun r hr j => mNewA_1 hr j) (fun r hr j => mNewA_2 hr j) (fun r hr j => rfl) (mNewA_e1 M kd) (fun ty' n' hty => by rw [hkd] at hty; cases hty; exact hK.2 0 (cA, .byte) rfl) (e := .inl (cA, n, .inl (fun _ => 0))) (by
              rw [mE_arr hkd, adU_eq]
              show Sum.inl (cA, n, Sum.inl (up2 M.2.2.1 kd (mCnt M.1 kd) (fun _ => 0) kd (mCnt M.1 kd))) = _
              rw [up2_eq]) hP hD hS
            have hg := k _ hn _ _ H1 locs _ _ la g1 g2 (st_cn g5 g4)
            rw [List.map_cons, g3, hsz] at hg
            have e1 : tv (adU ad kd (mCnt M.1 kd) qa) (.inr (.inr (some (kd, mCnt M.1 kd)))) = .ref qa := by
              show Value.ref (adU ad kd (mCnt M.1 kd) qa kd (mCnt M.1 kd)) = .ref qa
              rw [adU_eq]
            rw [e1] at hg
            exact hg
          case boolean =>
            have hn1 := (mK_n hkd (fun C z => by cases z)).1
            have hk : okS I pc (nth I.2.2.2.2.2.2.2.2 (ip + 1)) (.newarray .boolean) 2 = true := hok
            obtain ⟨hd, hn⟩ := okS_spec hk
            have hby : n * componentBytes .boolean ≤ 536870912 := by
              have e9 : componentBytes .boolean ≤ 4 := by decide
              have e8 := Nat.mul_le_mul hn1 e9
              omega
            refine va_newa (D := D) (atype := .boolean) (ty := .boolean) (a0 := (n, .inl (fun _ => 0))) C.1 C.2.1 (C.2.2.2.2.1 _ (tAR_in _ (by simp [newarray.typeOf]))) rfl (mK0 C.2.2.2.2.2.1) hC.1 hC.2.1 hC.2.2.1 C.2.2.2.2.2.2.1 (fun cA => rfl) (fun z => hno (Or.inl z)) hxn hby (by omega) (by omega) hd (fun qa cA H1 hK hP hD hS => ?_)
            obtain ⟨g1, g2, g3, g4, g5⟩ := mAlloc (k := kd) (i := mCnt M.1 kd) (q := qa) (cA := cA) (M' := mNewA M kd) hC hL (st_tl hst) hnot (mK_lt hkd) rfl (fun r hr j => mNewA_1 hr j) (fun r hr j => mNewA_2 hr j) (fun r hr j => rfl) (mNewA_e1 M kd) (fun ty' n' hty => by rw [hkd] at hty; cases hty; exact hK.2 0 (cA, .boolean) rfl) (e := .inl (cA, n, .inl (fun _ => 0))) (by
              rw [mE_arr hkd, adU_eq]
              show Sum.inl (cA, n, Sum.inl (up2 M.2.2.1 kd (mCnt M.1 kd) (fun _ => 0) kd (mCnt M.1 kd))) = _
              rw [up2_eq]) hP hD hS
            have hg := k _ hn _ _ H1 locs _ _ la g1 g2 (st_cn g5 g4)
            rw [List.map_cons, g3, hsz] at hg
            have e1 : tv (adU ad kd (mCnt M.1 kd) qa) (.inr (.inr (some (kd, mCnt M.1 kd)))) = .ref qa := by
              show Value.ref (adU ad kd (mCnt M.1 kd) qa kd (mCnt M.1 kd)) = .ref qa
              rw [adU_eq]
            rw [e1] at hg
            exact hg
          all_goals exact Bool.noConfusion (show false = true from hok)
        · simp only [List.any_eq_true, Bool.and_eq_true, decide_eq_true_eq] at hok
          obtain ⟨q, hq, ⟨hq1, hq2⟩, hk⟩ := hok
          obtain ⟨hd, hn⟩ := okS_spec hk
          have hw : (wAN q).before args s = true := C.2.2.2.2.1 _ (tAN_in _ (List.mem_map.mpr ⟨q, hq, rfl⟩))
          unfold wAN at hw
          have hao := C.2.2.2.2.2.2.2.2.2.2.1.2.1 q hq
          rw [hq1, hq2] at hw
          rw [hq2] at hao
          have hob : ∃ cn, ty = .object cn ∧ n ≤ 6 := by
            have h6 := tAN_ob q hq
            unfold tANb at h6
            rw [hq2, hkd] at h6
            exact h6
          obtain ⟨cn, hob, hn6⟩ := hob
          subst hob
          obtain ⟨hcn, hel8⟩ := mEl_ok hkd
          subst hcn
          refine va_newq (D := D) C.1 C.2.1 C.2.2.2.1 hw hao (mK0 C.2.2.2.2.2.1) hC.1 hC.2.1 hC.2.2.1 C.2.2.2.2.2.2.1 (fun z => hno (Or.inl z)) hxn (by omega) (by omega) (by omega) hd (fun qa cA H1 hK hP hD hS => ?_)
          obtain ⟨g1, g2, g3, g4, g5⟩ := mAlloc (k := kd) (i := mCnt M.1 kd) (q := qa) (cA := cA) (M' := mNewA M kd) hC hL (st_tl hst) hnot (mK_lt hkd) rfl (fun r hr j => mNewA_1 hr j) (fun r hr j => mNewA_2 hr j) (fun r hr j => rfl) (mNewA_e1 M kd) (fun ty' n' hty => by rw [hkd] at hty; cases hty; exact hK.2 0 (cA, .object (mRn (mEl kd))) rfl) (e := .inl (cA, n, .inr (.inr (.inr (.inr (fun _ => none)))))) (by
            rw [mE_arr hkd, adU_eq]
            show Sum.inl (cA, n, Sum.inr (Sum.inr (Sum.inr (Sum.inr (fun j => (up2 M.2.1 kd (mCnt M.1 kd) (fun _ => none) kd (mCnt M.1 kd) j).map fun (q' : Nat × Nat) => adU ad kd (mCnt M.1 kd) qa q'.1 q'.2))))) = _
            rw [up2_eq]
            rfl) hP hD hS
          have hg := k _ hn _ _ H1 locs _ _ la g1 g2 (st_cn g5 g4)
          rw [List.map_cons, g3, hsz] at hg
          have e1 : tv (adU ad kd (mCnt M.1 kd) qa) (.inr (.inr (some (kd, mCnt M.1 kd)))) = .ref qa := by
            show Value.ref (adU ad kd (mCnt M.1 kd) qa kd (mCnt M.1 kd)) = .ref qa
            rw [adU_eq]
          rw [e1] at hg
          exact hg
    · cases h
  · cases h
end SNN
end
section
section SNM
variable {p : Program} {l : Launch} {e : Env} {R : Room} {s : State} {m : MethodId} {args : Array Value} {below : List Frame} {meth : Method} {c : Code} {D : va_G} {A : Nat → Prop} {b t L : Nat} {Z : List (Nat × Nat)} {ad0 : Nat → Nat → Nat} {xs : Nat → Int32} {I : mI} {d n0 s0 N1 S1 : Nat} {Q : State → Prop} {ip pc ip' : Nat} {ls ls' : List (Option mV)} {st st' : List mV} {M M' : mM} {v : Value}
theorem ms_pop (C : mCx p R s m args meth c D A b t L xs I d n0 s0 N1 S1) (hpc : nth I.2.2.2.2.2.2.2.2 ip = some pc)  (hok : okB I pc (nth I.2.2.2.2.2.2.2.2 (ip + 1)) (.pop) v = true) (h : mstep L xs (.pop) v ip ls st M = some (ip', ls', st', M')) (hb : M'.1.length ≤ N1 ∧ mSl M'.1 ≤ S1) (k : mGo p l e R s m args below meth c D A b t Z ad0 Q n0 s0 I ip' ls' st' M') : mGo p l e R s m args below meth c D A b t Z ad0 Q n0 s0 I ip ls st M := by
  have hk : tOB.any (fun q => decide (q.1 = I.1) && okS I pc (nth I.2.2.2.2.2.2.2.2 (ip + 1)) (.invokespecial q.2) 3) = true := hok
  simp only [List.any_eq_true, Bool.and_eq_true, decide_eq_true_eq] at hk
  obtain ⟨q, hq, hq1, hk⟩ := hk
  obtain ⟨hd, hn⟩ := okS_spec hk
  have hw : (wOB q).before args s = true := C.2.2.2.2.1 _ (tOB_in _ (List.mem_map.mpr ⟨q, hq, rfl⟩))
  unfold wOB at hw
  rw [hq1] at hw
  have hf := C.2.2.2.2.2.2.2.2.2.2.2.2.1
  have hlo := C.2.2.2.2.2.2.2.2.2.2.2.2.2.1
  unfold mstep at h
  dsimp only at h
  split at h
  · rename_i zr zst
    split at h
    · rename_i hcat
      cases h
      intro pc' hpc' ad ca H locs cells slots la hC hL hst
      cases hpc.symm.trans hpc'
      show W p l e R s m args below meth c H locs cells slots Q (F0 m pc la (.ref (ad zr.1 zr.2) :: List.map (tv ad) _))
      have hrm := lv_room (m := m) (pc := pc) (ls := la) (rest := (.ref (ad zr.1 zr.2) :: List.map (tv ad) st')) (st := List.map (tv ad) st') (by rw [mSum]; exact hcat)
      refine W.objInit C.1 C.2.1 C.2.2.2.1 hw (C.2.2.2.2.1 _ (tOI_in _ List.mem_cons_self)) (C.2.2.2.2.1 _ (tOI_in _ (List.mem_cons_of_mem _ List.mem_cons_self))) rfl (by rw [C.2.2.1]; exact hL.1.1) rfl hd (by omega) (by omega) ?_
      exact k _ hn ad ca H locs cells slots la hC hL (st_tl hst)
    · cases h
  · cases h
theorem ms_mabs (C : mCx p R s m args meth c D A b t L xs I d n0 s0 N1 S1) (hpc : nth I.2.2.2.2.2.2.2.2 ip = some pc)  (hok : okB I pc (nth I.2.2.2.2.2.2.2.2 (ip + 1)) (.lneg) v = true) (h : mstep L xs (.lneg) v ip ls st M = some (ip', ls', st', M')) (hb : M'.1.length ≤ N1 ∧ mSl M'.1 ≤ S1) (k : mGo p l e R s m args below meth c D A b t Z ad0 Q n0 s0 I ip' ls' st' M') : mGo p l e R s m args below meth c D A b t Z ad0 Q n0 s0 I ip ls st M := by
  have hk : tMA.any (fun q => decide (q.1 = I.1) && decide (q.2.2 = 0) && okS I pc (nth I.2.2.2.2.2.2.2.2 (ip + 1)) (.invokestatic q.2.1) 3) = true := hok
  simp only [List.any_eq_true, Bool.and_eq_true, decide_eq_true_eq] at hk
  obtain ⟨q, hq, ⟨hq1, hq2⟩, hk⟩ := hk
  obtain ⟨hd, hn⟩ := okS_spec hk
  have hw : (wMA q).before args s = true := C.2.2.2.2.1 _ (tMA_in _ (List.mem_map.mpr ⟨q, hq, rfl⟩))
  unfold wMA at hw
  rw [hq1, hq2] at hw
  have hf := C.2.2.2.2.2.2.2.2.2.2.2.2.1
  have hlo := C.2.2.2.2.2.2.2.2.2.2.2.2.2.1
  have hr1 := C.2.2.2.2.2.2.2.2.2.2.2.2.2.2.2.1
  have hr2 := C.2.2.2.2.2.2.2.2.2.2.2.2.2.2.2.2
  unfold mstep at h
  dsimp only at h
  split at h
  · split at h
    · rename_i hcat
      cases h
      intro pc' hpc' ad ca H locs cells slots la hC hL hst
      cases hpc.symm.trans hpc'
      have hl1 := hL.2.2.2.1
      have hl2 := hL.2.2.2.2
      have hb1 := hb.1
      have hb2 := hb.2
      show W p l e R s m args below meth c H locs cells slots Q (F0 m pc la (.int _ :: List.map (tv ad) _))
      exact va_mabs C.1 C.2.1 (by rw [C.2.2.1]; exact hL.1.1.symm) C.2.2.2.1 hw (C.2.2.2.2.1 _ (tMW_in _ (List.mem_of_getElem? (i := 0) rfl))) (C.2.2.2.2.1 _ (tMW_in _ (List.mem_of_getElem? (i := 3) rfl))) (C.2.2.2.2.1 _ (tMW_in _ (List.mem_of_getElem? (i := 4) rfl))) (by omega) (by rw [mSum]; omega) (by omega) (by omega) hd (k _ hn ad ca H locs cells slots la hC hL (st_cn trivial (st_tl hst)))
    · cases h
  · cases h
theorem ms_mmax (C : mCx p R s m args meth c D A b t L xs I d n0 s0 N1 S1) (hpc : nth I.2.2.2.2.2.2.2.2 ip = some pc)  (hok : okB I pc (nth I.2.2.2.2.2.2.2.2 (ip + 1)) (.lor) v = true) (h : mstep L xs (.lor) v ip ls st M = some (ip', ls', st', M')) (hb : M'.1.length ≤ N1 ∧ mSl M'.1 ≤ S1) (k : mGo p l e R s m args below meth c D A b t Z ad0 Q n0 s0 I ip' ls' st' M') : mGo p l e R s m args below meth c D A b t Z ad0 Q n0 s0 I ip ls st M := by
  have hk : tMA.any (fun q => decide (q.1 = I.1) && decide (q.2.2 = 1) && okS I pc (nth I.2.2.2.2.2.2.2.2 (ip + 1)) (.invokestatic q.2.1) 3) = true := hok
  simp only [List.any_eq_true, Bool.and_eq_true, decide_eq_true_eq] at hk
  obtain ⟨q, hq, ⟨hq1, hq2⟩, hk⟩ := hk
  obtain ⟨hd, hn⟩ := okS_spec hk
  have hw : (wMA q).before args s = true := C.2.2.2.2.1 _ (tMA_in _ (List.mem_map.mpr ⟨q, hq, rfl⟩))
  unfold wMA at hw
  rw [hq1, hq2] at hw
  have hf := C.2.2.2.2.2.2.2.2.2.2.2.2.1
  have hlo := C.2.2.2.2.2.2.2.2.2.2.2.2.2.1
  have hr1 := C.2.2.2.2.2.2.2.2.2.2.2.2.2.2.2.1
  have hr2 := C.2.2.2.2.2.2.2.2.2.2.2.2.2.2.2.2
  unfold mstep at h
  dsimp only at h
  split at h
  · split at h
    · rename_i hcat
      cases h
      intro pc' hpc' ad ca H locs cells slots la hC hL hst
      cases hpc.symm.trans hpc'
      have hl1 := hL.2.2.2.1
      have hl2 := hL.2.2.2.2
      have hb1 := hb.1
      have hb2 := hb.2
      show W p l e R s m args below meth c H locs cells slots Q (F0 m pc la (.int _ :: .int _ :: List.map (tv ad) _))
      exact va_mmax C.1 C.2.1 (by rw [C.2.2.1]; exact hL.1.1.symm) C.2.2.2.1 hw (C.2.2.2.2.1 _ (tMW_in _ (List.mem_of_getElem? (i := 1) rfl))) (C.2.2.2.2.1 _ (tMW_in _ (List.mem_of_getElem? (i := 3) rfl))) (C.2.2.2.2.1 _ (tMW_in _ (List.mem_of_getElem? (i := 5) rfl))) (by omega) (by rw [mSum]; omega) (by omega) (by omega) hd (k _ hn ad ca H locs cells slots la hC hL (st_cn trivial (st_tl (st_tl hst))))
    · cases h
  · cases h
theorem ms_mmin (C : mCx p R s m args meth c D A b t L xs I d n0 s0 N1 S1) (hpc : nth I.2.2.2.2.2.2.2.2 ip = some pc)  (hok : okB I pc (nth I.2.2.2.2.2.2.2.2 (ip + 1)) (.lxor) v = true) (h : mstep L xs (.lxor) v ip ls st M = some (ip', ls', st', M')) (hb : M'.1.length ≤ N1 ∧ mSl M'.1 ≤ S1) (k : mGo p l e R s m args below meth c D A b t Z ad0 Q n0 s0 I ip' ls' st' M') : mGo p l e R s m args below meth c D A b t Z ad0 Q n0 s0 I ip ls st M := by
  have hk : tMA.any (fun q => decide (q.1 = I.1) && decide (q.2.2 = 2) && okS I pc (nth I.2.2.2.2.2.2.2.2 (ip + 1)) (.invokestatic q.2.1) 3) = true := hok
  simp only [List.any_eq_true, Bool.and_eq_true, decide_eq_true_eq] at hk
  obtain ⟨q, hq, ⟨hq1, hq2⟩, hk⟩ := hk
  obtain ⟨hd, hn⟩ := okS_spec hk
  have hw : (wMA q).before args s = true := C.2.2.2.2.1 _ (tMA_in _ (List.mem_map.mpr ⟨q, hq, rfl⟩))
  unfold wMA at hw
  rw [hq1, hq2] at hw
  have hf := C.2.2.2.2.2.2.2.2.2.2.2.2.1
  have hlo := C.2.2.2.2.2.2.2.2.2.2.2.2.2.1
  have hr1 := C.2.2.2.2.2.2.2.2.2.2.2.2.2.2.2.1
  have hr2 := C.2.2.2.2.2.2.2.2.2.2.2.2.2.2.2.2
  unfold mstep at h
  dsimp only at h
  split at h
  · split at h
    · rename_i hcat
      cases h
      intro pc' hpc' ad ca H locs cells slots la hC hL hst
      cases hpc.symm.trans hpc'
      have hl1 := hL.2.2.2.1
      have hl2 := hL.2.2.2.2
      have hb1 := hb.1
      have hb2 := hb.2
      show W p l e R s m args below meth c H locs cells slots Q (F0 m pc la (.int _ :: .int _ :: List.map (tv ad) _))
      exact va_mmin C.1 C.2.1 (by rw [C.2.2.1]; exact hL.1.1.symm) C.2.2.2.1 hw (C.2.2.2.2.1 _ (tMW_in _ (List.mem_of_getElem? (i := 2) rfl))) (C.2.2.2.2.1 _ (tMW_in _ (List.mem_of_getElem? (i := 3) rfl))) (C.2.2.2.2.1 _ (tMW_in _ (List.mem_of_getElem? (i := 6) rfl))) (by omega) (by rw [mSum]; omega) (by omega) (by omega) hd (k _ hn ad ca H locs cells slots la hC hL (st_cn trivial (st_tl (st_tl hst))))
    · cases h
  · cases h
theorem mK2 {s : State} {D : va_G} {cA cB : ClassId} {ty : FieldType} (h : ∀ (c : Nat) (q : vw_C), vwCl[c]? = some q → u_Kn s q.1 q.2.1 q.2.2 (D.1 c) (D.2 c)) (hT : ArrOfT s cA ty ∧ va_RA s cA ty) (hU : ArrOfT s cB ty ∧ va_RA s cB ty) : va_K D vwCl [(cA, ty), (cB, ty)] s := ⟨h, fun j q hj => by
  cases j with
  | zero => cases hj; exact hT
  | succ j =>
    cases j with
    | zero => cases hj; exact hU
    | succ j => cases hj⟩
theorem ms_cpy (C : mCx p R s m args meth c D A b t L xs I d n0 s0 N1 S1) (hpc : nth I.2.2.2.2.2.2.2.2 ip = some pc)  (hok : okB I pc (nth I.2.2.2.2.2.2.2.2 (ip + 1)) (.dup2_x2) v = true) (h : mstep L xs (.dup2_x2) v ip ls st M = some (ip', ls', st', M')) (hb : M'.1.length ≤ N1 ∧ mSl M'.1 ≤ S1) (k : mGo p l e R s m args below meth c D A b t Z ad0 Q n0 s0 I ip' ls' st' M') : mGo p l e R s m args below meth c D A b t Z ad0 Q n0 s0 I ip ls st M := by
  have hk : (decide (I.1 = 6) && okS I pc (nth I.2.2.2.2.2.2.2.2 (ip + 1)) (.invokestatic 102) 3) = true := hok
  rw [Bool.and_eq_true, decide_eq_true_eq] at hk
  obtain ⟨hd, hn⟩ := okS_spec hk.2
  have hf := C.2.2.2.2.2.2.2.2.2.2.2.2.1
  have hlo := C.2.2.2.2.2.2.2.2.2.2.2.2.2.1
  have hown : s.vm.findClass RX6 = some m.cls := by
    have h1 := C.2.2.2.1
    rw [hk.1] at h1
    exact h1
  unfold mstep at h
  dsimp only at h
  split at h
  · rename_i zn zdp k2 i2 zsp k1 i1 zst
    split at h
    · rename_i n1 n2 hk1 hk2
      split at h
      · cases h
      · rename_i hno
        cases h
        intro pc' hpc' ad ca H locs cells slots la hC hL hst
        cases hpc.symm.trans hpc'
        have hm2 := rOK_in (st_hd (st_tl (st_tl hst))) (mK_lt hk2)
        have hm1 := rOK_in (st_hd (st_tl (st_tl (st_tl (st_tl hst))))) (mK_lt hk1)
        obtain ⟨q0, hq0, hq9⟩ := mWs_at ad ca hm1
        obtain ⟨q1, hq1, hq8⟩ := mWs_at ad ca hm2
        rw [mE_arr hk1] at hq9
        rw [mE_arr hk2] at hq8
        show W p l e R s m args below meth c H locs cells slots Q (F0 m pc la (.int zn :: .int zdp :: .ref (ad k2 i2) :: .int zsp :: .ref (ad k1 i1) :: List.map (tv ad) _))
        have hnw : nativeFrameWords "java/lang/System" "arraycopy" 5 ≤ 40 := by decide
        have hlq : ((List.map (tv ad) st').map fun v => v.category).sum + (nativeFrameWords "java/lang/System" "arraycopy" 5 + 11) ≤ R.locals := by
          have h8 : ¬ 8 < mCats st' := fun z => hno (Or.inl z)
          rw [mSum]
          omega
        refine va_copyi (D := D) (f := M.2.2.1 k1 i1) (g := M.2.2.1 k2 i2) C.1 C.2.1 (by rw [C.2.2.1]; exact hL.1.1.symm) hown (C.2.2.2.2.1 _ (tAC_in _ (List.mem_of_getElem? (i := 0) rfl))) (C.2.2.2.2.1 _ (tAC_in _ (List.mem_of_getElem? (i := 1) rfl))) (C.2.2.2.2.1 _ (tAC_in _ (List.mem_of_getElem? (i := 2) rfl))) (C.2.2.2.2.1 _ (tAC_in _ (List.mem_of_getElem? (i := 3) rfl))) (mK2 C.2.2.2.2.2.1 (hC.2.2.2.1 _ hm1 _ _ hk1) (hC.2.2.2.1 _ hm2 _ _ hk2)) hC.1 hC.2.1 hC.2.2.1 q0 q1 0 1 hq9 hq8 rfl rfl rfl (fun z => hno (Or.inr (Or.inr (Or.inl z)))) (fun z => hno (Or.inr (Or.inr (Or.inr (Or.inl z))))) (fun z => hno (Or.inr (Or.inl z))) (Nat.not_lt.mp (fun z => hno (Or.inr (Or.inr (Or.inr (Or.inr (Or.inl z))))))) (Nat.not_lt.mp (fun z => hno (Or.inr (Or.inr (Or.inr (Or.inr (Or.inr z))))))) (fun _ _ => rfl) (by omega) hlq hd (fun H1 locs1 hP hD hS => k _ hn ad ca H1 locs1 cells slots la (mCe_set hC hq1 rfl ?_ (fun r' hr => mE_congr (fun _ => rfl) (fun j' => up2_ne hr j') (fun _ => rfl) rfl) hC.2.2.2.2.1 hP hD hS) (mLo_same rfl hL) (fun w hw => (rOK_same rfl w).mpr (st_tl (st_tl (st_tl (st_tl (st_tl hst)))) w hw)))
        rw [mE_arr hk2]
        show Sum.inl (ca k2 i2, n2, Sum.inl (up2 M.2.2.1 k2 i2 (va_cpy (M.2.2.1 k1 i1) (M.2.2.1 k2 i2) zsp.toNatClampNeg zdp.toNatClampNeg zn.toNatClampNeg) k2 i2)) = _
        rw [up2_eq]
    · cases h
  · cases h
theorem ms_gst (C : mCx p R s m args meth c D A b t L xs I d n0 s0 N1 S1) (hpc : nth I.2.2.2.2.2.2.2.2 ip = some pc) {z : Nat} (hok : okB I pc (nth I.2.2.2.2.2.2.2.2 (ip + 1)) (.getstatic z) v = true) (h : mstep L xs (.getstatic z) v ip ls st M = some (ip', ls', st', M')) (hb : M'.1.length ≤ N1 ∧ mSl M'.1 ≤ S1) (k : mGo p l e R s m args below meth c D A b t Z ad0 Q n0 s0 I ip' ls' st' M') : mGo p l e R s m args below meth c D A b t Z ad0 Q n0 s0 I ip ls st M := by
  have hk : (decide (I.1 = 5) && okS I pc (nth I.2.2.2.2.2.2.2.2 (ip + 1)) (.getstatic 27) 3) = true := hok
  rw [Bool.and_eq_true, decide_eq_true_eq] at hk
  obtain ⟨hd, hn⟩ := okS_spec hk.2
  have hown : s.vm.findClass RX5 = some m.cls := by
    have h1 := C.2.2.2.1
    rw [hk.1] at h1
    exact h1
  unfold mstep at h
  dsimp only at h
  cases h
  intro pc' hpc' ad ca H locs cells slots la hC hL hst
  cases hpc.symm.trans hpc'
  refine va_getsN C.1 C.2.1 C.2.2.2.2.2.2.2.2.1 hC.2.2.1 hown (va_Nw.use rfl C.2.2.2.2.2.2.2.2.2.2.1.2.2) (fun _ hx => hx) hd ?_
  have hg := k _ hn ad ca H locs cells slots la hC hL (st_cn (Or.inr (Or.inr rfl)) hst)
  rw [List.map_cons, show tv ad (.inr (.inr (some (101, 0)))) = .ref (ad 101 0) from rfl, hC.2.2.2.2.2.2.2.1] at hg
  exact hg
/-- every instruction that is no call and no return -/
theorem ms_all (C : mCx p R s m args meth c D A b t L xs I d n0 s0 N1 S1) (hpc : nth I.2.2.2.2.2.2.2.2 ip = some pc) {i : Instr} (hok : okB I pc (nth I.2.2.2.2.2.2.2.2 (ip + 1)) i v = true) (h : mstep L xs i v ip ls st M = some (ip', ls', st', M')) (hb : M'.1.length ≤ N1 ∧ mSl M'.1 ≤ S1) (k : mGo p l e R s m args below meth c D A b t Z ad0 Q n0 s0 I ip' ls' st' M') : mGo p l e R s m args below meth c D A b t Z ad0 Q n0 s0 I ip ls st M := by
  cases i
  case iload => exact ms_iload C hpc hok h hb k
  case lload => exact ms_lload C hpc hok h hb k
  case aload => exact ms_aload C hpc hok h hb k
  case istore => exact ms_istore C hpc hok h hb k
  case astore => exact ms_astore C hpc hok h hb k
  case lstore => exact ms_lstore C hpc hok h hb k
  case iconst => exact ms_iconst C hpc hok h hb k
  case lconst => exact ms_lconst C hpc hok h hb k
  case aconst_null => exact ms_anull C hpc hok h hb k
  case iinc => exact ms_iinc C hpc hok h hb k
  case iadd => exact ms_iadd C hpc hok h hb k
  case isub => exact ms_isub C hpc hok h hb k
  case imul => exact ms_imul C hpc hok h hb k
  case iand => exact ms_iand C hpc hok h hb k
  case ior => exact ms_ior C hpc hok h hb k
  case ixor => exact ms_ixor C hpc hok h hb k
  case ishl => exact ms_ishl C hpc hok h hb k
  case ishr => exact ms_ishr C hpc hok h hb k
  case iushr => exact ms_iushr C hpc hok h hb k
  case idiv => exact ms_idiv C hpc hok h hb k
  case irem => exact ms_irem C hpc hok h hb k
  case ineg => exact ms_ineg C hpc hok h hb k
  case ladd => exact ms_ladd C hpc hok h hb k
  case lmul => exact ms_lmul C hpc hok h hb k
  case ldiv => exact ms_ldiv C hpc hok h hb k
  case lrem => exact ms_lrem C hpc hok h hb k
  case lcmp => exact ms_lcmp C hpc hok h hb k
  case i2l => exact ms_i2l C hpc hok h hb k
  case l2i => exact ms_l2i C hpc hok h hb k
  case i2b => exact ms_i2b C hpc hok h hb k
  case dup => exact ms_dup C hpc hok h hb k
  case dup2 => exact ms_dup2 C hpc hok h hb k
  case goto => exact ms_goto C hpc hok h hb k
  case if_icmp => exact ms_icmp C hpc hok h hb k
  case ifCond => exact ms_ifc C hpc hok h hb k
  case ifnull => exact ms_ifnull C hpc hok h hb k
  case ifnonnull => exact ms_ifnonnull C hpc hok h hb k
  case tableswitch => exact ms_tsw C hpc hok h hb k
  case invokeinterface => exact ms_get C hpc hok h hb k
  case multianewarray => exact ms_put C hpc hok h hb k
  case getstatic => exact ms_gst C hpc hok h hb k
  case iaload => exact ms_iaload C hpc hok h hb k
  case baload => exact ms_baload C hpc hok h hb k
  case caload => exact ms_caload C hpc hok h hb k
  case aaload => exact ms_aaload C hpc hok h hb k
  case iastore => exact ms_iastore C hpc hok h hb k
  case bastore => exact ms_bastore C hpc hok h hb k
  case aastore => exact ms_aastore C hpc hok h hb k
  case arraylength => exact ms_alen C hpc hok h hb k
  case anewarray => exact ms_newa C hpc hok h hb k
  case new => exact ms_new C hpc hok h hb k
  case pop => exact ms_pop C hpc hok h hb k
  case lneg => exact ms_mabs C hpc hok h hb k
  case lor => exact ms_mmax C hpc hok h hb k
  case lxor => exact ms_mmin C hpc hok h hb k
  case dup2_x2 => exact ms_cpy C hpc hok h hb k
  all_goals exact absurd h (by intro z; cases z)
end SNM
end
section
def mEnt : List mV → List (Option mV)
  | [] => []
  | .inr (.inl x) :: l => some (.inr (.inl x)) :: none :: mEnt l
  | v :: l => some v :: mEnt l
def mPad (n : Nat) (l : List (Option mV)) : List (Option mV) := match n, l with
  | 0, l => l
  | n + 1, [] => none :: mPad n []
  | n + 1, a :: l => a :: mPad n l
/-- what a return may give back -/
def mRet (rt : Option FieldType) (i : Instr) (st : List mV) : Option (Option mV) :=
  match i with
  | .ireturn => match st with
    | [.inl x] => match rt with
      | some .int => some (some (.inl x))
      | some .boolean => if x = 0 ∨ x = 1 then some (some (.inl x)) else none
      | _ => none
    | _ => none
  | .lreturn => match st with
    | [.inr (.inl x)] => match rt with
      | some .long => some (some (.inr (.inl x)))
      | _ => none
    | _ => none
  | .areturn => match st with
    | [.inr (.inr r)] => match rt with
      | some (.object _) => some (some (.inr (.inr r)))
      | _ => none
    | _ => none
  | .return_ => match st with
    | [] => match rt with
      | none => some none
      | _ => none
    | _ => none
  | _ => none
/-- a call: which method, its arguments, what lies below them on the stack -/
def mCall (i : Instr) (st : List mV) : Option (mI × List mV × List mV) :=
  match i with
  | .invokestatic t => match mG t with
    | some I => if I.2.2.2.2.2.2.1 = true ∧ I.2.2.2.2.2.1 ≤ st.length ∧ mCats (st.drop I.2.2.2.2.2.1) ≤ 8 then some (I, (st.take I.2.2.2.2.2.1).reverse, st.drop I.2.2.2.2.2.1) else none
    | none => none
  | .invokevirtual t => match mG t with
    | some I => if I.2.2.2.2.2.2.1 = false ∧ I.2.2.2.2.2.1 ≤ st.length ∧ mCats (st.drop I.2.2.2.2.2.1) ≤ 8 then match (st.take I.2.2.2.2.2.1).reverse with
      | .inr (.inr (some (k, i))) :: as => if k = I.1 then some (I, .inr (.inr (some (k, i))) :: as, st.drop I.2.2.2.2.2.1) else none
      | _ => none
      else none
    | none => none
  | .invokespecial t => match mG t with
    | some I => if I.2.2.2.2.2.2.1 = false ∧ I.2.2.2.2.2.1 ≤ st.length ∧ mCats (st.drop I.2.2.2.2.2.1) ≤ 8 then match (st.take I.2.2.2.2.2.1).reverse with
      | .inr (.inr (some (k, i))) :: as => if k = I.1 then some (I, .inr (.inr (some (k, i))) :: as, st.drop I.2.2.2.2.2.1) else none
      | _ => none
      else none
    | none => none
  | _ => none
def mrun (L : Nat) (xs : Nat → Int32) : Nat → Nat → mI → Nat → List (Option mV) → List mV → mM → Option (Option mV × mM)
  | 0, _, _, _, _, _, _ => none
  | n + 1, d, I, ip, ls, st, M => match nth I.2.2.2.2.2.2.2.1 ip with
    | none => none
    | some (i, v) => match mRet I.2.2.2.2.1 i st with
      | some r => some (r, M)
      | none => match mCall i st with
        | some (J, as, rest) => match d with
          | 0 => none
          | d' + 1 => if (mEnt as).length ≤ J.2.2.2.1 then match mrun L xs n d' J 0 (mPad J.2.2.2.1 (mEnt as)) [] M with
            | some (r, M') => mrun L xs n (d' + 1) I (ip + 1) ls (r.toList ++ rest) M'
            | none => none
            else none
        | none => match mstep L xs i v ip ls st M with
          | some (ip', ls', st', M') => mrun L xs n d I ip' ls' st' M'
          | none => none
theorem mstep_mono {L : Nat} {xs : Nat → Int32} {i : Instr} {v : Value} {ip ip' : Nat} {ls ls' : List (Option mV)} {st st' : List mV} {M M' : mM} (h : mstep L xs i v ip ls st M = some (ip', ls', st', M')) : ∃ x, M'.1 = M.1 ++ x := by
  unfold mstep at h
  split at h
  all_goals (repeat' (split at h))
  all_goals (first | (cases h; exact ⟨[], (List.append_nil _).symm⟩) | (cases h; exact ⟨_, rfl⟩) | cases h)
theorem mrun_mono {L : Nat} {xs : Nat → Int32} (n : Nat) : ∀ (d : Nat) (I : mI) (ip : Nat) (ls : List (Option mV)) (st : List mV) (M : mM) (r : Option mV) (M' : mM), mrun L xs n d I ip ls st M = some (r, M') → ∃ x, M'.1 = M.1 ++ x := by
  induction n with
  | zero => intro d I ip ls st M r M' h; cases h
  | succ n ih =>
    intro d I ip ls st M r M' h
    unfold mrun at h
    split at h
    · cases h
    · split at h
      · cases h; exact ⟨[], (List.append_nil _).symm⟩
      · split at h
        · split at h
          · cases h
          · split at h
            · split at h
              · rename_i zr zM hz
                obtain ⟨x, hx⟩ := ih _ _ _ _ _ _ _ _ hz
                obtain ⟨y, hy⟩ := ih _ _ _ _ _ _ _ _ h
                exact ⟨x ++ y, by rw [hy, hx, List.append_assoc]⟩
              · cases h
            · cases h
        · split at h
          · rename_i hz
            obtain ⟨x, hx⟩ := mstep_mono hz
            obtain ⟨y, hy⟩ := ih _ _ _ _ _ _ _ _ h
            exact ⟨x ++ y, by rw [hy, hx, List.append_assoc]⟩
          · cases h
theorem mSl_apps (a x : List (Nat × Nat)) : mSl (a ++ x) = mSl a + mSl x := by
  induction a with
  | nil => show mSl x = 0 + mSl x; omega
  | cons r l ih =>
    show mSz r.1 + mSl (l ++ x) = mSz r.1 + mSl l + mSl x
    rw [ih]; omega
theorem mono_le {M M' : mM} (h : ∃ x, M'.1 = M.1 ++ x) : M.1.length ≤ M'.1.length ∧ mSl M.1 ≤ mSl M'.1 := by
  obtain ⟨x, hx⟩ := h
  rw [hx, List.length_append, mSl_apps]
  exact ⟨Nat.le_add_right _ _, Nat.le_add_right _ _⟩
theorem mono_ok {M M' : mM} (h : ∃ x, M'.1 = M.1 ++ x) (v : mV) (hv : rOK M v) : rOK M' v := by
  obtain ⟨x, hx⟩ := h
  rcases v with z | z | r
  · trivial
  · trivial
  · cases r with
    | none => trivial
    | some r =>
      rcases hv with hv | hv
      · exact Or.inl (by rw [hx]; exact List.mem_append_left _ hv)
      · exact Or.inr hv
theorem mPad_len (k : Nat) (l : List (Option mV)) (h : l.length ≤ k) : (mPad k l).length = k := by
  induction k generalizing l with
  | zero => unfold mPad; omega
  | succ k ih =>
    cases l with
    | nil => unfold mPad; rw [List.length_cons, ih [] (Nat.zero_le _)]
    | cons a l => unfold mPad; rw [List.length_cons, ih l (by simp only [List.length_cons] at h; omega)]
theorem mPad_mem {k : Nat} {l : List (Option mV)} {v : mV} (h : some v ∈ mPad k l) : some v ∈ l := by
  induction k generalizing l with
  | zero => exact h
  | succ k ih =>
    cases l with
    | nil =>
      unfold mPad at h
      rcases List.mem_cons.mp h with e | h
      · cases e
      · exact ih h
    | cons a l =>
      unfold mPad at h
      rcases List.mem_cons.mp h with e | h
      · rw [e]; exact List.mem_cons_self
      · exact List.mem_cons_of_mem _ (ih h)
theorem mEnt_mem {as : List mV} {v : mV} (h : some v ∈ mEnt as) : v ∈ as := by
  induction as with
  | nil => cases h
  | cons a l ih =>
    unfold mEnt at h
    split at h
    · cases ‹_ :: _ = []›
    · rename_i e
      cases e
      rcases List.mem_cons.mp h with e | h
      · cases e; exact List.mem_cons_self
      · rcases List.mem_cons.mp h with e | h
        · cases e
        · exact List.mem_cons_of_mem _ (ih h)
    · rename_i e
      cases e
      rcases List.mem_cons.mp h with e | h
      · cases e; exact List.mem_cons_self
      · exact List.mem_cons_of_mem _ (ih h)
theorem lvA_nones (ad : Nat → Nat → Nat) (k n : Nat) : lvA ad n (mPad k []) = [] := by
  induction k generalizing n with
  | zero => rfl
  | succ k ih => unfold mPad; unfold lvA; exact ih (n + 1)
theorem mEnt_i (x : Int32) (l : List mV) : mEnt (.inl x :: l) = some (.inl x) :: mEnt l := rfl
theorem mEnt_l (x : Int64) (l : List mV) : mEnt (.inr (.inl x) :: l) = some (.inr (.inl x)) :: none :: mEnt l := rfl
theorem mEnt_r (r : Option (Nat × Nat)) (l : List mV) : mEnt (.inr (.inr r) :: l) = some (.inr (.inr r)) :: mEnt l := rfl
theorem lvA_entry (ad : Nat → Nat → Nat) (as : List mV) : ∀ (k n : Nat), (mEnt as).length ≤ k → lvA ad n (mPad k (mEnt as)) = lv_args n (as.map (tv ad)) := by
  induction as with
  | nil => intro k n _; exact lvA_nones ad k n
  | cons v l ih =>
    intro k n h
    have one : ∀ w : mV, mEnt (w :: l) = some w :: mEnt l → (tv ad w).category = 1 → (mEnt (w :: l)).length ≤ k → lvA ad n (mPad k (mEnt (w :: l))) = lv_args n ((w :: l).map (tv ad)) := by
      intro w e1 e2 h
      rw [e1] at h ⊢
      simp only [List.length_cons] at h
      cases k with
      | zero => omega
      | succ k =>
        unfold mPad lvA
        rw [ih k (n + 1) (by omega), List.map_cons]
        show _ = (n, tv ad w) :: lv_args (if (tv ad w).category = 2 then n + 2 else n + 1) (List.map (tv ad) l)
        rw [e2, if_neg (by decide)]
    rcases v with x | x | r
    · exact one _ (mEnt_i x l) rfl h
    · rw [mEnt_l] at h ⊢
      simp only [List.length_cons] at h
      match k, h with
      | k + 2, h =>
        show lvA ad n (some (.inr (.inl x)) :: none :: mPad k (mEnt l)) = _
        unfold lvA
        unfold lvA
        rw [ih k (n + 1 + 1) (by omega), List.map_cons]
        show _ = (n, tv ad (.inr (.inl x))) :: lv_args (if (tv ad (.inr (.inl x))).category = 2 then n + 2 else n + 1) (List.map (tv ad) l)
        rw [show (tv ad (.inr (.inl x))).category = 2 from rfl, if_pos rfl]
      | 0, h => omega
      | 1, h => omega
    · exact one _ (mEnt_r r l) (tv_cat ad _) h
theorem lg_len (ad : Nat → Nat → Nat) (as : List mV) : (lg_sl (as.map (tv ad))).length = (mEnt as).length := by
  induction as with
  | nil => rfl
  | cons v l ih =>
    have hc : lg_sl ((v :: l).map (tv ad)) = (if (tv ad v).category = 2 then [.val (tv ad v), .second] else [.val (tv ad v)]) ++ lg_sl (l.map (tv ad)) := by
      unfold lg_sl
      rw [List.map_cons, List.flatMap_cons]
    rw [hc, List.length_append, ih, tv_cat]
    rcases v with x | x | r
    · rw [mEnt_i]; show 1 + _ = _; rw [List.length_cons]; omega
    · rw [mEnt_l]; show 2 + _ = _; rw [List.length_cons, List.length_cons]; omega
    · rw [mEnt_r]; show 1 + _ = _; rw [List.length_cons]; omega
end
section
/-! the small machine's run gives the true one's: contracts of all methods at once -/
def mRm (d mc ms : Nat) : Room := { frames := d + 1, cells := mc, slots := ms, locals := (d + 1) * 60 }
def mWords (J : mI) : List Cond := Cond.code J.2.1 J.2.2.1 J.2.2.2.1 J.2.2.2.2.1 :: gTbl
def mPre (D : va_G) (b t L : Nat) (xs : Nat → Int32) (M : mM) (ad : Nat → Nat → Nat) (ca : Nat → Nat → ClassId) (sz : Nat) (U : State) : Prop :=
  U.heap.size = sz ∧ va_P D vwCl (mWs M ad ca) U.heap ∧ va_D (fun _ => True) (mWs M ad ca) ∧
  (∀ r ∈ M.1, ∀ (ty : FieldType) (n : Nat), nth mKs r.1 = some (.inr (ty, n)) → ArrOfT U (ca r.1 r.2) ty ∧ va_RA U (ca r.1 r.2) ty) ∧
  (∀ r ∈ M.1, ∀ j : Nat, rOK M (.inr (.inr (M.2.1 r.1 r.2 j)))) ∧ (∀ r ∈ M.1, r.1 < 52) ∧ ad 100 0 = b ∧ ad 101 0 = t ∧
  (∀ (c : Nat) (q : vw_C), vwCl[c]? = some q → u_Kn U q.1 q.2.1 q.2.2 (D.1 c) (D.2 c)) ∧ (va_X b L xs U U.heap ∧ b < sz ∧ ¬ va_A (mWs M ad ca) sz b) ∧
  va_Z "AnnCups" "LETTERS" "[C" (.ref t) (va_A (mWs M ad ca) sz) U U.heap ∧ va_T .char t 6 (fun j => .int (lett j)) (va_A (mWs M ad ca) sz) U U.heap ∧ mX U
theorem mPre.move {D : va_G} {b t L : Nat} {xs : Nat → Int32} {M : mM} {ad : Nat → Nat → Nat} {ca : Nat → Nat → ClassId} {sz : Nat} {U V : State} (h : mPre D b t L xs M ad ca sz U) (hh : V.heap = U.heap) (hv : U.vm.Alike V.vm) (hx : mX V) : mPre D b t L xs M ad ca sz V := by
  obtain ⟨h1, h2, h3, h4, h5, h6, h7, h8, h9, h10, h11, h12, h13⟩ := h
  refine ⟨by rw [hh]; exact h1, by rw [hh]; exact h2, h3, fun r hr ty n hk => ⟨arrOfT_moved hv (h4 r hr ty n hk).1, (h4 r hr ty n hk).2.moved hv⟩, h5, h6, h7, h8, fun c q hq => u_Kn_moved hv (h9 c q hq), ⟨by rw [hh]; exact h10.1.moved hv, h10.2⟩, by rw [hh]; exact h11.moved hv, by rw [hh]; exact h12.moved hv, hx⟩
def mPost (D : va_G) (b t : Nat) (M : mM) (ad : Nat → Nat → Nat) (ca : Nat → Nat → ClassId) (sz : Nat) (r : Option mV) (M' : mM) : Array Value → State → Outcome → State → Prop := fun _ st oc T =>
  ∃ (ad' : Nat → Nat → Nat) (ca' : Nat → Nat → ClassId), (∀ q ∈ M.1, ad' q.1 q.2 = ad q.1 q.2) ∧ ad' 100 0 = b ∧ ad' 101 0 = t ∧ oc = .returned (r.map (tv ad')) ∧ va_P D vwCl (mWs M' ad' ca') T.heap ∧ va_D (va_A (mWs M ad ca) sz) (mWs M' ad' ca') ∧
  (∀ r ∈ M'.1, ∀ (ty : FieldType) (n : Nat), nth mKs r.1 = some (.inr (ty, n)) → ArrOfT T (ca' r.1 r.2) ty ∧ va_RA T (ca' r.1 r.2) ty) ∧
  (∀ r ∈ M'.1, ∀ j : Nat, rOK M' (.inr (.inr (M'.2.1 r.1 r.2 j)))) ∧ (∀ r ∈ M'.1, r.1 < 52) ∧ (∀ v, r = some v → rOK M' v) ∧ va_F (va_A (mWs M ad ca) sz) st T
theorem tv_agree {M : mM} {ad ad' : Nat → Nat → Nat} {v : mV} (h : rOK M v) (h1 : ∀ q ∈ M.1, ad' q.1 q.2 = ad q.1 q.2) (h2 : ad' 100 0 = ad 100 0) (h3 : ad' 101 0 = ad 101 0) : tv ad' v = tv ad v := by
  rcases v with x | x | r
  · rfl
  · rfl
  · cases r with
    | none => rfl
    | some r =>
      show Value.ref (ad' r.1 r.2) = Value.ref (ad r.1 r.2)
      rcases h with h | h | h
      · rw [h1 r h]
      · rw [h]; exact congrArg _ h2
      · rw [h]; exact congrArg _ h3
theorem lvA_agree {M : mM} {ad ad' : Nat → Nat → Nat} {ls : List (Option mV)} (h : ∀ v, some v ∈ ls → rOK M v) (h1 : ∀ q ∈ M.1, ad' q.1 q.2 = ad q.1 q.2) (h2 : ad' 100 0 = ad 100 0) (h3 : ad' 101 0 = ad 101 0) (n : Nat) : lvA ad' n ls = lvA ad n ls := by
  induction ls generalizing n with
  | nil => rfl
  | cons a l ih =>
    cases a with
    | none => exact ih (fun v hv => h v (List.mem_cons_of_mem _ hv)) (n + 1)
    | some w =>
      unfold lvA
      rw [ih (fun v hv => h v (List.mem_cons_of_mem _ hv)) (n + 1), tv_agree (h w List.mem_cons_self) h1 h2 h3]
/-- what the induction shows for runs of n steps -/
def SG (L : Nat) (xs : Nat → Int32) (n : Nat) : Prop := ∀ (d : Nat) (I : mI) (ip : Nat) (ls : List (Option mV)) (st : List mV) (M : mM) (r : Option mV) (M' : mM), mrun L xs n d I ip ls st M = some (r, M') →
  ∀ (p : Program) (l : Launch) (e : Env) (R : Room) (s : State) (m : MethodId) (args : Array Value) (below : List Frame) (meth : Method) (c : Code) (D : va_G) (A : Nat → Prop) (b t : Nat) (Z : List (Nat × Nat)) (ad0 : Nat → Nat → Nat) (Q : State → Prop) (n0 s0 N1 S1 : Nat),
    mCx p R s m args meth c D A b t L xs I d n0 s0 N1 S1 → M'.1.length ≤ N1 ∧ mSl M'.1 ≤ S1 →
    (∀ (i : Instr) (v : Value) (ipR pcR : Nat) (lsR : List (Option mV)) (stR : List mV), nth I.2.2.2.2.2.2.2.1 ipR = some (i, v) → mRet I.2.2.2.2.1 i stR = some r → nth I.2.2.2.2.2.2.2.2 ipR = some pcR → okD I pcR i 1 = true → ∀ ad ca H locs cells slots la, mCe s D A b t Z ad0 M' ad ca H locs → mLo n0 s0 I.2.2.2.1 lsR M' ad cells slots la → (∀ v ∈ stR, rOK M' v) →
      W p l e R s m args below meth c H locs cells slots Q (F0 m pcR la (stR.map (tv ad)))) →
    mGo p l e R s m args below meth c D A b t Z ad0 Q n0 s0 I ip ls st M
theorem okH_spec {J : mI} (h : okM J = true) : J.2.1.cls = ownN J.1 ∧ J.1 < 12 ∧ plainName J.2.1.cls = true ∧ (J.2.1.cls ≠ "java/lang/invoke/MethodHandle" ∧ J.2.1.cls ≠ "java/lang/invoke/VarHandle" ∧ (parseMethodDescriptor J.2.1.desc).map (fun d => d.parameters.length) = some (if J.2.2.2.2.2.2.1 = true then J.2.2.2.2.2.1 else J.2.2.2.2.2.1 - 1)) ∧ (J.2.2.2.2.2.2.1 = true ∨ 0 < J.2.2.2.2.2.1) ∧ J.2.2.2.1 ≤ 40 ∧ nth J.2.2.2.2.2.2.2.2 0 = some 0 := by
  unfold okM okH at h
  simp only [Bool.and_eq_true, decide_eq_true_eq] at h
  obtain ⟨⟨⟨⟨⟨⟨⟨⟨⟨h1, h2⟩, h3⟩, h4⟩, h5⟩, h6⟩, h7⟩, h8⟩, h9⟩, -⟩ := h
  exact ⟨h1, h2, h3, ⟨h4, h5, h6⟩, h7, h8, h9⟩
theorem ok_at {I : mI} (h : okM I = true) {ip : Nat} {o : mO} (ho : nth I.2.2.2.2.2.2.2.1 ip = some o) : ∃ pc, nth I.2.2.2.2.2.2.2.2 ip = some pc ∧ okB I pc (nth I.2.2.2.2.2.2.2.2 (ip + 1)) o.1 o.2 = true := by
  unfold okM at h
  rw [Bool.and_eq_true] at h
  exact okL_at _ _ h.2 ip o ho
set_option maxHeartbeats 4000000 in
/-- a method's contract out of its run -/
theorem met_of {L : Nat} {xs : Nat → Int32} {n : Nat} (hS : SG L xs n) {J : mI} (hJ : okM J = true) {d : Nat} {as : List mV} {M M' : mM} {r : Option mV} (hrun : mrun L xs n d J 0 (mPad J.2.2.2.1 (mEnt as)) [] M = some (r, M')) (hlen : (mEnt as).length ≤ J.2.2.2.1) (has : ∀ v ∈ as, rOK M v) (l : Launch) (D : va_G) (b t : Nat) (ad : Nat → Nat → Nat) (ca : Nat → Nat → ClassId) (sz : Nat) :
    Met l J.2.1 (mWords J) (mRm d (M'.1.length - M.1.length) (mSl M'.1 - mSl M.1)) (va_Pc (as.map (tv ad)) (mPre D b t L xs M ad ca sz)) (mPost D b t M ad ca sz r M') (M'.1.length - M.1.length) (mSl M'.1 - mSl M.1) (va_A (mWs M ad ca) sz) := by
  obtain ⟨hcls, h12, hpl, -, -, h40, hpc0⟩ := okH_spec hJ
  refine Met.ofW (cc := J.2.2.1) (maxL := J.2.2.2.1) (ret := J.2.2.2.2.1) hpl rfl ?_
  intro p e s m args below meth c s₁ B hml hv
  obtain ⟨rfl, hpre⟩ := hv
  obtain ⟨h1, h2, h3, h4, h5, h6, h7, h8, h9, h10, h11, h12', h13⟩ := hpre
  subst h1
  have hts : ∀ w ∈ gTbl, w.before (as.map (tv ad)).toArray s = true := fun w hw => atoms_spec (ws := mWords J) B.pre w (List.mem_cons_of_mem _ hw)
  have hown : s.vm.findClass (ownN J.1) = some m.cls := by
    rw [← hcls]
    exact findClass_of_methodNamed B.named
  have hlocks : meth.locks = false := B.notSynchronized
  have hC : mCx p (headSpec (mWords J) (mRm d (M'.1.length - M.1.length) (mSl M'.1 - mSl M.1))).room s m (as.map (tv ad)).toArray meth c D (va_A (mWs M ad ca) s.heap.size) b t L xs J d M.1.length (mSl M.1) M'.1.length (mSl M'.1) :=
    ⟨B.exec, B.bytes, hml, hown, hts, h9, fun q hq => Or.inr hq, h10, h11, h12', h13, fun hn => by rw [(name_of_methodNamed B.named B.method).1]; exact hn, Nat.le_refl _, Nat.le_refl _, hJ, (by show M'.1.length ≤ M.1.length + (M'.1.length - M.1.length); omega), (by show mSl M'.1 ≤ mSl M.1 + (mSl M'.1 - mSl M.1); omega)⟩
  have hD := h3.self (sz := s.heap.size)
  have hent := lv_entry (as.map (tv ad)) (n := J.2.2.2.1) (by rw [lg_len]; exact hlen)
  rw [← lvA_entry ad as J.2.2.2.1 0 hlen] at hent
  rw [lg_entry_eq]
  have hm := mono_le (mrun_mono n _ _ _ _ _ _ _ _ hrun)
  have hgo := hS d J 0 _ [] M r M' hrun p l e _ s m _ below meth c D _ b t M.1 ad (MQ below (mPost D b t M ad ca s.heap.size r M') (as.map (tv ad)).toArray s (M'.1.length - M.1.length) (mSl M'.1 - mSl M.1) (va_A (mWs M ad ca) s.heap.size)) _ _ _ _ hC ⟨Nat.le_refl _, Nat.le_refl _⟩ ?_
  · exact hgo 0 hpc0 ad ca s.heap [] 0 0 _ ⟨h2, hD, va_S.rf, h4, h5, h6, h7, h8, fun q hq => ⟨hq, rfl⟩⟩ ⟨hent, mPad_len _ _ hlen, fun v hv => has v (mEnt_mem (mPad_mem hv)), Nat.zero_add _, Nat.zero_add _⟩ (fun v hv => nomatch hv)
  · intro i v ipR pcR lsR stR hcode hret hpcR hok ad' ca' H locs cells slots la hCe hLo hst
    have hd := okD_spec hok
    have hc1 : cells = M'.1.length - M.1.length := by have := hLo.2.2.2.1; omega
    have hc2 : slots = mSl M'.1 - mSl M.1 := by have := hLo.2.2.2.2; omega
    subst hc1
    subst hc2
    have post : ∀ (z : Option Value), z = r.map (tv ad') → (∀ v, r = some v → rOK M' v) → ∀ T : State, T.heap = H → s.WarmedH T.vm → mPost D b t M ad ca s.heap.size r M' (as.map (tv ad)).toArray s (.returned z) T := by
      intro z hz hro T hT hW
      exact ⟨ad', ca', fun q hq => (hCe.2.2.2.2.2.2.2.2 q hq).2, hCe.2.2.2.2.2.2.1, hCe.2.2.2.2.2.2.2.1, by rw [hz], by rw [hT]; exact hCe.1, hCe.2.1, fun r hr ty n hk => ⟨arrOfT_moved hW.alike (hCe.2.2.2.1 r hr ty n hk).1, (hCe.2.2.2.1 r hr ty n hk).2.moved hW.alike⟩, hCe.2.2.2.2.1, hCe.2.2.2.2.2.1, hro, hCe.2.2.1.F hT⟩
    have hr := B.returns
    unfold mRet at hret
    split at hret
    · split at hret
      · rename_i x
        split at hret
        · rename_i hrt
          cases hret
          rw [hrt] at hr
          exact W.iret B.exec B.bytes hr (post _ rfl (fun v hv => by cases hv; trivial)) hCe.2.2.1.2.2 hd
        · rename_i hrt
          split at hret
          · rename_i h01
            cases hret
            rw [hrt] at hr
            exact W.zret B.exec B.bytes hr (by rcases h01 with h01 | h01 <;> rw [h01] <;> rfl) (post _ rfl (fun v hv => by cases hv; trivial)) hCe.2.2.1.2.2 hd
          · cases hret
        · cases hret
      · cases hret
    · split at hret
      · split at hret
        · rename_i hrt
          cases hret
          rw [hrt] at hr
          exact W.lret B.exec B.bytes hr (post _ rfl (fun v hv => by cases hv; trivial)) hCe.2.2.1.2.2 hd
        · cases hret
      · cases hret
    · split at hret
      · rename_i zr
        split at hret
        · rename_i hrt
          cases hret
          rw [hrt] at hr
          exact W.aret (v := tv ad' (.inr (.inr zr))) B.exec B.bytes hr (Or.inl ⟨_, rfl⟩) (by cases zr with
            | none => exact Or.inl rfl
            | some q => exact Or.inr ⟨_, rfl⟩) (post _ rfl (fun v hv => by cases hv; exact st_hd hst)) hCe.2.2.1.2.2 hd
        · cases hret
      · cases hret
    · split at hret
      · split at hret
        · rename_i hrt
          cases hret
          rw [hrt] at hr
          exact W.vret B.exec B.bytes hr (post _ rfl (fun v hv => by cases hv)) hCe.2.2.1.2.2 hd
        · cases hret
      · cases hret
    · cases hret
end
section
theorem ret_ok {rt : Option FieldType} {i : Instr} {st : List mV} {r : Option mV} {I : mI} {pc : Nat} {nx : Option Nat} {v : Value} (h : mRet rt i st = some r) (hok : okB I pc nx i v = true) : okD I pc i 1 = true := by
  unfold mRet at h
  split at h
  · exact hok
  · exact hok
  · exact hok
  · exact hok
  · cases h
def vMB (t : Nat) : Bool := match mG t with
  | some J => decide (J.1 < 8)
  | none => true
theorem vMB_ok : ∀ t ∈ tVM, vMB t = true := by decide +kernel
theorem vM_lt (t : Nat) (ht : t ∈ tVM) (J : mI) (hG : mG t = some J) (k : Nat) (hk : k = J.1) : k < 8 := by
  have h := vMB_ok t ht
  unfold vMB at h
  rw [hG] at h
  rw [hk]
  exact of_decide_eq_true h
def ivB (t : Nat) : Bool := match mG t with
  | some J => !decide (J.2.1.name = "<init>") || decide (J.2.2.2.2.1 = none)
  | none => true
theorem ivB_ok : ∀ t, t < 240 → ivB t = true := by decide +kernel
theorem row_len : ∀ r ∈ mTab, r.length ≤ 16 := by
  intro r hr
  unfold mTab at hr
  simp only [List.mem_cons, List.not_mem_nil, or_false] at hr
  rcases hr with rfl | rfl | rfl | rfl | rfl | rfl | rfl | rfl | rfl | rfl | rfl | rfl | rfl | rfl | rfl
  all_goals decide
theorem mG_lt {t : Nat} {J : mI} (h : mG t = some J) : t < 240 := by
  unfold mG at h
  split at h
  · rename_i r hr
    have h1 := nth_lt hr
    have h2 : mTab.length = 15 := rfl
    have h3 := nth_lt h
    have h4 : r.length ≤ 16 := row_len r (nth_mem hr)
    omega
  · cases h
theorem init_void (t : Nat) (J : mI) (hG : mG t = some J) (hn : J.2.1.name = "<init>") : J.2.2.2.2.1 = none := by
  have h := ivB_ok t (mG_lt hG)
  unfold ivB at h
  rw [hG] at h
  dsimp only at h
  rw [hn] at h
  simpa using h
theorem m_call {p : Program} {l : Launch} {e : Env} {R : Room} {s : State} {m : MethodId} {args : Array Value} {below : List Frame} {meth : Method} {c : Code} {H : Heap} {locs : List Loc} {cells slots mc ms pc : Nat} {la : Array Slot} {st0 rest : List Value} {Q : State → Prop} {Qa : State → Outcome → State → Prop} {free : Addr → Prop}
    (hr : va_Run p l e R s m args below meth c H locs cells slots mc ms (F0 m pc la st0) rest Qa free)
    (kk : ∀ (v : Option Value) (s0 t : State) (K : List Loc) (H1 : Heap), s0.heap = H → s.vm.Alike t.vm → t.heap = H1 → Qa s0 (.returned v) t → (∀ q ∈ K, free q.base) → W p l e R s m args below meth c H1 (locs ++ K) (cells + mc) (slots + ms) Q (F0 m (pc + 3) la (v.toList ++ rest))) : W p l e R s m args below meth c H locs cells slots Q (F0 m pc la st0) := by
  intro T hT X
  obtain ⟨v, s0, t, T', K, h0, X', hL, e1, e2, hq, st⟩ := hr T hT X
  obtain ⟨t2, a1, b1⟩ := kk v s0 t K T'.heap h0 (by rw [← e2]; exact X'.warmed.alike) e1.symm hq hL T' rfl X'
  exact ⟨t2, st t2 a1, b1⟩
theorem tMT_lt : ∀ q ∈ tMT, q.2.2 < 230 := by decide +kernel
theorem tNT_lt : ∀ q ∈ tNT, q.2.2 < 230 := by decide +kernel
theorem mYn_of {t : Nat} {J : mI} (h : mG t = some J) : mYn t = J.2.1 := by unfold mYn; rw [h]
theorem wCD_of {t : Nat} {J : mI} (h : mG t = some J) (ht : t < 230) : Cond.code J.2.1 J.2.2.1 J.2.2.2.1 J.2.2.2.2.1 ∈ gTbl := by
  have h1 := tCD_in (wCD t) (List.mem_map.mpr ⟨t, List.mem_range.mpr ht, rfl⟩)
  unfold wCD at h1
  rw [h] at h1
  exact h1
theorem wSI_of {t : Nat} {J : mI} (h : mG t = some J) (ht : t < 230) : (if J.2.2.2.2.2.2.1 = true then Cond.static J.2.1 else Cond.instanceMethod J.2.1) ∈ gTbl := by
  have h1 := tSI_in (wSI t) (List.mem_map.mpr ⟨t, List.mem_range.mpr ht, rfl⟩)
  unfold wSI at h1
  rw [h] at h1
  exact h1
theorem wII_of {J : mI} (h : okM J = true) : Cond.initialized J.2.1.cls ∈ gTbl := by
  obtain ⟨h1, h2, -⟩ := okH_spec h
  rw [h1]
  exact tII_in _ (List.mem_map.mpr ⟨J.1, List.mem_range.mpr h2, rfl⟩)
theorem wGI_of {t : Nat} {J : mI} (h : mG t = some J) (ht : t < 230) : GoodIn gTbl (mWords J) := by
  intro w hw
  unfold mWords at hw
  rcases List.mem_cons.mp hw with e | hw
  · rw [e]
    exact gTbl_good _ (wCD_of h ht)
  · exact gTbl_good w hw
section SNC
variable {p : Program} {l : Launch} {e : Env} {R : Room} {s : State} {m : MethodId} {args : Array Value} {below : List Frame} {meth : Method} {c : Code} {D : va_G} {A : Nat → Prop} {b t L : Nat} {Z : List (Nat × Nat)} {ad0 : Nat → Nat → Nat} {xs : Nat → Int32} {I : mI} {d n0 s0 N1 S1 : Nat} {Q : State → Prop} {ip pc ip' : Nat} {ls ls' : List (Option mV)} {st st' : List mV} {M M' : mM} {v : Value}
/-- the start that a callee wants, at the caller's state -/
theorem pre_of (C : mCx p R s m args meth c D A b t L xs I d n0 s0 N1 S1) {ad : Nat → Nat → Nat} {ca : Nat → Nat → ClassId} {H : Heap} {locs : List Loc} (hC : mCe s D A b t Z ad0 M ad ca H locs) : ∀ U : State, U.heap = H → s.WarmedH U.vm → mPre D b t L xs M ad ca H.size U := by
  intro U hU hW
  have hsub : ∀ q, va_A (mWs M ad ca) H.size q → A q := by
    rintro q (⟨j, w, hj⟩ | hq)
    · exact hC.2.1.2 j (q, w) hj
    · exact C.2.2.2.2.2.2.1 q (Nat.le_trans hC.2.2.1.1 hq)
  have hkeep : ∀ a : Nat, a < s.heap.size → ¬ A a → H[a]? = s.heap[a]? := fun a h1 h2 => hC.2.2.1.2.1 a h1 h2
  obtain ⟨hX1, hX2, hX3⟩ := C.2.2.2.2.2.2.2.1
  refine ⟨by rw [hU], by rw [hU]; exact hC.1, hC.2.1.weaken (fun _ _ _ _ => trivial), fun r hr ty n hk => ⟨arrOfT_moved hW.alike (hC.2.2.2.1 r hr ty n hk).1, (hC.2.2.2.1 r hr ty n hk).2.moved hW.alike⟩, hC.2.2.2.2.1, hC.2.2.2.2.2.1, hC.2.2.2.2.2.2.1, hC.2.2.2.2.2.2.2.1, fun c q hq => u_Kn_moved hW.alike (C.2.2.2.2.2.1 c q hq), ⟨by rw [hU]; exact (hX1.kept (hkeep b hX2 hX3)).moved hW.alike, Nat.lt_of_lt_of_le hX2 hC.2.2.1.1, fun z => hX3 (hsub b z)⟩, ?_, ?_, C.2.2.2.2.2.2.2.2.2.2.1.warm hW⟩
  · rw [hU]
    exact ((C.2.2.2.2.2.2.2.2.1.kept hkeep).narrow hsub).moved hW.alike
  · rw [hU]
    exact ((C.2.2.2.2.2.2.2.2.2.1.kept hkeep).narrow hsub).moved hW.alike
theorem pre_blind {D : va_G} {b t L : Nat} {xs : Nat → Int32} {M : mM} {ad : Nat → Nat → Nat} {ca : Nat → Nat → ClassId} {sz : Nat} {as : List Value} : FrameBlind (va_Pc as (mPre D b t L xs M ad ca sz)) := fun a U g mk q => ⟨q.1, q.2.move rfl (Vm.Alike.refl U.vm) (q.2.2.2.2.2.2.2.2.2.2.2.2.2.same rfl)⟩
/-- behind a call -/
theorem call_on (C : mCx p R s m args meth c D A b t L xs I d n0 s0 N1 S1) (hn : nth I.2.2.2.2.2.2.2.2 (ip + 1) = some (pc + 3)) {rest : List mV} {r1 : Option mV} {M1 : mM} (hmo : ∃ x, M1.1 = M.1 ++ x) (k : mGo p l e R s m args below meth c D A b t Z ad0 Q n0 s0 I (ip + 1) ls (r1.toList ++ rest) M1)
    {ad : Nat → Nat → Nat} {ca : Nat → Nat → ClassId} {H : Heap} {locs : List Loc} {cells slots : Nat} {la : Array Slot} (hC : mCe s D A b t Z ad0 M ad ca H locs) (hL : mLo n0 s0 I.2.2.2.1 ls M ad cells slots la) (hrest : ∀ v ∈ rest, rOK M v) {a0 : Array Value} {st0 : List Value}
    (hr : va_Run p l e R s m args below meth c H locs cells slots (M1.1.length - M.1.length) (mSl M1.1 - mSl M.1) (F0 m pc la st0) (rest.map (tv ad)) (mPost D b t M ad ca H.size r1 M1 a0) (va_A (mWs M ad ca) H.size)) : W p l e R s m args below meth c H locs cells slots Q (F0 m pc la st0) := by
  have hsub : ∀ q, va_A (mWs M ad ca) H.size q → A q := by
    rintro q (⟨j, w, hj⟩ | hq)
    · exact hC.2.1.2 j (q, w) hj
    · exact C.2.2.2.2.2.2.1 q (Nat.le_trans hC.2.2.1.1 hq)
  refine m_call hr (fun v q0 T K H1 h0 hvm hT hq hK => ?_)
  obtain ⟨ad', ca', e1, e2, e3, e4, e5, e6, e7, e8, e9, e10, e11⟩ := hq
  have f2 : ad' 100 0 = ad 100 0 := by rw [e2]; exact hC.2.2.2.2.2.2.1.symm
  have f3 : ad' 101 0 = ad 101 0 := by rw [e3]; exact hC.2.2.2.2.2.2.2.1.symm
  have hle := mono_le hmo
  have hg := k _ hn ad' ca' H1 (locs ++ K) (cells + (M1.1.length - M.1.length)) (slots + (mSl M1.1 - mSl M.1)) la
    ⟨by rw [← hT]; exact e5, e6.weaken (fun j q hj hq => hsub q.1 hq), ⟨?_, ?_, ?_⟩, fun r hr ty n hk => ⟨arrOfT_moved hvm.symm (e7 r hr ty n hk).1, (e7 r hr ty n hk).2.moved hvm.symm⟩, e8, e9, e2, e3, ?_⟩
    ⟨by rw [lvA_agree hL.2.2.1 e1 f2 f3]; exact hL.1, hL.2.1, fun w hw => mono_ok hmo w (hL.2.2.1 w hw), (by have := hL.2.2.2.1; omega), (by have := hL.2.2.2.2; omega)⟩ ?_
  · have e12 : v = r1.map (tv ad') := by cases e4; rfl
    rw [e12]
    rw [List.map_append, List.map_congr_left (fun w hw => tv_agree (hrest w hw) e1 f2 f3)] at hg
    cases r1 with
    | none => exact hg
    | some w => exact hg
  · rw [← hT]
    exact Nat.le_trans hC.2.2.1.1 (by rw [← h0]; exact e11.1)
  · intro q hq hA
    rw [← hT, e11.2 q (by rw [h0]; exact Nat.lt_of_lt_of_le hq hC.2.2.1.1) (fun z => hA (hsub q z)), h0]
    exact hC.2.2.1.2.1 q hq hA
  · intro q hq
    rcases List.mem_append.mp hq with hq | hq
    · exact hC.2.2.1.2.2 q hq
    · exact hsub _ (hK q hq)
  · intro q hq
    obtain ⟨z1, z2⟩ := hC.2.2.2.2.2.2.2.2 q hq
    obtain ⟨x, hx⟩ := hmo
    exact ⟨by rw [hx]; exact List.mem_append_left _ z1, by rw [e1 q z1]; exact z2⟩
  · intro w hw
    rcases List.mem_append.mp hw with hw | hw
    · exact e10 w (by cases r1 with
        | none => cases hw
        | some y => rw [List.mem_singleton.mp hw])
    · exact mono_ok hmo w (hrest w hw)
theorem take_drop_map {st : List mV} {na : Nat} {ad : Nat → Nat → Nat} : st.map (tv ad) = (((st.take na).reverse).map (tv ad)).reverse ++ (st.drop na).map (tv ad) := by
  rw [← List.map_reverse, List.reverse_reverse, ← List.map_append, List.take_append_drop]
set_option maxHeartbeats 4000000 in
theorem call_go (C : mCx p R s m args meth c D A b t L xs I (d + 1) n0 s0 N1 S1) (hpc : nth I.2.2.2.2.2.2.2.2 ip = some pc) {i : Instr} (hok : okB I pc (nth I.2.2.2.2.2.2.2.2 (ip + 1)) i v = true) {J : mI} {as rest : List mV} (hcall : mCall i st = some (J, as, rest)) {r1 : Option mV} {M1 : mM} (hmo : ∃ x, M1.1 = M.1 ++ x) (hb : M1.1.length ≤ N1 ∧ mSl M1.1 ≤ S1)
    (hM : (∀ v ∈ as, rOK M v) → okM J = true → ∀ (ad : Nat → Nat → Nat) (ca : Nat → Nat → ClassId) (sz : Nat), Met l J.2.1 (mWords J) (mRm d (M1.1.length - M.1.length) (mSl M1.1 - mSl M.1)) (va_Pc (as.map (tv ad)) (mPre D b t L xs M ad ca sz)) (mPost D b t M ad ca sz r1 M1) (M1.1.length - M.1.length) (mSl M1.1 - mSl M.1) (va_A (mWs M ad ca) sz))
    (k : mGo p l e R s m args below meth c D A b t Z ad0 Q n0 s0 I (ip + 1) ls (r1.toList ++ rest) M1) : mGo p l e R s m args below meth c D A b t Z ad0 Q n0 s0 I ip ls st M := by
  have hf := C.2.2.2.2.2.2.2.2.2.2.2.2.1
  have hlo := C.2.2.2.2.2.2.2.2.2.2.2.2.2.1
  have hr1 := C.2.2.2.2.2.2.2.2.2.2.2.2.2.2.2.1
  have hr2 := C.2.2.2.2.2.2.2.2.2.2.2.2.2.2.2.2
  have hle := mono_le hmo
  have hroom : ∀ {J : mI}, J.2.2.2.1 ≤ 40 → (mRm d (M1.1.length - M.1.length) (mSl M1.1 - mSl M.1)).frames + 1 ≤ R.frames ∧ 8 + (J.2.2.2.1 + 11) + (mRm d (M1.1.length - M.1.length) (mSl M1.1 - mSl M.1)).locals ≤ R.locals := by
    intro J h40
    refine ⟨hf, ?_⟩
    show 8 + (J.2.2.2.1 + 11) + (d + 1) * 60 ≤ R.locals
    omega
  have hfit : ∀ {ls : List (Option mV)} {ad : Nat → Nat → Nat} {cells slots : Nat} {la : Array Slot}, mLo n0 s0 I.2.2.2.1 ls M ad cells slots la → cells + (M1.1.length - M.1.length) ≤ R.cells ∧ slots + (mSl M1.1 - mSl M.1) ≤ R.slots := by
    intro ls ad cells slots la hL
    have h1 := hL.2.2.2.1
    have h2 := hL.2.2.2.2
    exact ⟨by omega, by omega⟩
  unfold mCall at hcall
  split at hcall
  · rename_i tn
    split at hcall
    · rename_i J' hG
      split at hcall
      · rename_i hcc
        obtain ⟨hst1, hna, hcat⟩ := hcc
        cases hcall
        have hJ := ok_all hG
        obtain ⟨hcls, h12, hpl, hdd, hpos, h40, hpc0⟩ := okH_spec hJ
        rw [if_pos hst1] at hdd
        intro pc' hpc' ad ca H locs cells slots la hC hL hst
        cases hpc.symm.trans hpc'
        have has : ∀ w ∈ (st.take J.2.2.2.2.2.1).reverse, rOK M w := fun w hw => hst w (List.mem_of_mem_take (List.mem_reverse.mp hw))
        have hrs : ∀ w ∈ st.drop J.2.2.2.2.2.1, rOK M w := fun w hw => hst w (List.mem_of_mem_drop hw)
        have hlen : ((st.take J.2.2.2.2.2.1).reverse.map (tv ad)).length = J.2.2.2.2.2.1 := by
          rw [List.length_map, List.length_reverse, List.length_take]
          omega
        have hrm : 2 * (F0 m pc la (st.map (tv ad))).monitorRoom + (((st.drop J.2.2.2.2.2.1).map (tv ad)).map fun v => v.category).sum ≤ 8 := lv_room (by rw [mSum]; exact hcat)
        have hk : (tMT.any (fun q => decide (q.1 = I.1) && decide (q.2.2 = tn) && okS I pc (nth I.2.2.2.2.2.2.2.2 (ip + 1)) (.invokestatic q.2.1) 3) || tNT.any (fun q => decide (q.1 = I.1) && decide (q.2.2 = tn) && okS I pc (nth I.2.2.2.2.2.2.2.2 (ip + 1)) (.invokestatic q.2.1) 3)) = true := hok
        simp only [Bool.or_eq_true, List.any_eq_true, Bool.and_eq_true, decide_eq_true_eq] at hk
        rcases hk with ⟨q, hq, ⟨hq1, hq2⟩, hk⟩ | ⟨q, hq, ⟨hq1, hq2⟩, hk⟩
        · obtain ⟨hd, hn⟩ := okS_spec hk
          have htl := tMT_lt q hq
          rw [hq2] at htl
          have hsi := C.2.2.2.2.1 _ (wSI_of hG htl)
          rw [if_pos hst1] at hsi
          have hw : (wMT q).before args s = true := C.2.2.2.2.1 _ (tMT_in _ (List.mem_map.mpr ⟨q, hq, rfl⟩))
          unfold wMT at hw
          rw [hq1, hq2, mYn_of hG] at hw
          refine call_on C hn hmo k hC hL hrs (va_runS (Ts := gTbl) (n := J.2.2.2.2.2.1) (As := (st.take J.2.2.2.2.2.1).reverse.map (tv ad)) ⟨C.1, C.2.1, C.2.2.1, C.2.2.2.1, C.2.2.2.2.1⟩ (hM has hJ ad ca H.size) ⟨callB_of _ C.2.2.2.2.1 (wGI_of hG htl) rfl rfl rfl (C.2.2.2.2.1 _ (wII_of hJ)) hw hdd (hroom h40), hsi⟩ ⟨pre_blind, fun U hU hW => ⟨rfl, pre_of C hC U hU hW⟩⟩ rfl hlen hL.1.1 take_drop_map hrm hd (hfit hL))
        · obtain ⟨hd, hn⟩ := okS_spec hk
          have htl := tNT_lt q hq
          rw [hq2] at htl
          have hsi := C.2.2.2.2.1 _ (wSI_of hG htl)
          rw [if_pos hst1] at hsi
          have hw : va_Nw (wNT q) s := C.2.2.2.2.2.2.2.2.2.2.1.1 q hq
          unfold wNT at hw
          rw [hq1, hq2, mYn_of hG] at hw
          refine call_on C hn hmo k hC hL hrs (va_runSN (Ts := gTbl) (n := J.2.2.2.2.2.1) (As := (st.take J.2.2.2.2.2.1).reverse.map (tv ad)) ⟨C.1, C.2.1, C.2.2.1, C.2.2.2.1, C.2.2.2.2.1⟩ (hM has hJ ad ca H.size) ⟨va_cnB _ C.2.2.2.2.1 (wGI_of hG htl) rfl rfl rfl hw (C.2.2.2.2.1 _ (wII_of hJ)) hdd (hroom h40), hsi, trivial⟩ ⟨pre_blind, fun U hU hW => ⟨rfl, pre_of C hC U hU hW⟩⟩ rfl hlen hL.1.1 take_drop_map hrm hd (hfit hL))
      · cases hcall
    · cases hcall
  · rename_i tn
    split at hcall
    · rename_i J' hG
      split at hcall
      · rename_i hcc
        obtain ⟨hst1, hna, hcat⟩ := hcc
        split at hcall
        · rename_i zk zi zas htk
          split at hcall
          · rename_i hkc
            cases hcall
            have hJ := ok_all hG
            obtain ⟨hcls, h12, hpl, hdd, hpos, h40, hpc0⟩ := okH_spec hJ
            rw [if_neg (by rw [hst1]; decide)] at hdd
            intro pc' hpc' ad ca H locs cells slots la hC hL hst
            cases hpc.symm.trans hpc'
            have has : ∀ w ∈ (.inr (.inr (some (zk, zi))) :: zas : List mV), rOK M w := fun w hw => by
              rw [← htk] at hw
              exact hst w (List.mem_of_mem_take (List.mem_reverse.mp hw))
            have hrs : ∀ w ∈ st.drop J.2.2.2.2.2.1, rOK M w := fun w hw => hst w (List.mem_of_mem_drop hw)
            have hlen0 : (.inr (.inr (some (zk, zi))) :: zas : List mV).length = J.2.2.2.2.2.1 := by
              rw [← htk, List.length_reverse, List.length_take]
              omega
            have hlen : (zas.map (tv ad)).length = J.2.2.2.2.2.1 - 1 := by
              rw [List.length_map]
              rw [List.length_cons] at hlen0
              omega
            have hstk : st.map (tv ad) = (zas.map (tv ad)).reverse ++ .ref (ad zk zi) :: (st.drop J.2.2.2.2.2.1).map (tv ad) := by
              have h1 := take_drop_map (st := st) (na := J.2.2.2.2.2.1) (ad := ad)
              rw [htk] at h1
              rw [h1, List.map_cons, List.reverse_cons, List.append_assoc]
              rfl
            have hrm : 2 * (F0 m pc la (st.map (tv ad))).monitorRoom + (((st.drop J.2.2.2.2.2.1).map (tv ad)).map fun v => v.category).sum ≤ 8 := lv_room (by rw [mSum]; exact hcat)
            have hk : (decide (tn ∈ tVM) && tMT.any (fun q => decide (q.1 = I.1) && decide (q.2.2 = tn) && okS I pc (nth I.2.2.2.2.2.2.2.2 (ip + 1)) (.invokevirtual q.2.1) 3)) = true := hok
            simp only [List.any_eq_true, Bool.and_eq_true, decide_eq_true_eq] at hk
            obtain ⟨hvm, q, hq, ⟨hq1, hq2⟩, hk⟩ := hk
            obtain ⟨hd, hn⟩ := okS_spec hk
            have htl := tMT_lt q hq
            rw [hq2] at htl
            have hsi := C.2.2.2.2.1 _ (wSI_of hG htl)
            rw [if_neg (by rw [hst1]; decide)] at hsi
            have hw : (wMT q).before args s = true := C.2.2.2.2.1 _ (tMT_in _ (List.mem_map.mpr ⟨q, hq, rfl⟩))
            unfold wMT at hw
            rw [hq1, hq2, mYn_of hG] at hw
            have hse : (wSE tn).before args s = true := C.2.2.2.2.1 _ (tSE_in _ (List.mem_map.mpr ⟨tn, hvm, rfl⟩))
            unfold wSE at hse
            rw [mYn_of hG] at hse
            have hm := rOK_in (has _ List.mem_cons_self) (by omega)
            have hk8 : zk < 8 := vM_lt tn hvm J hG zk hkc
            obtain ⟨q0, hq0, hq9⟩ := mWs_at ad ca hm
            rw [mE_obj hk8] at hq9
            have hcn : J.2.1.cls = mRn zk := by rw [hcls, ← hkc, own_rn zk hk8]
            have hrec := va_recv (mK0 C.2.2.2.2.2.1) hC.1 (cl_at zk hk8) hq9
            rw [hcn] at hse
            refine call_on C hn hmo k hC hL hrs (va_runV (Ts := gTbl) (C := mRn zk) (b := ad zk zi) (n := J.2.2.2.2.2.1 - 1) (As := zas.map (tv ad)) ⟨C.1, C.2.1, C.2.2.1, C.2.2.2.1, C.2.2.2.2.1⟩ (hM has hJ ad ca H.size) ⟨callB_of _ C.2.2.2.2.1 (wGI_of hG htl) rfl rfl rfl (C.2.2.2.2.1 _ (wII_of hJ)) hw hdd (hroom h40), hsi, hse⟩ ⟨pre_blind, hrec, fun U hU hW => ⟨rfl, pre_of C hC U hU hW⟩⟩ rfl hlen hL.1.1 hstk hrm hd (hfit hL))
          · cases hcall
        · cases hcall
      · cases hcall
    · cases hcall
  · rename_i tn
    split at hcall
    · rename_i J' hG
      split at hcall
      · rename_i hcc
        obtain ⟨hst1, hna, hcat⟩ := hcc
        split at hcall
        · rename_i zk zi zas htk
          split at hcall
          · rename_i hkc
            cases hcall
            have hJ := ok_all hG
            obtain ⟨hcls, h12, hpl, hdd, hpos, h40, hpc0⟩ := okH_spec hJ
            rw [if_neg (by rw [hst1]; decide)] at hdd
            intro pc' hpc' ad ca H locs cells slots la hC hL hst
            cases hpc.symm.trans hpc'
            have has : ∀ w ∈ (.inr (.inr (some (zk, zi))) :: zas : List mV), rOK M w := fun w hw => by
              rw [← htk] at hw
              exact hst w (List.mem_of_mem_take (List.mem_reverse.mp hw))
            have hrs : ∀ w ∈ st.drop J.2.2.2.2.2.1, rOK M w := fun w hw => hst w (List.mem_of_mem_drop hw)
            have hlen0 : (.inr (.inr (some (zk, zi))) :: zas : List mV).length = J.2.2.2.2.2.1 := by
              rw [← htk, List.length_reverse, List.length_take]
              omega
            have hlen : (zas.map (tv ad)).length = J.2.2.2.2.2.1 - 1 := by
              rw [List.length_map]
              rw [List.length_cons] at hlen0
              omega
            have hstk : st.map (tv ad) = (zas.map (tv ad)).reverse ++ .ref (ad zk zi) :: (st.drop J.2.2.2.2.2.1).map (tv ad) := by
              have h1 := take_drop_map (st := st) (na := J.2.2.2.2.2.1) (ad := ad)
              rw [htk] at h1
              rw [h1, List.map_cons, List.reverse_cons, List.append_assoc]
              rfl
            have hrm : 2 * (F0 m pc la (st.map (tv ad))).monitorRoom + (((st.drop J.2.2.2.2.2.1).map (tv ad)).map fun v => v.category).sum ≤ 8 := lv_room (by rw [mSum]; exact hcat)
            have hk : (decide ((mYn tn).name = "<init>") && (tMT.any (fun q => decide (q.1 = I.1) && decide (q.2.2 = tn) && okS I pc (nth I.2.2.2.2.2.2.2.2 (ip + 1)) (.invokespecial q.2.1) 3) || tNT.any (fun q => decide (q.1 = I.1) && decide (q.2.2 = tn) && okS I pc (nth I.2.2.2.2.2.2.2.2 (ip + 1)) (.invokespecial q.2.1) 3))) = true := hok
            simp only [Bool.or_eq_true, List.any_eq_true, Bool.and_eq_true, decide_eq_true_eq] at hk
            obtain ⟨hname, hk⟩ := hk
            rw [mYn_of hG] at hname
            have hret : J.2.2.2.2.1 = none := init_void tn J hG hname
            have hMJ := hM has hJ ad ca H.size
            rcases hk with ⟨q, hq, ⟨hq1, hq2⟩, hk⟩ | ⟨q, hq, ⟨hq1, hq2⟩, hk⟩
            · obtain ⟨hd, hn⟩ := okS_spec hk
              have htl := tMT_lt q hq
              rw [hq2] at htl
              have hsi := C.2.2.2.2.1 _ (wSI_of hG htl)
              rw [if_neg (by rw [hst1]; decide)] at hsi
              have hw : (wMT q).before args s = true := C.2.2.2.2.1 _ (tMT_in _ (List.mem_map.mpr ⟨q, hq, rfl⟩))
              unfold wMT at hw
              rw [hq1, hq2, mYn_of hG] at hw
              refine call_on C hn hmo k hC hL hrs (va_runI (Ts := gTbl) (b := ad zk zi) (bytes := J.2.2.1) (maxL := J.2.2.2.1) (n := J.2.2.2.2.2.1 - 1) (As := zas.map (tv ad)) ⟨C.1, C.2.1, C.2.2.1, C.2.2.2.1, C.2.2.2.2.1⟩ hMJ ⟨callB_of _ C.2.2.2.2.1 (wGI_of hG htl) (by unfold mWords; rw [hret]) rfl rfl (C.2.2.2.2.1 _ (wII_of hJ)) hw hdd (hroom h40), hname, hsi⟩ ⟨pre_blind, fun U hU hW => ⟨rfl, pre_of C hC U hU hW⟩⟩ rfl hlen hL.1.1 hstk hrm hd (hfit hL))
            · obtain ⟨hd, hn⟩ := okS_spec hk
              have htl := tNT_lt q hq
              rw [hq2] at htl
              have hsi := C.2.2.2.2.1 _ (wSI_of hG htl)
              rw [if_neg (by rw [hst1]; decide)] at hsi
              have hw : va_Nw (wNT q) s := C.2.2.2.2.2.2.2.2.2.2.1.1 q hq
              unfold wNT at hw
              rw [hq1, hq2, mYn_of hG] at hw
              refine call_on C hn hmo k hC hL hrs (va_runIN (Ts := gTbl) (b := ad zk zi) (bytes := J.2.2.1) (maxL := J.2.2.2.1) (n := J.2.2.2.2.2.1 - 1) (As := zas.map (tv ad)) ⟨C.1, C.2.1, C.2.2.1, C.2.2.2.1, C.2.2.2.2.1⟩ hMJ ⟨va_cnB _ C.2.2.2.2.1 (wGI_of hG htl) (by unfold mWords; rw [hret]) rfl rfl hw (C.2.2.2.2.1 _ (wII_of hJ)) hdd (hroom h40), hname, hsi⟩ ⟨pre_blind, fun U hU hW => ⟨rfl, pre_of C hC U hU hW⟩⟩ rfl hlen hL.1.1 hstk hrm hd (hfit hL))
          · cases hcall
        · cases hcall
      · cases hcall
    · cases hcall
  · cases hcall
end SNC
set_option maxHeartbeats 4000000 in
/-- THE SMALL MACHINE IS SOUND -/
theorem sound (L : Nat) (xs : Nat → Int32) : ∀ n, SG L xs n := by
  intro n
  induction n with
  | zero => intro d I ip ls st M r M' h; cases h
  | succ n ih =>
    intro d I ip ls st M r M' h p l e R s m args below meth c D A b t Z ad0 Q n0 s0 N1 S1 C hb hfin
    have hrun := h
    unfold mrun at h
    split at h
    · cases h
    · rename_i i v hcode
      obtain ⟨pc, hpc, hok⟩ := ok_at C.2.2.2.2.2.2.2.2.2.2.2.2.2.2.1 hcode
      split at h
      · rename_i r' hret
        cases h
        intro pc' hpc' ad ca H locs cells slots la hC hL hst
        refine hfin i v ip pc' ls st hcode hret hpc' ?_ ad ca H locs cells slots la hC hL hst
        cases hpc.symm.trans hpc'
        exact ret_ok hret hok
      · split at h
        · rename_i J as rest hcall
          split at h
          · cases h
          · rename_i d'
            split at h
            · rename_i hlen
              split at h
              · rename_i r1 M1 h1
                have hmo := mrun_mono n _ _ _ _ _ _ _ _ h1
                have hmo2 := mono_le (mrun_mono n _ _ _ _ _ _ _ _ h)
                exact call_go C hpc hok hcall hmo ⟨Nat.le_trans hmo2.1 hb.1, Nat.le_trans hmo2.2 hb.2⟩ (fun has hJ ad ca sz => met_of ih hJ h1 hlen has l D b t ad ca sz) (ih _ _ _ _ _ _ _ _ h p l e R s m args below meth c D A b t Z ad0 Q n0 s0 N1 S1 C hb hfin)
              · cases h
            · cases h
        · split at h
          · rename_i ip1 ls1 st1' M1 h1
            have hmo2 := mono_le (mrun_mono n _ _ _ _ _ _ _ _ h)
            exact ms_all C hpc hok h1 ⟨Nat.le_trans hmo2.1 hb.1, Nat.le_trans hmo2.2 hb.2⟩ (ih _ _ _ _ _ _ _ _ h p l e R s m args below meth c D A b t Z ad0 Q n0 s0 N1 S1 C hb hfin)
          · cases h
end
section
/-! THE CLAIM OUT OF ONE WALK OF THE LAW'S BODY. Your part is whole_start (and what it stands on); all else here is the same for every law, but numbers. -/
def R_law : String := "AnnCupsLaw"
def lw_P (b : Addr) (xs : List Int32) (args : Array Value) (s : State) : Prop := args = #[.ref b] ∧ s.IntsAt b xs ∧ xs.length ≤ 3072 ∧ (Jvm.Cond.and given_1 narrow_1).before args s = true
def lw_Q (_ : Array Value) (s : State) (o : Outcome) (t : State) : Prop := o = .returned (some (.int 1)) ∧ Framed s o t [] 600000 7302250
def lw_Z (below : List Frame) (a : Array Value) (s : State) : State → Prop := fun t => ∃ o, t.status = .running ∧ Ended t below o ∧ lw_Q a s o t
/-- the law's own end, with 1 on the stack, nothing written that was there before, its room as the claim has it -/
theorem lw_ret {p : Program} {l : Launch} {e : Env} {s : State} {m : MethodId} {below : List Frame} {meth : Method} {c : Code} {b : Nat} (hx : p.tables.exec = Jvm.exec) (hb : c.code = code) (hr : meth.sig.returnType = ret) (hlocks : meth.locks = false) {pc : Nat} {H : Heap} {ls : Array Slot} (hdg : decode code pc = .ok (.ireturn, 1)) : W p l e room_1 s m #[Value.ref b] below meth c H [] 600000 7302250 (lw_Z below #[Value.ref b] s) (F0 m pc ls [.int 1]) := by
  intro T hT X
  obtain ⟨fs, hret, hrun, hended, hW, hframe⟩ := X.leave (v := some (.int 1)) (hlocks := hlocks) (fun h => by rw [hr] at h; cases h)
  have hmeth' : T.vm.method? m = some meth := X.method'
  refine ⟨T.setFrames fs, ?_, .returned (some (.int 1)), hrun, hended, rfl, ⟨_, rfl⟩, hW, hframe⟩
  jvm_step X.here [X.here.top, hx, hb, hdg, hmeth', hr, ret, narrow_b1]
  (try refine ⟨rfl, ?_⟩); (try refine ⟨rfl, ?_⟩)
  first | (intro acts; rw [hret _ acts rfl rfl rfl]) | rw [hret _ _ rfl rfl rfl]
  exact Steps.refl _
/-- what holds at the law's entry: the machine, the code, the tables' words (any of lw_tbl by 'hts w (by decide +kernel)'), the script of L ints xs at the cell b, what the Statement gives of the start (any of its parts by flat_of_before) -/
def lw_At (p : Program) (s : State) (m : MethodId) (meth : Method) (c : Code) (b L : Nat) (xs : Nat → Int32) : Prop :=
  p.tables.exec = Jvm.exec ∧ c.code = code ∧ meth.sig.returnType = ret ∧ c.maxLocals = 4 ∧ s.vm.findClass R_law = some m.cls ∧ (∀ w ∈ lw_tbl, w.before #[Value.ref b] s = true) ∧ va_X b L xs s s.heap ∧ b < s.heap.size ∧ meth.locks = false ∧ (Jvm.Cond.and given_1 narrow_1).before #[Value.ref b] s = true
def m00 : mM := ([], fun _ _ _ => none, fun _ _ _ => 0, fun _ _ _ => 0)
theorem tLS_in : ∀ w ∈ ([.laysStatic "AnnCups" "LETTERS" "[C"] : List Cond), w ∈ lw_tbl := mx_in [414] rfl
set_option maxHeartbeats 4000000 in
set_option maxRecDepth 100000 in
/-- the law's walk out of its run on the small machine -/
theorem whole_of {p : Program} {e : Env} {s : State} {m : MethodId} {below : List Frame} {meth : Method} {c : Code} (l : Launch) {b L : Nat} {xs : Nat → Int32} (C0 : lw_At p s m meth c b L xs) {n d : Nat} {M' : mM} (hrun : mrun L xs n d mi_230 0 [some (vR 100 0), none, none, none] [] m00 = some (some (vI 1), M')) (hd : d ≤ 1000) (hN : M'.1.length ≤ 600000 ∧ mSl M'.1 ≤ 7302250) : W p l e room_1 s m #[Value.ref b] below meth c s.heap [] 0 0 (lw_Z below #[Value.ref b] s) (entryFrame m ([Value.ref b] : List Value).toArray 4) := by
  obtain ⟨hx, hb, hr, hml, hown, hts, hX, hbl, hlocks, hgv⟩ := C0
  have hs := flat_of_before _ hgv
  have hg : ∀ w ∈ gTbl, w.before #[Value.ref b] s = true := fun w hw => hts w (gTbl_in w hw)
  have hini : (Cond.initialized "AnnCups").before #[Value.ref b] s = true := hg _ (tII_in _ (List.mem_map.mpr ⟨6, by decide, rfl⟩))
  have harr : (Cond.arrayOf (.static "AnnCups" "LETTERS" "[C") .char).before #[Value.ref b] s = true := hs _ (by decide +kernel)
  have e0 := va_eqt (hs (Cond.eq (.elem (.static "AnnCups" "LETTERS" "[C") (.int 0)) (.int 99)) (by decide +kernel))
  have e1 := va_eqt (hs (Cond.eq (.elem (.static "AnnCups" "LETTERS" "[C") (.int 1)) (.int 106)) (by decide +kernel))
  have e2 := va_eqt (hs (Cond.eq (.elem (.static "AnnCups" "LETTERS" "[C") (.int 2)) (.int 116)) (by decide +kernel))
  have e3 := va_eqt (hs (Cond.eq (.elem (.static "AnnCups" "LETTERS" "[C") (.int 3)) (.int 103)) (by decide +kernel))
  have e4 := va_eqt (hs (Cond.eq (.elem (.static "AnnCups" "LETTERS" "[C") (.int 4)) (.int 102)) (by decide +kernel))
  have e5 := va_eqt (hs (Cond.eq (.elem (.static "AnnCups" "LETTERS" "[C") (.int 5)) (.int 100)) (by decide +kernel))
  have e6 := va_eqt (hs (Cond.eq (.length (.static "AnnCups" "LETTERS" "[C")) (.int 6)) (by decide +kernel))
  obtain ⟨t, ht, hT⟩ := va_Tof (N := 6) (f := fun j => .int (lett j)) (A := fun q : Nat => s.heap.size ≤ q) (by decide) harr e6 (fun j hj => by
    match j, hj with
    | 0, _ => exact e0
    | 1, _ => exact e1
    | 2, _ => exact e2
    | 3, _ => exact e3
    | 4, _ => exact e4
    | 5, _ => exact e5
    | j + 6, h => exact absurd h (by omega)) (fun a ha => Nat.not_le.mpr ha)
  have hZ := va_Zof (A := fun q : Nat => s.heap.size ≤ q) (hts _ (tLS_in _ List.mem_cons_self)) hini ht (fun a ha => Nat.not_le.mpr ha)
  have hk : ∀ ci, ∃ y : ClassId × (Nat → Nat), ci < 8 → u_Kn s (mRn ci) (mFt ci) (mNf ci) y.1 y.2 := by
    intro ci
    by_cases h : ci < 8
    · obtain ⟨c0, iS, hK⟩ := u_known (C := mRn ci) (T := mFt ci) (N := mNf ci) (n := mNf ci) hg (cl_in ci h) (hg _ (tIN_in _ (List.mem_map.mpr ⟨ci, List.mem_range.mpr h, rfl⟩)))
      exact ⟨(c0, iS), fun _ => hK⟩
    · exact ⟨(0, fun _ => 0), fun q => absurd q h⟩
  obtain ⟨f, hf⟩ : ∃ f : Nat → ClassId × (Nat → Nat), ∀ ci, ci < 8 → u_Kn s (mRn ci) (mFt ci) (mNf ci) (f ci).1 (f ci).2 := ⟨fun ci => (hk ci).choose, fun ci => (hk ci).choose_spec⟩
  have hK0 : ∀ (c : Nat) (q : vw_C), vwCl[c]? = some q → u_Kn s q.1 q.2.1 q.2.2 (f c).1 (f c).2 := by
    intro c q hq
    have hc : c < 8 := (List.getElem?_eq_some_iff.mp hq).1
    rw [cl_at c hc] at hq
    cases hq
    exact hf c hc
  have hmX : mX s := ⟨fun q hq => va_Nw.of rfl (hts _ (tNT_in _ (List.mem_map.mpr ⟨q, hq, rfl⟩))), fun q hq => va_AO.of (hts _ (tAO_in _ (List.mem_map.mpr ⟨q, hq, rfl⟩))), va_Nw.of rfl (hts _ (tGS_in _ List.mem_cons_self))⟩
  have hC : mCx p room_1 s m #[Value.ref b] meth c (fun k => (f k).1, fun k => (f k).2) (fun q : Nat => s.heap.size ≤ q) b t L xs mi_230 d 0 0 M'.1.length (mSl M'.1) :=
    ⟨hx, hb, hml, hown, hg, hK0, fun _ h => h, ⟨hX, hbl, Nat.not_le.mpr hbl⟩, hZ, hT, hmX, fun h => absurd h (by decide), (by show d + 1 ≤ 2048; omega), (by show (d + 1) * 60 ≤ 84000; omega), ok_230, (by show M'.1.length ≤ 0 + 600000; omega), (by show mSl M'.1 ≤ 0 + 7302250; omega)⟩
  have hgo := sound L xs n d mi_230 0 _ [] m00 _ M' hrun p l e room_1 s m _ below meth c _ _ b t [] (fun _ _ => 0) (lw_Z below #[Value.ref b] s) _ _ _ _ hC ⟨Nat.le_refl _, Nat.le_refl _⟩ ?_
  · have hl := lv_entry ([.ref b]) (n := 4) (Nat.le_of_ble_eq_true rfl)
    rw [lg_entry_eq]
    exact hgo 0 rfl (fun k _ => if k = 100 then b else t) (fun _ _ => 0) s.heap [] 0 0 _ ⟨fun k q h => (nomatch h), ⟨fun i j p q h => (nomatch h), fun k q h => (nomatch h)⟩, va_S.rf, fun r hr => (nomatch hr), fun r hr => (nomatch hr), fun r hr => (nomatch hr), rfl, rfl, fun q hq => (nomatch hq)⟩ ⟨hl, rfl, fun v hv => by
      simp only [List.mem_cons, Option.some.injEq, List.not_mem_nil, or_false, reduceCtorEq] at hv
      rw [hv]
      exact Or.inr (Or.inl rfl), rfl, rfl⟩ (fun v hv => nomatch hv)
  · intro i v ipR pcR lsR stR hcode hret hpcR hok ad ca H locs cells slots la hCe hLo hst
    have hdc := okD_spec hok
    have hret2 : mRet (some .boolean) i stR = some (some (vI 1)) := hret
    unfold mRet at hret2
    split at hret2
    · split at hret2
      · rename_i x
        dsimp only at hret2
        · split at hret2
          · cases hret2
            refine va_forget (fun q hq => hCe.2.2.1.2.2 q hq) ?_
            have h1 := hLo.2.2.2.1
            have h2 := hLo.2.2.2.2
            refine W.widen (k := 600000) (n := 7302250) (by omega) (by omega) ?_
            exact lw_ret hx hb hr hlocks hdc
          · cases hret2
      · cases hret2
    · split at hret2
      · split at hret2 <;> cases hret2
      · cases hret2
    · split at hret2
      · split at hret2 <;> cases hret2
      · cases hret2
    · split at hret2
      · split at hret2 <;> cases hret2
      · cases hret2
    · cases hret2
end
