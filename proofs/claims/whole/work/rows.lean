section
-- ===== PART A: goes FIRST, ahead of the names: the tables' words, and 'selects' of the private methods out of them =====
/-- a private method of a class that the tables say can be made, by its rows of tables_1 -/
def lw_okq (q : MethodName × Nat) : Prop := (q.1.cls ≠ "java/lang/invoke/MethodHandle" ∧ q.1.cls ≠ "java/lang/invoke/VarHandle") ∧ Cond.instantiable q.1.cls q.2 ∈ tables_1 ∧ Cond.privateMethod q.1 ∈ tables_1 ∧ Cond.instanceMethod q.1 ∈ tables_1
theorem lw_p0 : lw_okq (⟨"TidingsDesk$Tape", "skipBlanks", "()V"⟩, 4) := ⟨⟨by decide +kernel, by decide +kernel⟩, List.mem_of_getElem? (i := 24) (by decide +kernel), List.mem_of_getElem? (i := 263) (by decide +kernel), List.mem_of_getElem? (i := 264) (by decide +kernel)⟩
theorem lw_p1 : lw_okq (⟨"TidingsDesk$Tape", "peek", "()I"⟩, 4) := ⟨⟨by decide +kernel, by decide +kernel⟩, List.mem_of_getElem? (i := 24) (by decide +kernel), List.mem_of_getElem? (i := 267) (by decide +kernel), List.mem_of_getElem? (i := 268) (by decide +kernel)⟩
theorem lw_p2 : lw_okq (⟨"TidingsDesk$Tape", "readItem", "()Z"⟩, 4) := ⟨⟨by decide +kernel, by decide +kernel⟩, List.mem_of_getElem? (i := 24) (by decide +kernel), List.mem_of_getElem? (i := 271) (by decide +kernel), List.mem_of_getElem? (i := 272) (by decide +kernel)⟩
theorem lw_p3 : lw_okq (⟨"TidingsDesk$Tape", "markedField", "()I"⟩, 4) := ⟨⟨by decide +kernel, by decide +kernel⟩, List.mem_of_getElem? (i := 24) (by decide +kernel), List.mem_of_getElem? (i := 275) (by decide +kernel), List.mem_of_getElem? (i := 276) (by decide +kernel)⟩
theorem lw_p4 : lw_okq (⟨"TidingsDesk$Tape", "readNames", "()Z"⟩, 4) := ⟨⟨by decide +kernel, by decide +kernel⟩, List.mem_of_getElem? (i := 24) (by decide +kernel), List.mem_of_getElem? (i := 285) (by decide +kernel), List.mem_of_getElem? (i := 286) (by decide +kernel)⟩
theorem lw_p5 : lw_okq (⟨"TidingsDesk$Tape", "readName", "()I"⟩, 4) := ⟨⟨by decide +kernel, by decide +kernel⟩, List.mem_of_getElem? (i := 24) (by decide +kernel), List.mem_of_getElem? (i := 289) (by decide +kernel), List.mem_of_getElem? (i := 290) (by decide +kernel)⟩
theorem lw_p6 : lw_okq (⟨"TidingsDesk$Tape", "readSpan", "()Z"⟩, 4) := ⟨⟨by decide +kernel, by decide +kernel⟩, List.mem_of_getElem? (i := 24) (by decide +kernel), List.mem_of_getElem? (i := 305) (by decide +kernel), List.mem_of_getElem? (i := 306) (by decide +kernel)⟩
theorem lw_p7 : lw_okq (⟨"TidingsDesk$Tape", "readDigits", "()I"⟩, 4) := ⟨⟨by decide +kernel, by decide +kernel⟩, List.mem_of_getElem? (i := 24) (by decide +kernel), List.mem_of_getElem? (i := 309) (by decide +kernel), List.mem_of_getElem? (i := 310) (by decide +kernel)⟩
theorem lw_p8 : lw_okq (⟨"TidingsDesk$Tape", "readValue", "(I)Z"⟩, 4) := ⟨⟨by decide +kernel, by decide +kernel⟩, List.mem_of_getElem? (i := 24) (by decide +kernel), List.mem_of_getElem? (i := 319) (by decide +kernel), List.mem_of_getElem? (i := 320) (by decide +kernel)⟩
theorem lw_p9 : lw_okq (⟨"TidingsDesk$Ledger", "addText", "(IILTidingsDesk$Facts;)V"⟩, 5) := ⟨⟨by decide +kernel, by decide +kernel⟩, List.mem_of_getElem? (i := 64) (by decide +kernel), List.mem_of_getElem? (i := 340) (by decide +kernel), List.mem_of_getElem? (i := 341) (by decide +kernel)⟩
theorem lw_p10 : lw_okq (⟨"TidingsDesk$Ledger", "add", "(LTidingsDesk$Telling;)V"⟩, 5) := ⟨⟨by decide +kernel, by decide +kernel⟩, List.mem_of_getElem? (i := 64) (by decide +kernel), List.mem_of_getElem? (i := 374) (by decide +kernel), List.mem_of_getElem? (i := 375) (by decide +kernel)⟩
theorem lw_p11 : lw_okq (⟨"TidingsDesk", "look", "(I)Z"⟩, 13) := ⟨⟨by decide +kernel, by decide +kernel⟩, List.mem_of_getElem? (i := 16) (by decide +kernel), List.mem_of_getElem? (i := 426) (by decide +kernel), List.mem_of_getElem? (i := 427) (by decide +kernel)⟩
theorem lw_p12 : lw_okq (⟨"TidingsDesk", "lookGrouped", "(I)Z"⟩, 13) := ⟨⟨by decide +kernel, by decide +kernel⟩, List.mem_of_getElem? (i := 16) (by decide +kernel), List.mem_of_getElem? (i := 526) (by decide +kernel), List.mem_of_getElem? (i := 527) (by decide +kernel)⟩
theorem lw_p13 : lw_okq (⟨"TidingsDesk$Grouping", "keyGroupsUpTo", "(ILTidingsDesk$Pairs;I)V"⟩, 6) := ⟨⟨by decide +kernel, by decide +kernel⟩, List.mem_of_getElem? (i := 132) (by decide +kernel), List.mem_of_getElem? (i := 548) (by decide +kernel), List.mem_of_getElem? (i := 549) (by decide +kernel)⟩
theorem lw_p14 : lw_okq (⟨"TidingsDesk$Grouping", "dropTornGroups", "(LTidingsDesk$Pairs;)V"⟩, 6) := ⟨⟨by decide +kernel, by decide +kernel⟩, List.mem_of_getElem? (i := 132) (by decide +kernel), List.mem_of_getElem? (i := 563) (by decide +kernel), List.mem_of_getElem? (i := 564) (by decide +kernel)⟩
theorem lw_p15 : lw_okq (⟨"TidingsDesk$Grouping", "leastFor", "(I)J"⟩, 6) := ⟨⟨by decide +kernel, by decide +kernel⟩, List.mem_of_getElem? (i := 132) (by decide +kernel), List.mem_of_getElem? (i := 571) (by decide +kernel), List.mem_of_getElem? (i := 572) (by decide +kernel)⟩
def lw_privs_1 : List (MethodName × Nat) := [(⟨"TidingsDesk$Tape", "skipBlanks", "()V"⟩, 4), (⟨"TidingsDesk$Tape", "peek", "()I"⟩, 4), (⟨"TidingsDesk$Tape", "readItem", "()Z"⟩, 4), (⟨"TidingsDesk$Tape", "markedField", "()I"⟩, 4), (⟨"TidingsDesk$Tape", "readNames", "()Z"⟩, 4), (⟨"TidingsDesk$Tape", "readName", "()I"⟩, 4), (⟨"TidingsDesk$Tape", "readSpan", "()Z"⟩, 4), (⟨"TidingsDesk$Tape", "readDigits", "()I"⟩, 4), (⟨"TidingsDesk$Tape", "readValue", "(I)Z"⟩, 4), (⟨"TidingsDesk$Ledger", "addText", "(IILTidingsDesk$Facts;)V"⟩, 5), (⟨"TidingsDesk$Ledger", "add", "(LTidingsDesk$Telling;)V"⟩, 5), (⟨"TidingsDesk", "look", "(I)Z"⟩, 13), (⟨"TidingsDesk", "lookGrouped", "(I)Z"⟩, 13), (⟨"TidingsDesk$Grouping", "keyGroupsUpTo", "(ILTidingsDesk$Pairs;I)V"⟩, 6), (⟨"TidingsDesk$Grouping", "dropTornGroups", "(LTidingsDesk$Pairs;)V"⟩, 6), (⟨"TidingsDesk$Grouping", "leastFor", "(I)J"⟩, 6)]
theorem lw_r1 : ∀ q ∈ lw_privs_1, lw_okq q := List.forall_mem_cons.mpr ⟨lw_p0, List.forall_mem_cons.mpr ⟨lw_p1, List.forall_mem_cons.mpr ⟨lw_p2, List.forall_mem_cons.mpr ⟨lw_p3, List.forall_mem_cons.mpr ⟨lw_p4, List.forall_mem_cons.mpr ⟨lw_p5, List.forall_mem_cons.mpr ⟨lw_p6, List.forall_mem_cons.mpr ⟨lw_p7, List.forall_mem_cons.mpr ⟨lw_p8, List.forall_mem_cons.mpr ⟨lw_p9, List.forall_mem_cons.mpr ⟨lw_p10, List.forall_mem_cons.mpr ⟨lw_p11, List.forall_mem_cons.mpr ⟨lw_p12, List.forall_mem_cons.mpr ⟨lw_p13, List.forall_mem_cons.mpr ⟨lw_p14, List.forall_mem_cons.mpr ⟨lw_p15, fun _ h => absurd h List.not_mem_nil⟩⟩⟩⟩⟩⟩⟩⟩⟩⟩⟩⟩⟩⟩⟩⟩
theorem lw_p16 : lw_okq (⟨"TidingsDesk", "agreed", "(II)I"⟩, 13) := ⟨⟨by decide +kernel, by decide +kernel⟩, List.mem_of_getElem? (i := 16) (by decide +kernel), List.mem_of_getElem? (i := 613) (by decide +kernel), List.mem_of_getElem? (i := 614) (by decide +kernel)⟩
theorem lw_p17 : lw_okq (⟨"TidingsDesk", "quarrels", "(I)Z"⟩, 13) := ⟨⟨by decide +kernel, by decide +kernel⟩, List.mem_of_getElem? (i := 16) (by decide +kernel), List.mem_of_getElem? (i := 617) (by decide +kernel), List.mem_of_getElem? (i := 618) (by decide +kernel)⟩
theorem lw_p18 : lw_okq (⟨"TidingsDesk", "lowEnd", "(I)I"⟩, 13) := ⟨⟨by decide +kernel, by decide +kernel⟩, List.mem_of_getElem? (i := 16) (by decide +kernel), List.mem_of_getElem? (i := 621) (by decide +kernel), List.mem_of_getElem? (i := 622) (by decide +kernel)⟩
theorem lw_p19 : lw_okq (⟨"TidingsDesk", "highEnd", "(I)I"⟩, 13) := ⟨⟨by decide +kernel, by decide +kernel⟩, List.mem_of_getElem? (i := 16) (by decide +kernel), List.mem_of_getElem? (i := 626) (by decide +kernel), List.mem_of_getElem? (i := 627) (by decide +kernel)⟩
theorem lw_p20 : lw_okq (⟨"TidingsDesk", "lookSearched", "(I)Z"⟩, 13) := ⟨⟨by decide +kernel, by decide +kernel⟩, List.mem_of_getElem? (i := 16) (by decide +kernel), List.mem_of_getElem? (i := 651) (by decide +kernel), List.mem_of_getElem? (i := 652) (by decide +kernel)⟩
theorem lw_p21 : lw_okq (⟨"TidingsDesk$FormSearch", "reckon", "(LTidingsDesk$Known;)V"⟩, 5) := ⟨⟨by decide +kernel, by decide +kernel⟩, List.mem_of_getElem? (i := 158) (by decide +kernel), List.mem_of_getElem? (i := 661) (by decide +kernel), List.mem_of_getElem? (i := 662) (by decide +kernel)⟩
theorem lw_p22 : lw_okq (⟨"TidingsDesk$FormSearch", "weighOnes", "(I)V"⟩, 5) := ⟨⟨by decide +kernel, by decide +kernel⟩, List.mem_of_getElem? (i := 158) (by decide +kernel), List.mem_of_getElem? (i := 668) (by decide +kernel), List.mem_of_getElem? (i := 669) (by decide +kernel)⟩
theorem lw_p23 : lw_okq (⟨"TidingsDesk$FormSearch", "weigh", "(IIII)Z"⟩, 5) := ⟨⟨by decide +kernel, by decide +kernel⟩, List.mem_of_getElem? (i := 158) (by decide +kernel), List.mem_of_getElem? (i := 672) (by decide +kernel), List.mem_of_getElem? (i := 673) (by decide +kernel)⟩
theorem lw_p24 : lw_okq (⟨"TidingsDesk$FormSearch", "weighTwos", "(I)V"⟩, 5) := ⟨⟨by decide +kernel, by decide +kernel⟩, List.mem_of_getElem? (i := 158) (by decide +kernel), List.mem_of_getElem? (i := 676) (by decide +kernel), List.mem_of_getElem? (i := 677) (by decide +kernel)⟩
theorem lw_p25 : lw_okq (⟨"TidingsDesk$FormSearch", "weighThrees", "(I)V"⟩, 5) := ⟨⟨by decide +kernel, by decide +kernel⟩, List.mem_of_getElem? (i := 158) (by decide +kernel), List.mem_of_getElem? (i := 680) (by decide +kernel), List.mem_of_getElem? (i := 681) (by decide +kernel)⟩
theorem lw_p26 : lw_okq (⟨"TidingsDeskModel", "blanks", "(I)I"⟩, 39) := ⟨⟨by decide +kernel, by decide +kernel⟩, List.mem_of_getElem? (i := 708) (by decide +kernel), List.mem_of_getElem? (i := 854) (by decide +kernel), List.mem_of_getElem? (i := 855) (by decide +kernel)⟩
theorem lw_p27 : lw_okq (⟨"TidingsDeskModel", "byteAt", "(I)I"⟩, 39) := ⟨⟨by decide +kernel, by decide +kernel⟩, List.mem_of_getElem? (i := 708) (by decide +kernel), List.mem_of_getElem? (i := 858) (by decide +kernel), List.mem_of_getElem? (i := 859) (by decide +kernel)⟩
theorem lw_p28 : lw_okq (⟨"TidingsDeskModel", "item", "(I)I"⟩, 39) := ⟨⟨by decide +kernel, by decide +kernel⟩, List.mem_of_getElem? (i := 708) (by decide +kernel), List.mem_of_getElem? (i := 862) (by decide +kernel), List.mem_of_getElem? (i := 863) (by decide +kernel)⟩
theorem lw_p29 : lw_okq (⟨"TidingsDeskModel", "names", "(I)I"⟩, 39) := ⟨⟨by decide +kernel, by decide +kernel⟩, List.mem_of_getElem? (i := 708) (by decide +kernel), List.mem_of_getElem? (i := 866) (by decide +kernel), List.mem_of_getElem? (i := 867) (by decide +kernel)⟩
theorem lw_p30 : lw_okq (⟨"TidingsDeskModel", "isLikeRead", "(II)Z"⟩, 39) := ⟨⟨by decide +kernel, by decide +kernel⟩, List.mem_of_getElem? (i := 708) (by decide +kernel), List.mem_of_getElem? (i := 873) (by decide +kernel), List.mem_of_getElem? (i := 874) (by decide +kernel)⟩
theorem lw_p31 : lw_okq (⟨"TidingsDeskModel", "digits", "(I)I"⟩, 39) := ⟨⟨by decide +kernel, by decide +kernel⟩, List.mem_of_getElem? (i := 708) (by decide +kernel), List.mem_of_getElem? (i := 877) (by decide +kernel), List.mem_of_getElem? (i := 878) (by decide +kernel)⟩
def lw_privs_2 : List (MethodName × Nat) := [(⟨"TidingsDesk", "agreed", "(II)I"⟩, 13), (⟨"TidingsDesk", "quarrels", "(I)Z"⟩, 13), (⟨"TidingsDesk", "lowEnd", "(I)I"⟩, 13), (⟨"TidingsDesk", "highEnd", "(I)I"⟩, 13), (⟨"TidingsDesk", "lookSearched", "(I)Z"⟩, 13), (⟨"TidingsDesk$FormSearch", "reckon", "(LTidingsDesk$Known;)V"⟩, 5), (⟨"TidingsDesk$FormSearch", "weighOnes", "(I)V"⟩, 5), (⟨"TidingsDesk$FormSearch", "weigh", "(IIII)Z"⟩, 5), (⟨"TidingsDesk$FormSearch", "weighTwos", "(I)V"⟩, 5), (⟨"TidingsDesk$FormSearch", "weighThrees", "(I)V"⟩, 5), (⟨"TidingsDeskModel", "blanks", "(I)I"⟩, 39), (⟨"TidingsDeskModel", "byteAt", "(I)I"⟩, 39), (⟨"TidingsDeskModel", "item", "(I)I"⟩, 39), (⟨"TidingsDeskModel", "names", "(I)I"⟩, 39), (⟨"TidingsDeskModel", "isLikeRead", "(II)Z"⟩, 39), (⟨"TidingsDeskModel", "digits", "(I)I"⟩, 39)]
theorem lw_r2 : ∀ q ∈ lw_privs_2, lw_okq q := List.forall_mem_cons.mpr ⟨lw_p16, List.forall_mem_cons.mpr ⟨lw_p17, List.forall_mem_cons.mpr ⟨lw_p18, List.forall_mem_cons.mpr ⟨lw_p19, List.forall_mem_cons.mpr ⟨lw_p20, List.forall_mem_cons.mpr ⟨lw_p21, List.forall_mem_cons.mpr ⟨lw_p22, List.forall_mem_cons.mpr ⟨lw_p23, List.forall_mem_cons.mpr ⟨lw_p24, List.forall_mem_cons.mpr ⟨lw_p25, List.forall_mem_cons.mpr ⟨lw_p26, List.forall_mem_cons.mpr ⟨lw_p27, List.forall_mem_cons.mpr ⟨lw_p28, List.forall_mem_cons.mpr ⟨lw_p29, List.forall_mem_cons.mpr ⟨lw_p30, List.forall_mem_cons.mpr ⟨lw_p31, fun _ h => absurd h List.not_mem_nil⟩⟩⟩⟩⟩⟩⟩⟩⟩⟩⟩⟩⟩⟩⟩⟩
theorem lw_p32 : lw_okq (⟨"TidingsDeskModel", "tell", "(I)V"⟩, 39) := ⟨⟨by decide +kernel, by decide +kernel⟩, List.mem_of_getElem? (i := 708) (by decide +kernel), List.mem_of_getElem? (i := 892) (by decide +kernel), List.mem_of_getElem? (i := 893) (by decide +kernel)⟩
theorem lw_p33 : lw_okq (⟨"TidingsDeskModel", "isReport", "(I)Z"⟩, 39) := ⟨⟨by decide +kernel, by decide +kernel⟩, List.mem_of_getElem? (i := 708) (by decide +kernel), List.mem_of_getElem? (i := 900) (by decide +kernel), List.mem_of_getElem? (i := 901) (by decide +kernel)⟩
theorem lw_p34 : lw_okq (⟨"TidingsDeskModel", "isKnown", "(II)Z"⟩, 39) := ⟨⟨by decide +kernel, by decide +kernel⟩, List.mem_of_getElem? (i := 708) (by decide +kernel), List.mem_of_getElem? (i := 912) (by decide +kernel), List.mem_of_getElem? (i := 913) (by decide +kernel)⟩
theorem lw_p35 : lw_okq (⟨"TidingsDeskModel", "rowFor", "(III)I"⟩, 39) := ⟨⟨by decide +kernel, by decide +kernel⟩, List.mem_of_getElem? (i := 708) (by decide +kernel), List.mem_of_getElem? (i := 916) (by decide +kernel), List.mem_of_getElem? (i := 917) (by decide +kernel)⟩
theorem lw_p36 : lw_okq (⟨"TidingsDeskModel", "know", "(I)V"⟩, 39) := ⟨⟨by decide +kernel, by decide +kernel⟩, List.mem_of_getElem? (i := 708) (by decide +kernel), List.mem_of_getElem? (i := 944) (by decide +kernel), List.mem_of_getElem? (i := 945) (by decide +kernel)⟩
theorem lw_p37 : lw_okq (⟨"TidingsDeskModel", "pairOf", "(II)I"⟩, 39) := ⟨⟨by decide +kernel, by decide +kernel⟩, List.mem_of_getElem? (i := 708) (by decide +kernel), List.mem_of_getElem? (i := 948) (by decide +kernel), List.mem_of_getElem? (i := 949) (by decide +kernel)⟩
theorem lw_p38 : lw_okq (⟨"TidingsDeskModel", "has", "(II)Z"⟩, 39) := ⟨⟨by decide +kernel, by decide +kernel⟩, List.mem_of_getElem? (i := 708) (by decide +kernel), List.mem_of_getElem? (i := 952) (by decide +kernel), List.mem_of_getElem? (i := 953) (by decide +kernel)⟩
theorem lw_p39 : lw_okq (⟨"TidingsDeskModel", "get", "(II)I"⟩, 39) := ⟨⟨by decide +kernel, by decide +kernel⟩, List.mem_of_getElem? (i := 708) (by decide +kernel), List.mem_of_getElem? (i := 956) (by decide +kernel), List.mem_of_getElem? (i := 957) (by decide +kernel)⟩
theorem lw_p40 : lw_okq (⟨"TidingsDeskModel", "upperOf", "(I)I"⟩, 39) := ⟨⟨by decide +kernel, by decide +kernel⟩, List.mem_of_getElem? (i := 708) (by decide +kernel), List.mem_of_getElem? (i := 961) (by decide +kernel), List.mem_of_getElem? (i := 962) (by decide +kernel)⟩
theorem lw_p41 : lw_okq (⟨"TidingsDeskModel", "namesOff", "(II)I"⟩, 39) := ⟨⟨by decide +kernel, by decide +kernel⟩, List.mem_of_getElem? (i := 708) (by decide +kernel), List.mem_of_getElem? (i := 965) (by decide +kernel), List.mem_of_getElem? (i := 966) (by decide +kernel)⟩
theorem lw_p42 : lw_okq (⟨"TidingsDeskModel", "hasName", "(III)Z"⟩, 39) := ⟨⟨by decide +kernel, by decide +kernel⟩, List.mem_of_getElem? (i := 708) (by decide +kernel), List.mem_of_getElem? (i := 969) (by decide +kernel), List.mem_of_getElem? (i := 970) (by decide +kernel)⟩
theorem lw_p43 : lw_okq (⟨"TidingsDeskModel", "isName", "(IIII)Z"⟩, 39) := ⟨⟨by decide +kernel, by decide +kernel⟩, List.mem_of_getElem? (i := 708) (by decide +kernel), List.mem_of_getElem? (i := 973) (by decide +kernel), List.mem_of_getElem? (i := 974) (by decide +kernel)⟩
theorem lw_p44 : lw_okq (⟨"TidingsDeskModel", "groupAll", "(I)Z"⟩, 39) := ⟨⟨by decide +kernel, by decide +kernel⟩, List.mem_of_getElem? (i := 708) (by decide +kernel), List.mem_of_getElem? (i := 981) (by decide +kernel), List.mem_of_getElem? (i := 982) (by decide +kernel)⟩
theorem lw_p45 : lw_okq (⟨"TidingsDeskModel", "place", "(III)V"⟩, 39) := ⟨⟨by decide +kernel, by decide +kernel⟩, List.mem_of_getElem? (i := 708) (by decide +kernel), List.mem_of_getElem? (i := 985) (by decide +kernel), List.mem_of_getElem? (i := 986) (by decide +kernel)⟩
theorem lw_p46 : lw_okq (⟨"TidingsDeskModel", "joining", "(II)I"⟩, 39) := ⟨⟨by decide +kernel, by decide +kernel⟩, List.mem_of_getElem? (i := 708) (by decide +kernel), List.mem_of_getElem? (i := 989) (by decide +kernel), List.mem_of_getElem? (i := 990) (by decide +kernel)⟩
theorem lw_p47 : lw_okq (⟨"TidingsDeskModel", "placeOf", "(I)I"⟩, 39) := ⟨⟨by decide +kernel, by decide +kernel⟩, List.mem_of_getElem? (i := 708) (by decide +kernel), List.mem_of_getElem? (i := 994) (by decide +kernel), List.mem_of_getElem? (i := 995) (by decide +kernel)⟩
def lw_privs_3 : List (MethodName × Nat) := [(⟨"TidingsDeskModel", "tell", "(I)V"⟩, 39), (⟨"TidingsDeskModel", "isReport", "(I)Z"⟩, 39), (⟨"TidingsDeskModel", "isKnown", "(II)Z"⟩, 39), (⟨"TidingsDeskModel", "rowFor", "(III)I"⟩, 39), (⟨"TidingsDeskModel", "know", "(I)V"⟩, 39), (⟨"TidingsDeskModel", "pairOf", "(II)I"⟩, 39), (⟨"TidingsDeskModel", "has", "(II)Z"⟩, 39), (⟨"TidingsDeskModel", "get", "(II)I"⟩, 39), (⟨"TidingsDeskModel", "upperOf", "(I)I"⟩, 39), (⟨"TidingsDeskModel", "namesOff", "(II)I"⟩, 39), (⟨"TidingsDeskModel", "hasName", "(III)Z"⟩, 39), (⟨"TidingsDeskModel", "isName", "(IIII)Z"⟩, 39), (⟨"TidingsDeskModel", "groupAll", "(I)Z"⟩, 39), (⟨"TidingsDeskModel", "place", "(III)V"⟩, 39), (⟨"TidingsDeskModel", "joining", "(II)I"⟩, 39), (⟨"TidingsDeskModel", "placeOf", "(I)I"⟩, 39)]
theorem lw_r3 : ∀ q ∈ lw_privs_3, lw_okq q := List.forall_mem_cons.mpr ⟨lw_p32, List.forall_mem_cons.mpr ⟨lw_p33, List.forall_mem_cons.mpr ⟨lw_p34, List.forall_mem_cons.mpr ⟨lw_p35, List.forall_mem_cons.mpr ⟨lw_p36, List.forall_mem_cons.mpr ⟨lw_p37, List.forall_mem_cons.mpr ⟨lw_p38, List.forall_mem_cons.mpr ⟨lw_p39, List.forall_mem_cons.mpr ⟨lw_p40, List.forall_mem_cons.mpr ⟨lw_p41, List.forall_mem_cons.mpr ⟨lw_p42, List.forall_mem_cons.mpr ⟨lw_p43, List.forall_mem_cons.mpr ⟨lw_p44, List.forall_mem_cons.mpr ⟨lw_p45, List.forall_mem_cons.mpr ⟨lw_p46, List.forall_mem_cons.mpr ⟨lw_p47, fun _ h => absurd h List.not_mem_nil⟩⟩⟩⟩⟩⟩⟩⟩⟩⟩⟩⟩⟩⟩⟩⟩
theorem lw_p48 : lw_okq (⟨"TidingsDeskModel", "span", "(IZ)I"⟩, 39) := ⟨⟨by decide +kernel, by decide +kernel⟩, List.mem_of_getElem? (i := 708) (by decide +kernel), List.mem_of_getElem? (i := 1010) (by decide +kernel), List.mem_of_getElem? (i := 1011) (by decide +kernel)⟩
theorem lw_p49 : lw_okq (⟨"TidingsDeskModel", "common", "(II)I"⟩, 39) := ⟨⟨by decide +kernel, by decide +kernel⟩, List.mem_of_getElem? (i := 708) (by decide +kernel), List.mem_of_getElem? (i := 1016) (by decide +kernel), List.mem_of_getElem? (i := 1017) (by decide +kernel)⟩
theorem lw_p50 : lw_okq (⟨"TidingsDeskModel", "shapeOf", "(I)I"⟩, 39) := ⟨⟨by decide +kernel, by decide +kernel⟩, List.mem_of_getElem? (i := 708) (by decide +kernel), List.mem_of_getElem? (i := 1028) (by decide +kernel), List.mem_of_getElem? (i := 1029) (by decide +kernel)⟩
theorem lw_p51 : lw_okq (⟨"TidingsDeskModel", "findForms", "(I)V"⟩, 39) := ⟨⟨by decide +kernel, by decide +kernel⟩, List.mem_of_getElem? (i := 708) (by decide +kernel), List.mem_of_getElem? (i := 1036) (by decide +kernel), List.mem_of_getElem? (i := 1037) (by decide +kernel)⟩
theorem lw_p52 : lw_okq (⟨"TidingsDeskModel", "tryForms", "(IIII)V"⟩, 39) := ⟨⟨by decide +kernel, by decide +kernel⟩, List.mem_of_getElem? (i := 708) (by decide +kernel), List.mem_of_getElem? (i := 1040) (by decide +kernel), List.mem_of_getElem? (i := 1041) (by decide +kernel)⟩
theorem lw_p53 : lw_okq (⟨"TidingsDeskModel", "costOf", "(IIII)I"⟩, 39) := ⟨⟨by decide +kernel, by decide +kernel⟩, List.mem_of_getElem? (i := 708) (by decide +kernel), List.mem_of_getElem? (i := 1044) (by decide +kernel), List.mem_of_getElem? (i := 1045) (by decide +kernel)⟩
def lw_privs_4 : List (MethodName × Nat) := [(⟨"TidingsDeskModel", "span", "(IZ)I"⟩, 39), (⟨"TidingsDeskModel", "common", "(II)I"⟩, 39), (⟨"TidingsDeskModel", "shapeOf", "(I)I"⟩, 39), (⟨"TidingsDeskModel", "findForms", "(I)V"⟩, 39), (⟨"TidingsDeskModel", "tryForms", "(IIII)V"⟩, 39), (⟨"TidingsDeskModel", "costOf", "(IIII)I"⟩, 39)]
theorem lw_r4 : ∀ q ∈ lw_privs_4, lw_okq q := List.forall_mem_cons.mpr ⟨lw_p48, List.forall_mem_cons.mpr ⟨lw_p49, List.forall_mem_cons.mpr ⟨lw_p50, List.forall_mem_cons.mpr ⟨lw_p51, List.forall_mem_cons.mpr ⟨lw_p52, List.forall_mem_cons.mpr ⟨lw_p53, fun _ h => absurd h List.not_mem_nil⟩⟩⟩⟩⟩⟩
def lw_privs : List (MethodName × Nat) := lw_privs_1 ++ (lw_privs_2 ++ (lw_privs_3 ++ (lw_privs_4)))
def lw_tbl : List Cond := k2_sels lw_privs ++ tables_1
theorem lw_privs_ok : ∀ q ∈ lw_privs, lw_okq q := by
  show ∀ q ∈ lw_privs_1 ++ (lw_privs_2 ++ (lw_privs_3 ++ (lw_privs_4))), lw_okq q
  exact List.forall_mem_append.mpr ⟨lw_r1, List.forall_mem_append.mpr ⟨lw_r2, List.forall_mem_append.mpr ⟨lw_r3, lw_r4⟩⟩⟩
-- ===== end of PART A; then your names; then what follows =====
end
section
def RX0 : String := "TidingsDesk$Facts"
def TX0 : u_T := fun k => match k with
  | 0 => ("TidingsDesk$Facts", "has", "I", false)
  | 1 => ("TidingsDesk$Facts", "high", "I", false)
  | 2 => ("TidingsDesk$Facts", "values", "[I", true)
  | _ => ("TidingsDesk$Facts", "names", "[I", true)
def tyX0 : Nat → FieldType := fun k => match k with
  | 0 => .int
  | 1 => .int
  | 2 => .array .int
  | _ => .array .int
theorem nmX0 : ∀ a, a < 4 → ∀ b, b < 4 → a ≠ b → (TX0 a).2.1 ≠ (TX0 b).2.1 := by decide +kernel
theorem tyX0_ok : ∀ k, k < 4 → parseFieldDescriptor (TX0 k).2.2.1 = some (tyX0 k) := by decide +kernel
abbrev cX0_init : ByteArray := prog_2_method_1_code
def yX0_init : MethodName := ⟨RX0, "<init>", "()V"⟩
abbrev cX0_forget : ByteArray := prog_2_method_2_code
def yX0_forget : MethodName := ⟨RX0, "forget", "()V"⟩
abbrev cX0_fieldBits : ByteArray := prog_2_method_3_code
def yX0_fieldBits : MethodName := ⟨RX0, "fieldBits", "()I"⟩
abbrev cX0_hasField : ByteArray := prog_2_method_4_code
def yX0_hasField : MethodName := ⟨RX0, "hasField", "(I)Z"⟩
abbrev cX0_valueOf : ByteArray := prog_2_method_5_code
def yX0_valueOf : MethodName := ⟨RX0, "valueOf", "(I)I"⟩
abbrev cX0_highOf : ByteArray := prog_2_method_6_code
def yX0_highOf : MethodName := ⟨RX0, "highOf", "()I"⟩
abbrev cX0_nameAt : ByteArray := prog_2_method_7_code
def yX0_nameAt : MethodName := ⟨RX0, "nameAt", "(I)I"⟩
abbrev cX0_letterOf : ByteArray := prog_2_method_8_code
def yX0_letterOf : MethodName := ⟨RX0, "letterOf", "(II)I"⟩
abbrev cX0_hasName : ByteArray := prog_2_method_9_code
def yX0_hasName : MethodName := ⟨RX0, "hasName", "(I)Z"⟩
abbrev cX0_setValue : ByteArray := prog_2_method_10_code
def yX0_setValue : MethodName := ⟨RX0, "setValue", "(II)V"⟩
abbrev cX0_setSpan : ByteArray := prog_2_method_11_code
def yX0_setSpan : MethodName := ⟨RX0, "setSpan", "(II)V"⟩
abbrev cX0_addName : ByteArray := prog_2_method_12_code
def yX0_addName : MethodName := ⟨RX0, "addName", "(I)V"⟩
abbrev cX0_take : ByteArray := prog_2_method_13_code
def yX0_take : MethodName := ⟨RX0, "take", "(LTidingsDesk$Facts;I)V"⟩
def RX1 : String := "TidingsDesk$FormSearch"
def TX1 : u_T := fun k => match k with
  | 0 => ("TidingsDesk$FormSearch", "costs", "[[I", true)
  | 1 => ("TidingsDesk$FormSearch", "found", "[I", true)
  | 2 => ("TidingsDesk$FormSearch", "foundMany", "I", false)
  | 3 => ("TidingsDesk$FormSearch", "foundCost", "I", false)
  | _ => ("TidingsDesk$FormSearch", "reports", "I", false)
def tyX1 : Nat → FieldType := fun k => match k with
  | 0 => .array (.array .int)
  | 1 => .array .int
  | 2 => .int
  | 3 => .int
  | _ => .int
theorem nmX1 : ∀ a, a < 5 → ∀ b, b < 5 → a ≠ b → (TX1 a).2.1 ≠ (TX1 b).2.1 := by decide +kernel
theorem tyX1_ok : ∀ k, k < 5 → parseFieldDescriptor (TX1 k).2.2.1 = some (tyX1 k) := by decide +kernel
abbrev cX1_init : ByteArray := prog_3_method_1_code
def yX1_init : MethodName := ⟨RX1, "<init>", "()V"⟩
abbrev cX1_find : ByteArray := prog_3_method_2_code
def yX1_find : MethodName := ⟨RX1, "find", "(LTidingsDesk$Known;I)V"⟩
abbrev cX1_reckon : ByteArray := prog_3_method_3_code
def yX1_reckon : MethodName := ⟨RX1, "reckon", "(LTidingsDesk$Known;)V"⟩
abbrev cX1_weighOnes : ByteArray := prog_3_method_4_code
def yX1_weighOnes : MethodName := ⟨RX1, "weighOnes", "(I)V"⟩
abbrev cX1_weighTwos : ByteArray := prog_3_method_5_code
def yX1_weighTwos : MethodName := ⟨RX1, "weighTwos", "(I)V"⟩
abbrev cX1_weighThrees : ByteArray := prog_3_method_6_code
def yX1_weighThrees : MethodName := ⟨RX1, "weighThrees", "(I)V"⟩
abbrev cX1_weigh : ByteArray := prog_3_method_7_code
def yX1_weigh : MethodName := ⟨RX1, "weigh", "(IIII)Z"⟩
abbrev cX1_formAt : ByteArray := prog_3_method_8_code
def yX1_formAt : MethodName := ⟨RX1, "formAt", "(I)I"⟩
abbrev cX1_total : ByteArray := prog_3_method_9_code
def yX1_total : MethodName := ⟨RX1, "total", "()I"⟩
def RX2 : String := "TidingsDesk$Grouping"
def TX2 : u_T := fun k => match k with
  | 0 => ("TidingsDesk$Grouping", "keys", "[J", true)
  | 1 => ("TidingsDesk$Grouping", "least", "[J", true)
  | 2 => ("TidingsDesk$Grouping", "lowest", "[I", true)
  | 3 => ("TidingsDesk$Grouping", "firsts", "[I", true)
  | 4 => ("TidingsDesk$Grouping", "best", "J", false)
  | _ => ("TidingsDesk$Grouping", "many", "I", false)
def tyX2 : Nat → FieldType := fun k => match k with
  | 0 => .array .long
  | 1 => .array .long
  | 2 => .array .int
  | 3 => .array .int
  | 4 => .long
  | _ => .int
theorem nmX2 : ∀ a, a < 6 → ∀ b, b < 6 → a ≠ b → (TX2 a).2.1 ≠ (TX2 b).2.1 := by decide +kernel
theorem tyX2_ok : ∀ k, k < 6 → parseFieldDescriptor (TX2 k).2.2.1 = some (tyX2 k) := by decide +kernel
abbrev cX2_init : ByteArray := prog_4_method_1_code
def yX2_init : MethodName := ⟨RX2, "<init>", "()V"⟩
abbrev cX2_find : ByteArray := prog_4_method_2_code
def yX2_find : MethodName := ⟨RX2, "find", "(LTidingsDesk$Pairs;II)V"⟩
abbrev cX2_digitShift : ByteArray := prog_4_method_3_code
def yX2_digitShift : MethodName := ⟨RX2, "digitShift", "(I)I"⟩
abbrev cX2_keyGroupsUpTo : ByteArray := prog_4_method_4_code
def yX2_keyGroupsUpTo : MethodName := ⟨RX2, "keyGroupsUpTo", "(ILTidingsDesk$Pairs;I)V"⟩
abbrev cX2_costOfJoining : ByteArray := prog_4_method_5_code
def yX2_costOfJoining : MethodName := ⟨RX2, "costOfJoining", "(IILTidingsDesk$Pairs;)I"⟩
abbrev cX2_dropTornGroups : ByteArray := prog_4_method_6_code
def yX2_dropTornGroups : MethodName := ⟨RX2, "dropTornGroups", "(LTidingsDesk$Pairs;)V"⟩
abbrev cX2_leastFor : ByteArray := prog_4_method_7_code
def yX2_leastFor : MethodName := ⟨RX2, "leastFor", "(I)J"⟩
abbrev cX2_exists : ByteArray := prog_4_method_8_code
def yX2_exists : MethodName := ⟨RX2, "exists", "()Z"⟩
abbrev cX2_total : ByteArray := prog_4_method_9_code
def yX2_total : MethodName := ⟨RX2, "total", "()I"⟩
abbrev cX2_firstOf : ByteArray := prog_4_method_10_code
def yX2_firstOf : MethodName := ⟨RX2, "firstOf", "(I)I"⟩
abbrev cX2_size : ByteArray := prog_4_method_11_code
def yX2_size : MethodName := ⟨RX2, "size", "()I"⟩
abbrev cX2_membersOf : ByteArray := prog_4_method_12_code
def yX2_membersOf : MethodName := ⟨RX2, "membersOf", "(I)I"⟩
def RX3 : String := "TidingsDesk$Hands"
def TX3 : u_T := fun k => match k with
  | _ => ("TidingsDesk$Hands", "words", "[[I", true)
def tyX3 : Nat → FieldType := fun k => match k with
  | _ => .array (.array .int)
theorem nmX3 : ∀ a, a < 1 → ∀ b, b < 1 → a ≠ b → (TX3 a).2.1 ≠ (TX3 b).2.1 := by decide +kernel
theorem tyX3_ok : ∀ k, k < 1 → parseFieldDescriptor (TX3 k).2.2.1 = some (tyX3 k) := by decide +kernel
abbrev cX3_init : ByteArray := prog_5_method_1_code
def yX3_init : MethodName := ⟨RX3, "<init>", "()V"⟩
abbrev cX3_fits : ByteArray := prog_5_method_2_code
def yX3_fits : MethodName := ⟨RX3, "fits", "(II)Z"⟩
abbrev cX3_tell : ByteArray := prog_5_method_3_code
def yX3_tell : MethodName := ⟨RX3, "tell", "(III)V"⟩
abbrev cX3_wordOf : ByteArray := prog_5_method_4_code
def yX3_wordOf : MethodName := ⟨RX3, "wordOf", "(II)I"⟩
abbrev cX3_pairsTold : ByteArray := prog_5_method_5_code
def yX3_pairsTold : MethodName := ⟨RX3, "pairsTold", "(I)I"⟩
def RX4 : String := "TidingsDesk$Known"
def TX4 : u_T := fun k => match k with
  | 0 => ("TidingsDesk$Known", "reports", "[LTidingsDesk$Facts;", true)
  | _ => ("TidingsDesk$Known", "many", "I", false)
def tyX4 : Nat → FieldType := fun k => match k with
  | 0 => .array (.object "TidingsDesk$Facts")
  | _ => .int
theorem nmX4 : ∀ a, a < 2 → ∀ b, b < 2 → a ≠ b → (TX4 a).2.1 ≠ (TX4 b).2.1 := by decide +kernel
theorem tyX4_ok : ∀ k, k < 2 → parseFieldDescriptor (TX4 k).2.2.1 = some (tyX4 k) := by decide +kernel
abbrev cX4_init : ByteArray := prog_6_method_1_code
def yX4_init : MethodName := ⟨RX4, "<init>", "()V"⟩
abbrev cX4_forget : ByteArray := prog_6_method_2_code
def yX4_forget : MethodName := ⟨RX4, "forget", "()V"⟩
abbrev cX4_learn : ByteArray := prog_6_method_3_code
def yX4_learn : MethodName := ⟨RX4, "learn", "(LTidingsDesk$Telling;)V"⟩
abbrev cX4_size : ByteArray := prog_6_method_4_code
def yX4_size : MethodName := ⟨RX4, "size", "()I"⟩
abbrev cX4_factsOf : ByteArray := prog_6_method_5_code
def yX4_factsOf : MethodName := ⟨RX4, "factsOf", "(I)LTidingsDesk$Facts;"⟩
abbrev cX4_valueOf : ByteArray := prog_6_method_6_code
def yX4_valueOf : MethodName := ⟨RX4, "valueOf", "(II)I"⟩
abbrev cX4_highOf : ByteArray := prog_6_method_7_code
def yX4_highOf : MethodName := ⟨RX4, "highOf", "(I)I"⟩
abbrev cX4_shapeOf : ByteArray := prog_6_method_8_code
def yX4_shapeOf : MethodName := ⟨RX4, "shapeOf", "(I)I"⟩
abbrev cX4_holdersOf : ByteArray := prog_6_method_9_code
def yX4_holdersOf : MethodName := ⟨RX4, "holdersOf", "(I)I"⟩
def RX5 : String := "TidingsDesk$Ledger"
def TX5 : u_T := fun k => match k with
  | 0 => ("TidingsDesk$Ledger", "tellings", "[LTidingsDesk$Telling;", true)
  | 1 => ("TidingsDesk$Ledger", "nothing", "LTidingsDesk$Facts;", true)
  | 2 => ("TidingsDesk$Ledger", "told", "I", false)
  | 3 => ("TidingsDesk$Ledger", "reportsTold", "I", false)
  | _ => ("TidingsDesk$Ledger", "changesTold", "I", false)
def tyX5 : Nat → FieldType := fun k => match k with
  | 0 => .array (.object "TidingsDesk$Telling")
  | 1 => .object "TidingsDesk$Facts"
  | 2 => .int
  | 3 => .int
  | _ => .int
theorem nmX5 : ∀ a, a < 5 → ∀ b, b < 5 → a ≠ b → (TX5 a).2.1 ≠ (TX5 b).2.1 := by decide +kernel
theorem tyX5_ok : ∀ k, k < 5 → parseFieldDescriptor (TX5 k).2.2.1 = some (tyX5 k) := by decide +kernel
abbrev cX5_init : ByteArray := prog_7_method_1_code
def yX5_init : MethodName := ⟨RX5, "<init>", "()V"⟩
abbrev cX5_reports : ByteArray := prog_7_method_2_code
def yX5_reports : MethodName := ⟨RX5, "reports", "()I"⟩
abbrev cX5_changes : ByteArray := prog_7_method_3_code
def yX5_changes : MethodName := ⟨RX5, "changes", "()I"⟩
abbrev cX5_hasReport : ByteArray := prog_7_method_4_code
def yX5_hasReport : MethodName := ⟨RX5, "hasReport", "(I)Z"⟩
abbrev cX5_takesChange : ByteArray := prog_7_method_5_code
def yX5_takesChange : MethodName := ⟨RX5, "takesChange", "(I)Z"⟩
abbrev cX5_addReport : ByteArray := prog_7_method_6_code
def yX5_addReport : MethodName := ⟨RX5, "addReport", "(ILTidingsDesk$Facts;)I"⟩
abbrev cX5_addCorrection : ByteArray := prog_7_method_7_code
def yX5_addCorrection : MethodName := ⟨RX5, "addCorrection", "(IILTidingsDesk$Facts;)V"⟩
abbrev cX5_addDenial : ByteArray := prog_7_method_8_code
def yX5_addDenial : MethodName := ⟨RX5, "addDenial", "(III)V"⟩
abbrev cX5_addText : ByteArray := prog_7_method_9_code
def yX5_addText : MethodName := ⟨RX5, "addText", "(IILTidingsDesk$Facts;)V"⟩
abbrev cX5_add : ByteArray := prog_7_method_10_code
def yX5_add : MethodName := ⟨RX5, "add", "(LTidingsDesk$Telling;)V"⟩
abbrev cX5_retell : ByteArray := prog_7_method_11_code
def yX5_retell : MethodName := ⟨RX5, "retell", "(ILTidingsDesk$Known;)V"⟩
def RX6 : String := "TidingsDesk$Pairs"
def TX6 : u_T := fun k => match k with
  | 0 => ("TidingsDesk$Pairs", "costs", "[[I", true)
  | _ => ("TidingsDesk$Pairs", "partners", "[I", true)
def tyX6 : Nat → FieldType := fun k => match k with
  | 0 => .array (.array .int)
  | _ => .array .int
theorem nmX6 : ∀ a, a < 2 → ∀ b, b < 2 → a ≠ b → (TX6 a).2.1 ≠ (TX6 b).2.1 := by decide +kernel
theorem tyX6_ok : ∀ k, k < 2 → parseFieldDescriptor (TX6 k).2.2.1 = some (tyX6 k) := by decide +kernel
abbrev cX6_init : ByteArray := prog_8_method_1_code
def yX6_init : MethodName := ⟨RX6, "<init>", "()V"⟩
abbrev cX6_reckon : ByteArray := prog_8_method_2_code
def yX6_reckon : MethodName := ⟨RX6, "reckon", "(LTidingsDesk$Known;LTidingsDesk$Hands;)V"⟩
abbrev cX6_reckoned : ByteArray := prog_8_method_3_code
def yX6_reckoned : MethodName := ⟨RX6, "reckoned", "(II)I"⟩
abbrev cX6_partnersOf : ByteArray := prog_8_method_4_code
def yX6_partnersOf : MethodName := ⟨RX6, "partnersOf", "(I)I"⟩
abbrev cX6_between : ByteArray := prog_8_method_5_code
def yX6_between : MethodName := ⟨RX6, "between", "(LTidingsDesk$Known;LTidingsDesk$Hands;II)I"⟩
abbrev cX6_differ : ByteArray := prog_8_method_6_code
def yX6_differ : MethodName := ⟨RX6, "differ", "(LTidingsDesk$Facts;LTidingsDesk$Facts;I)Z"⟩
abbrev cX6_datesApart : ByteArray := prog_8_method_7_code
def yX6_datesApart : MethodName := ⟨RX6, "datesApart", "(LTidingsDesk$Facts;LTidingsDesk$Facts;)I"⟩
abbrev cX6_numbersPart : ByteArray := prog_8_method_8_code
def yX6_numbersPart : MethodName := ⟨RX6, "numbersPart", "(LTidingsDesk$Facts;LTidingsDesk$Facts;)Z"⟩
abbrev cX6_nameGain : ByteArray := prog_8_method_9_code
def yX6_nameGain : MethodName := ⟨RX6, "nameGain", "(LTidingsDesk$Known;LTidingsDesk$Facts;LTidingsDesk$Facts;)I"⟩
def RX7 : String := "TidingsDesk$Tape"
def TX7 : u_T := fun k => match k with
  | 0 => ("TidingsDesk$Tape", "bytes", "[I", true)
  | 1 => ("TidingsDesk$Tape", "length", "I", false)
  | 2 => ("TidingsDesk$Tape", "next", "I", false)
  | _ => ("TidingsDesk$Tape", "draft", "LTidingsDesk$Facts;", true)
def tyX7 : Nat → FieldType := fun k => match k with
  | 0 => .array .int
  | 1 => .int
  | 2 => .int
  | _ => .object "TidingsDesk$Facts"
theorem nmX7 : ∀ a, a < 4 → ∀ b, b < 4 → a ≠ b → (TX7 a).2.1 ≠ (TX7 b).2.1 := by decide +kernel
theorem tyX7_ok : ∀ k, k < 4 → parseFieldDescriptor (TX7 k).2.2.1 = some (tyX7 k) := by decide +kernel
abbrev cX7_init : ByteArray := prog_9_method_1_code
def yX7_init : MethodName := ⟨RX7, "<init>", "()V"⟩
abbrev cX7_byteOf : ByteArray := prog_9_method_2_code
def yX7_byteOf : MethodName := ⟨RX7, "byteOf", "(II)I"⟩
abbrev cX7_bytesIn : ByteArray := prog_9_method_3_code
def yX7_bytesIn : MethodName := ⟨RX7, "bytesIn", "(I)I"⟩
abbrev cX7_size : ByteArray := prog_9_method_4_code
def yX7_size : MethodName := ⟨RX7, "size", "()I"⟩
abbrev cX7_append : ByteArray := prog_9_method_5_code
def yX7_append : MethodName := ⟨RX7, "append", "(I)V"⟩
abbrev cX7_cut : ByteArray := prog_9_method_6_code
def yX7_cut : MethodName := ⟨RX7, "cut", "(I)Z"⟩
abbrev cX7_read : ByteArray := prog_9_method_7_code
def yX7_read : MethodName := ⟨RX7, "read", "()I"⟩
abbrev cX7_peek : ByteArray := prog_9_method_8_code
def yX7_peek : MethodName := ⟨RX7, "peek", "()I"⟩
abbrev cX7_skipBlanks : ByteArray := prog_9_method_9_code
def yX7_skipBlanks : MethodName := ⟨RX7, "skipBlanks", "()V"⟩
abbrev cX7_readItem : ByteArray := prog_9_method_10_code
def yX7_readItem : MethodName := ⟨RX7, "readItem", "()Z"⟩
abbrev cX7_markedField : ByteArray := prog_9_method_11_code
def yX7_markedField : MethodName := ⟨RX7, "markedField", "()I"⟩
abbrev cX7_readValue : ByteArray := prog_9_method_12_code
def yX7_readValue : MethodName := ⟨RX7, "readValue", "(I)Z"⟩
abbrev cX7_readSpan : ByteArray := prog_9_method_13_code
def yX7_readSpan : MethodName := ⟨RX7, "readSpan", "()Z"⟩
abbrev cX7_readDigits : ByteArray := prog_9_method_14_code
def yX7_readDigits : MethodName := ⟨RX7, "readDigits", "()I"⟩
abbrev cX7_readNames : ByteArray := prog_9_method_15_code
def yX7_readNames : MethodName := ⟨RX7, "readNames", "()Z"⟩
abbrev cX7_readName : ByteArray := prog_9_method_16_code
def yX7_readName : MethodName := ⟨RX7, "readName", "()I"⟩
def RX8 : String := "TidingsDesk$Telling"
def TX8 : u_T := fun k => match k with
  | 0 => ("TidingsDesk$Telling", "report", "I", true)
  | 1 => ("TidingsDesk$Telling", "day", "I", true)
  | 2 => ("TidingsDesk$Telling", "bits", "I", true)
  | _ => ("TidingsDesk$Telling", "facts", "LTidingsDesk$Facts;", true)
def tyX8 : Nat → FieldType := fun k => match k with
  | 0 => .int
  | 1 => .int
  | 2 => .int
  | _ => .object "TidingsDesk$Facts"
theorem nmX8 : ∀ a, a < 4 → ∀ b, b < 4 → a ≠ b → (TX8 a).2.1 ≠ (TX8 b).2.1 := by decide +kernel
theorem tyX8_ok : ∀ k, k < 4 → parseFieldDescriptor (TX8 k).2.2.1 = some (tyX8 k) := by decide +kernel
abbrev cX8_init : ByteArray := prog_10_method_1_code
def yX8_init : MethodName := ⟨RX8, "<init>", "(IIILTidingsDesk$Facts;)V"⟩
def RX9 : String := "TidingsDesk"
def TX9 : u_T := fun k => match k with
  | 0 => ("TidingsDesk", "tape", "LTidingsDesk$Tape;", true)
  | 1 => ("TidingsDesk", "ledger", "LTidingsDesk$Ledger;", true)
  | 2 => ("TidingsDesk", "known", "LTidingsDesk$Known;", true)
  | 3 => ("TidingsDesk", "hands", "LTidingsDesk$Hands;", true)
  | 4 => ("TidingsDesk", "pairs", "LTidingsDesk$Pairs;", true)
  | 5 => ("TidingsDesk", "grouping", "LTidingsDesk$Grouping;", true)
  | 6 => ("TidingsDesk", "search", "LTidingsDesk$FormSearch;", true)
  | 7 => ("TidingsDesk", "now", "I", false)
  | 8 => ("TidingsDesk", "openCost", "I", false)
  | 9 => ("TidingsDesk", "formPrice", "I", false)
  | 10 => ("TidingsDesk", "shownDay", "I", false)
  | 11 => ("TidingsDesk", "grouped", "Z", false)
  | _ => ("TidingsDesk", "searched", "Z", false)
def tyX9 : Nat → FieldType := fun k => match k with
  | 0 => .object "TidingsDesk$Tape"
  | 1 => .object "TidingsDesk$Ledger"
  | 2 => .object "TidingsDesk$Known"
  | 3 => .object "TidingsDesk$Hands"
  | 4 => .object "TidingsDesk$Pairs"
  | 5 => .object "TidingsDesk$Grouping"
  | 6 => .object "TidingsDesk$FormSearch"
  | 7 => .int
  | 8 => .int
  | 9 => .int
  | 10 => .int
  | 11 => .boolean
  | _ => .boolean
theorem nmX9 : ∀ a, a < 13 → ∀ b, b < 13 → a ≠ b → (TX9 a).2.1 ≠ (TX9 b).2.1 := by decide +kernel
theorem tyX9_ok : ∀ k, k < 13 → parseFieldDescriptor (TX9 k).2.2.1 = some (tyX9 k) := by decide +kernel
abbrev cX9_init : ByteArray := prog_1_method_1_code
def yX9_init : MethodName := ⟨RX9, "<init>", "()V"⟩
abbrev cX9_days : ByteArray := prog_1_method_2_code
def yX9_days : MethodName := ⟨RX9, "days", "(I)I"⟩
abbrev cX9_feed : ByteArray := prog_1_method_3_code
def yX9_feed : MethodName := ⟨RX9, "feed", "(IIIII)I"⟩
abbrev cX9_end : ByteArray := prog_1_method_4_code
def yX9_end : MethodName := ⟨RX9, "end", "(I)Z"⟩
abbrev cX9_fault : ByteArray := prog_1_method_5_code
def yX9_fault : MethodName := ⟨RX9, "fault", "()I"⟩
abbrev cX9_report : ByteArray := prog_1_method_6_code
def yX9_report : MethodName := ⟨RX9, "report", "()I"⟩
abbrev cX9_correct : ByteArray := prog_1_method_7_code
def yX9_correct : MethodName := ⟨RX9, "correct", "(I)Z"⟩
abbrev cX9_deny : ByteArray := prog_1_method_8_code
def yX9_deny : MethodName := ⟨RX9, "deny", "(II)Z"⟩
abbrev cX9_hand : ByteArray := prog_1_method_9_code
def yX9_hand : MethodName := ⟨RX9, "hand", "(III)Z"⟩
abbrev cX9_opens : ByteArray := prog_1_method_10_code
def yX9_opens : MethodName := ⟨RX9, "opens", "(I)Z"⟩
abbrev cX9_price : ByteArray := prog_1_method_11_code
def yX9_price : MethodName := ⟨RX9, "price", "(I)Z"⟩
abbrev cX9_field : ByteArray := prog_1_method_12_code
def yX9_field : MethodName := ⟨RX9, "field", "(III)I"⟩
abbrev cX9_upper : ByteArray := prog_1_method_13_code
def yX9_upper : MethodName := ⟨RX9, "upper", "(II)I"⟩
abbrev cX9_letter : ByteArray := prog_1_method_14_code
def yX9_letter : MethodName := ⟨RX9, "letter", "(IIII)I"⟩
abbrev cX9_pair : ByteArray := prog_1_method_15_code
def yX9_pair : MethodName := ⟨RX9, "pair", "(III)I"⟩
abbrev cX9_group : ByteArray := prog_1_method_16_code
def yX9_group : MethodName := ⟨RX9, "group", "(II)I"⟩
abbrev cX9_cost : ByteArray := prog_1_method_17_code
def yX9_cost : MethodName := ⟨RX9, "cost", "(I)I"⟩
abbrev cX9_groups : ByteArray := prog_1_method_18_code
def yX9_groups : MethodName := ⟨RX9, "groups", "(I)I"⟩
abbrev cX9_happening : ByteArray := prog_1_method_19_code
def yX9_happening : MethodName := ⟨RX9, "happening", "(III)I"⟩
abbrev cX9_at : ByteArray := prog_1_method_20_code
def yX9_at : MethodName := ⟨RX9, "at", "(II)I"⟩
abbrev cX9_shape : ByteArray := prog_1_method_21_code
def yX9_shape : MethodName := ⟨RX9, "shape", "(II)I"⟩
abbrev cX9_form : ByteArray := prog_1_method_22_code
def yX9_form : MethodName := ⟨RX9, "form", "(II)I"⟩
abbrev cX9_forms : ByteArray := prog_1_method_23_code
def yX9_forms : MethodName := ⟨RX9, "forms", "(I)I"⟩
abbrev cX9_count : ByteArray := prog_1_method_24_code
def yX9_count : MethodName := ⟨RX9, "count", "(I)I"⟩
abbrev cX9_look : ByteArray := prog_1_method_25_code
def yX9_look : MethodName := ⟨RX9, "look", "(I)Z"⟩
abbrev cX9_lookGrouped : ByteArray := prog_1_method_26_code
def yX9_lookGrouped : MethodName := ⟨RX9, "lookGrouped", "(I)Z"⟩
abbrev cX9_lookSearched : ByteArray := prog_1_method_27_code
def yX9_lookSearched : MethodName := ⟨RX9, "lookSearched", "(I)Z"⟩
abbrev cX9_agreed : ByteArray := prog_1_method_28_code
def yX9_agreed : MethodName := ⟨RX9, "agreed", "(II)I"⟩
abbrev cX9_lowEnd : ByteArray := prog_1_method_29_code
def yX9_lowEnd : MethodName := ⟨RX9, "lowEnd", "(I)I"⟩
abbrev cX9_highEnd : ByteArray := prog_1_method_30_code
def yX9_highEnd : MethodName := ⟨RX9, "highEnd", "(I)I"⟩
abbrev cX9_quarrels : ByteArray := prog_1_method_31_code
def yX9_quarrels : MethodName := ⟨RX9, "quarrels", "(I)Z"⟩
def RX10 : String := "TidingsDeskModel"
def TX10 : u_T := fun k => match k with
  | 0 => ("TidingsDeskModel", "now", "I", false)
  | 1 => ("TidingsDeskModel", "reports", "I", false)
  | 2 => ("TidingsDeskModel", "changes", "I", false)
  | 3 => ("TidingsDeskModel", "open", "I", false)
  | 4 => ("TidingsDeskModel", "price", "I", false)
  | 5 => ("TidingsDeskModel", "tape", "[I", true)
  | 6 => ("TidingsDeskModel", "size", "I", false)
  | 7 => ("TidingsDeskModel", "readBits", "I", false)
  | 8 => ("TidingsDeskModel", "readMany", "I", false)
  | 9 => ("TidingsDeskModel", "readField", "[I", true)
  | 10 => ("TidingsDeskModel", "readUpper", "I", false)
  | 11 => ("TidingsDeskModel", "readNames", "[I", true)
  | 12 => ("TidingsDeskModel", "readLong", "[I", true)
  | 13 => ("TidingsDeskModel", "value", "I", false)
  | 14 => ("TidingsDeskModel", "rows", "I", false)
  | 15 => ("TidingsDeskModel", "rowOf", "[I", true)
  | 16 => ("TidingsDeskModel", "rowDay", "[I", true)
  | 17 => ("TidingsDeskModel", "rowBits", "[I", true)
  | 18 => ("TidingsDeskModel", "rowDenied", "[I", true)
  | 19 => ("TidingsDeskModel", "rowField", "[I", true)
  | 20 => ("TidingsDeskModel", "rowUpper", "[I", true)
  | 21 => ("TidingsDeskModel", "rowMany", "[I", true)
  | 22 => ("TidingsDeskModel", "rowNames", "[I", true)
  | 23 => ("TidingsDeskModel", "rowLong", "[I", true)
  | 24 => ("TidingsDeskModel", "reportDay", "[I", true)
  | 25 => ("TidingsDeskModel", "tells", "[I", true)
  | 26 => ("TidingsDeskModel", "known", "I", false)
  | 27 => ("TidingsDeskModel", "is", "[I", true)
  | 28 => ("TidingsDeskModel", "hands", "[I", true)
  | 29 => ("TidingsDeskModel", "costs", "[I", true)
  | 30 => ("TidingsDeskModel", "way", "[I", true)
  | 31 => ("TidingsDeskModel", "best", "[I", true)
  | 32 => ("TidingsDeskModel", "bestCost", "I", false)
  | 33 => ("TidingsDeskModel", "bestGroups", "I", false)
  | 34 => ("TidingsDeskModel", "found", "Z", false)
  | 35 => ("TidingsDeskModel", "shapes", "[I", true)
  | 36 => ("TidingsDeskModel", "forms", "[I", true)
  | 37 => ("TidingsDeskModel", "formMany", "I", false)
  | _ => ("TidingsDeskModel", "formCost", "I", false)
def tyX10 : Nat → FieldType := fun k => match k with
  | 0 => .int
  | 1 => .int
  | 2 => .int
  | 3 => .int
  | 4 => .int
  | 5 => .array .int
  | 6 => .int
  | 7 => .int
  | 8 => .int
  | 9 => .array .int
  | 10 => .int
  | 11 => .array .int
  | 12 => .array .int
  | 13 => .int
  | 14 => .int
  | 15 => .array .int
  | 16 => .array .int
  | 17 => .array .int
  | 18 => .array .int
  | 19 => .array .int
  | 20 => .array .int
  | 21 => .array .int
  | 22 => .array .int
  | 23 => .array .int
  | 24 => .array .int
  | 25 => .array .int
  | 26 => .int
  | 27 => .array .int
  | 28 => .array .int
  | 29 => .array .int
  | 30 => .array .int
  | 31 => .array .int
  | 32 => .int
  | 33 => .int
  | 34 => .boolean
  | 35 => .array .int
  | 36 => .array .int
  | 37 => .int
  | _ => .int
theorem nmX10 : ∀ a, a < 39 → ∀ b, b < 39 → a ≠ b → (TX10 a).2.1 ≠ (TX10 b).2.1 := by decide +kernel
theorem tyX10_ok : ∀ k, k < 39 → parseFieldDescriptor (TX10 k).2.2.1 = some (tyX10 k) := by decide +kernel
abbrev cX10_init : ByteArray := prog_12_method_1_code
def yX10_init : MethodName := ⟨RX10, "<init>", "()V"⟩
abbrev cX10_in : ByteArray := prog_12_method_2_code
def yX10_in : MethodName := ⟨RX10, "in", "(III)Z"⟩
abbrev cX10_days : ByteArray := prog_12_method_3_code
def yX10_days : MethodName := ⟨RX10, "days", "(I)I"⟩
abbrev cX10_byteOf : ByteArray := prog_12_method_4_code
def yX10_byteOf : MethodName := ⟨RX10, "byteOf", "(IIIIII)I"⟩
abbrev cX10_feed : ByteArray := prog_12_method_5_code
def yX10_feed : MethodName := ⟨RX10, "feed", "(IIIII)I"⟩
abbrev cX10_end : ByteArray := prog_12_method_6_code
def yX10_end : MethodName := ⟨RX10, "end", "(I)Z"⟩
abbrev cX10_byteAt : ByteArray := prog_12_method_7_code
def yX10_byteAt : MethodName := ⟨RX10, "byteAt", "(I)I"⟩
abbrev cX10_isDigit : ByteArray := prog_12_method_8_code
def yX10_isDigit : MethodName := ⟨RX10, "isDigit", "(I)Z"⟩
abbrev cX10_isSmall : ByteArray := prog_12_method_9_code
def yX10_isSmall : MethodName := ⟨RX10, "isSmall", "(I)Z"⟩
abbrev cX10_digits : ByteArray := prog_12_method_10_code
def yX10_digits : MethodName := ⟨RX10, "digits", "(I)I"⟩
abbrev cX10_most : ByteArray := prog_12_method_11_code
def yX10_most : MethodName := ⟨RX10, "most", "(I)I"⟩
abbrev cX10_item : ByteArray := prog_12_method_12_code
def yX10_item : MethodName := ⟨RX10, "item", "(I)I"⟩
abbrev cX10_isLikeRead : ByteArray := prog_12_method_13_code
def yX10_isLikeRead : MethodName := ⟨RX10, "isLikeRead", "(II)Z"⟩
abbrev cX10_names : ByteArray := prog_12_method_14_code
def yX10_names : MethodName := ⟨RX10, "names", "(I)I"⟩
abbrev cX10_blanks : ByteArray := prog_12_method_15_code
def yX10_blanks : MethodName := ⟨RX10, "blanks", "(I)I"⟩
abbrev cX10_fault : ByteArray := prog_12_method_16_code
def yX10_fault : MethodName := ⟨RX10, "fault", "()I"⟩
abbrev cX10_tell : ByteArray := prog_12_method_17_code
def yX10_tell : MethodName := ⟨RX10, "tell", "(I)V"⟩
abbrev cX10_report : ByteArray := prog_12_method_18_code
def yX10_report : MethodName := ⟨RX10, "report", "()I"⟩
abbrev cX10_isReport : ByteArray := prog_12_method_19_code
def yX10_isReport : MethodName := ⟨RX10, "isReport", "(I)Z"⟩
abbrev cX10_correct : ByteArray := prog_12_method_20_code
def yX10_correct : MethodName := ⟨RX10, "correct", "(I)Z"⟩
abbrev cX10_deny : ByteArray := prog_12_method_21_code
def yX10_deny : MethodName := ⟨RX10, "deny", "(II)Z"⟩
abbrev cX10_rowFor : ByteArray := prog_12_method_22_code
def yX10_rowFor : MethodName := ⟨RX10, "rowFor", "(III)I"⟩
abbrev cX10_isKnown : ByteArray := prog_12_method_23_code
def yX10_isKnown : MethodName := ⟨RX10, "isKnown", "(II)Z"⟩
abbrev cX10_know : ByteArray := prog_12_method_24_code
def yX10_know : MethodName := ⟨RX10, "know", "(I)V"⟩
abbrev cX10_has : ByteArray := prog_12_method_25_code
def yX10_has : MethodName := ⟨RX10, "has", "(II)Z"⟩
abbrev cX10_get : ByteArray := prog_12_method_26_code
def yX10_get : MethodName := ⟨RX10, "get", "(II)I"⟩
abbrev cX10_upperOf : ByteArray := prog_12_method_27_code
def yX10_upperOf : MethodName := ⟨RX10, "upperOf", "(I)I"⟩
abbrev cX10_field : ByteArray := prog_12_method_28_code
def yX10_field : MethodName := ⟨RX10, "field", "(III)I"⟩
abbrev cX10_upper : ByteArray := prog_12_method_29_code
def yX10_upper : MethodName := ⟨RX10, "upper", "(II)I"⟩
abbrev cX10_letter : ByteArray := prog_12_method_30_code
def yX10_letter : MethodName := ⟨RX10, "letter", "(IIII)I"⟩
abbrev cX10_hand : ByteArray := prog_12_method_31_code
def yX10_hand : MethodName := ⟨RX10, "hand", "(III)Z"⟩
abbrev cX10_opens : ByteArray := prog_12_method_32_code
def yX10_opens : MethodName := ⟨RX10, "opens", "(I)Z"⟩
abbrev cX10_price : ByteArray := prog_12_method_33_code
def yX10_price : MethodName := ⟨RX10, "price", "(I)Z"⟩
abbrev cX10_isName : ByteArray := prog_12_method_34_code
def yX10_isName : MethodName := ⟨RX10, "isName", "(IIII)Z"⟩
abbrev cX10_hasName : ByteArray := prog_12_method_35_code
def yX10_hasName : MethodName := ⟨RX10, "hasName", "(III)Z"⟩
abbrev cX10_namesOff : ByteArray := prog_12_method_36_code
def yX10_namesOff : MethodName := ⟨RX10, "namesOff", "(II)I"⟩
abbrev cX10_pairOf : ByteArray := prog_12_method_37_code
def yX10_pairOf : MethodName := ⟨RX10, "pairOf", "(II)I"⟩
abbrev cX10_pair : ByteArray := prog_12_method_38_code
def yX10_pair : MethodName := ⟨RX10, "pair", "(III)I"⟩
abbrev cX10_joining : ByteArray := prog_12_method_39_code
def yX10_joining : MethodName := ⟨RX10, "joining", "(II)I"⟩
abbrev cX10_place : ByteArray := prog_12_method_40_code
def yX10_place : MethodName := ⟨RX10, "place", "(III)V"⟩
abbrev cX10_groupAll : ByteArray := prog_12_method_41_code
def yX10_groupAll : MethodName := ⟨RX10, "groupAll", "(I)Z"⟩
abbrev cX10_placeOf : ByteArray := prog_12_method_42_code
def yX10_placeOf : MethodName := ⟨RX10, "placeOf", "(I)I"⟩
abbrev cX10_group : ByteArray := prog_12_method_43_code
def yX10_group : MethodName := ⟨RX10, "group", "(II)I"⟩
abbrev cX10_cost : ByteArray := prog_12_method_44_code
def yX10_cost : MethodName := ⟨RX10, "cost", "(I)I"⟩
abbrev cX10_groups : ByteArray := prog_12_method_45_code
def yX10_groups : MethodName := ⟨RX10, "groups", "(I)I"⟩
abbrev cX10_common : ByteArray := prog_12_method_46_code
def yX10_common : MethodName := ⟨RX10, "common", "(II)I"⟩
abbrev cX10_span : ByteArray := prog_12_method_47_code
def yX10_span : MethodName := ⟨RX10, "span", "(IZ)I"⟩
abbrev cX10_happening : ByteArray := prog_12_method_48_code
def yX10_happening : MethodName := ⟨RX10, "happening", "(III)I"⟩
abbrev cX10_at : ByteArray := prog_12_method_49_code
def yX10_at : MethodName := ⟨RX10, "at", "(II)I"⟩
abbrev cX10_shapeOf : ByteArray := prog_12_method_50_code
def yX10_shapeOf : MethodName := ⟨RX10, "shapeOf", "(I)I"⟩
abbrev cX10_shape : ByteArray := prog_12_method_51_code
def yX10_shape : MethodName := ⟨RX10, "shape", "(II)I"⟩
abbrev cX10_misfit : ByteArray := prog_12_method_52_code
def yX10_misfit : MethodName := ⟨RX10, "misfit", "(II)I"⟩
abbrev cX10_costOf : ByteArray := prog_12_method_53_code
def yX10_costOf : MethodName := ⟨RX10, "costOf", "(IIII)I"⟩
abbrev cX10_tryForms : ByteArray := prog_12_method_54_code
def yX10_tryForms : MethodName := ⟨RX10, "tryForms", "(IIII)V"⟩
abbrev cX10_findForms : ByteArray := prog_12_method_55_code
def yX10_findForms : MethodName := ⟨RX10, "findForms", "(I)V"⟩
abbrev cX10_form : ByteArray := prog_12_method_56_code
def yX10_form : MethodName := ⟨RX10, "form", "(II)I"⟩
abbrev cX10_forms : ByteArray := prog_12_method_57_code
def yX10_forms : MethodName := ⟨RX10, "forms", "(I)I"⟩
abbrev cX10_count : ByteArray := prog_12_method_58_code
def yX10_count : MethodName := ⟨RX10, "count", "(I)I"⟩
def RJ6 : String := "java/lang/Integer"
def TJ6 : u_T := fun k => match k with
  | _ => ("", "", "", false)
def tyJ6 : Nat → FieldType := fun k => match k with
  | _ => .int
abbrev wsJ60 : List Cond := u_ws RJ6 TJ6 0
theorem nmJ6 : ∀ a, a < 0 → ∀ b, b < 0 → a ≠ b → (TJ6 a).2.1 ≠ (TJ6 b).2.1 := by decide +kernel
theorem tyJ6_ok : ∀ k, k < 0 → parseFieldDescriptor (TJ6 k).2.2.1 = some (tyJ6 k) := by decide +kernel
abbrev cJ6_bitCount_0f7a4 : ByteArray := prog_13_method_49_code
def yJ6_bitCount_0f7a4 : MethodName := ⟨RJ6, "bitCount", "(I)I"⟩
def RJ9 : String := "java/lang/Math"
def TJ9 : u_T := fun k => match k with
  | _ => ("", "", "", false)
def tyJ9 : Nat → FieldType := fun k => match k with
  | _ => .int
abbrev wsJ90 : List Cond := u_ws RJ9 TJ9 0
theorem nmJ9 : ∀ a, a < 0 → ∀ b, b < 0 → a ≠ b → (TJ9 a).2.1 ≠ (TJ9 b).2.1 := by decide +kernel
theorem tyJ9_ok : ∀ k, k < 0 → parseFieldDescriptor (TJ9 k).2.2.1 = some (tyJ9 k) := by decide +kernel
abbrev cJ9_abs_0f7a4 : ByteArray := prog_14_method_59_code
def yJ9_abs_0f7a4 : MethodName := ⟨RJ9, "abs", "(I)I"⟩
abbrev cJ9_max_7cf53 : ByteArray := prog_14_method_65_code
def yJ9_max_7cf53 : MethodName := ⟨RJ9, "max", "(II)I"⟩
abbrev cJ9_min_7cf53 : ByteArray := prog_14_method_69_code
def yJ9_min_7cf53 : MethodName := ⟨RJ9, "min", "(II)I"⟩
abbrev cJ9_min_f86c9 : ByteArray := prog_14_method_70_code
def yJ9_min_f86c9 : MethodName := ⟨RJ9, "min", "(JJ)J"⟩
def RJ10 : String := "java/lang/System"
def TJ10 : u_T := fun k => match k with
  | _ => ("", "", "", false)
def tyJ10 : Nat → FieldType := fun k => match k with
  | _ => .int
abbrev wsJ100 : List Cond := u_ws RJ10 TJ10 0
theorem nmJ10 : ∀ a, a < 0 → ∀ b, b < 0 → a ≠ b → (TJ10 a).2.1 ≠ (TJ10 b).2.1 := by decide +kernel
theorem tyJ10_ok : ∀ k, k < 0 → parseFieldDescriptor (TJ10 k).2.2.1 = some (tyJ10 k) := by decide +kernel
def RL : String := "TidingsDeskLaw"
abbrev cL_law : ByteArray := code
def yL_law : MethodName := ⟨RL, "law", "([I)Z"⟩
abbrev ts_cl : List vw_C := [(RX0, TX0, 4), (RX1, TX1, 5), (RX2, TX2, 6), (RX3, TX3, 1), (RX4, TX4, 2), (RX5, TX5, 5), (RX6, TX6, 2), (RX7, TX7, 4), (RX8, TX8, 4), (RX9, TX9, 13), (RX10, TX10, 39)]
def ts_ty : Nat → Nat → FieldType := fun ci => match ci with
  | 0 => tyX0
  | 1 => tyX1
  | 2 => tyX2
  | 3 => tyX3
  | 4 => tyX4
  | 5 => tyX5
  | 6 => tyX6
  | 7 => tyX7
  | 8 => tyX8
  | 9 => tyX9
  | _ => tyX10
def ts_me : List (String × MethodName × ByteArray × Nat × Option FieldType) := [(RX0, yX0_init, cX0_init, 1, (Option.none : Option FieldType)), (RX0, yX0_forget, cX0_forget, 1, (Option.none : Option FieldType)), (RX0, yX0_fieldBits, cX0_fieldBits, 1, (Option.some FieldType.int)), (RX0, yX0_hasField, cX0_hasField, 2, (Option.some FieldType.boolean)), (RX0, yX0_valueOf, cX0_valueOf, 2, (Option.some FieldType.int)), (RX0, yX0_highOf, cX0_highOf, 1, (Option.some FieldType.int)), (RX0, yX0_nameAt, cX0_nameAt, 2, (Option.some FieldType.int)), (RX0, yX0_letterOf, cX0_letterOf, 5, (Option.some FieldType.int)), (RX0, yX0_hasName, cX0_hasName, 3, (Option.some FieldType.boolean)), (RX0, yX0_setValue, cX0_setValue, 3, (Option.none : Option FieldType)), (RX0, yX0_setSpan, cX0_setSpan, 3, (Option.none : Option FieldType)), (RX0, yX0_addName, cX0_addName, 3, (Option.none : Option FieldType)), (RX0, yX0_take, cX0_take, 4, (Option.none : Option FieldType)), (RX1, yX1_init, cX1_init, 1, (Option.none : Option FieldType)), (RX1, yX1_find, cX1_find, 3, (Option.none : Option FieldType)), (RX1, yX1_reckon, cX1_reckon, 7, (Option.none : Option FieldType)), (RX1, yX1_weighOnes, cX1_weighOnes, 3, (Option.none : Option FieldType)), (RX1, yX1_weighTwos, cX1_weighTwos, 4, (Option.none : Option FieldType)), (RX1, yX1_weighThrees, cX1_weighThrees, 5, (Option.none : Option FieldType)), (RX1, yX1_weigh, cX1_weigh, 7, (Option.some FieldType.boolean)), (RX1, yX1_formAt, cX1_formAt, 2, (Option.some FieldType.int)), (RX1, yX1_total, cX1_total, 1, (Option.some FieldType.int)), (RX2, yX2_init, cX2_init, 3, (Option.none : Option FieldType)), (RX2, yX2_find, cX2_find, 5, (Option.none : Option FieldType)), (RX2, yX2_digitShift, cX2_digitShift, 1, (Option.some FieldType.int)), (RX2, yX2_keyGroupsUpTo, cX2_keyGroupsUpTo, 10, (Option.none : Option FieldType)), (RX2, yX2_costOfJoining, cX2_costOfJoining, 6, (Option.some FieldType.int)), (RX2, yX2_dropTornGroups, cX2_dropTornGroups, 5, (Option.none : Option FieldType)), (RX2, yX2_leastFor, cX2_leastFor, 12, (Option.some FieldType.long)), (RX2, yX2_exists, cX2_exists, 1, (Option.some FieldType.boolean)), (RX2, yX2_total, cX2_total, 1, (Option.some FieldType.int)), (RX2, yX2_firstOf, cX2_firstOf, 2, (Option.some FieldType.int)), (RX2, yX2_size, cX2_size, 3, (Option.some FieldType.int)), (RX2, yX2_membersOf, cX2_membersOf, 4, (Option.some FieldType.int)), (RX3, yX3_init, cX3_init, 1, (Option.none : Option FieldType)), (RX3, yX3_fits, cX3_fits, 2, (Option.some FieldType.boolean)), (RX3, yX3_tell, cX3_tell, 4, (Option.none : Option FieldType)), (RX3, yX3_wordOf, cX3_wordOf, 3, (Option.some FieldType.int)), (RX3, yX3_pairsTold, cX3_pairsTold, 5, (Option.some FieldType.int)), (RX4, yX4_init, cX4_init, 2, (Option.none : Option FieldType)), (RX4, yX4_forget, cX4_forget, 2, (Option.none : Option FieldType)), (RX4, yX4_learn, cX4_learn, 3, (Option.none : Option FieldType)), (RX4, yX4_size, cX4_size, 1, (Option.some FieldType.int)), (RX4, yX4_factsOf, cX4_factsOf, 2, (Option.some (FieldType.object "TidingsDesk$Facts"))), (RX4, yX4_valueOf, cX4_valueOf, 4, (Option.some FieldType.int)), (RX4, yX4_highOf, cX4_highOf, 3, (Option.some FieldType.int)), (RX4, yX4_shapeOf, cX4_shapeOf, 3, (Option.some FieldType.int)), (RX4, yX4_holdersOf, cX4_holdersOf, 4, (Option.some FieldType.int)), (RX5, yX5_init, cX5_init, 1, (Option.none : Option FieldType)), (RX5, yX5_reports, cX5_reports, 1, (Option.some FieldType.int)), (RX5, yX5_changes, cX5_changes, 1, (Option.some FieldType.int)), (RX5, yX5_hasReport, cX5_hasReport, 2, (Option.some FieldType.boolean)), (RX5, yX5_takesChange, cX5_takesChange, 2, (Option.some FieldType.boolean)), (RX5, yX5_addReport, cX5_addReport, 4, (Option.some FieldType.int)), (RX5, yX5_addCorrection, cX5_addCorrection, 4, (Option.none : Option FieldType)), (RX5, yX5_addDenial, cX5_addDenial, 4, (Option.none : Option FieldType)), (RX5, yX5_addText, cX5_addText, 5, (Option.none : Option FieldType)), (RX5, yX5_add, cX5_add, 2, (Option.none : Option FieldType)), (RX5, yX5_retell, cX5_retell, 5, (Option.none : Option FieldType)), (RX6, yX6_init, cX6_init, 1, (Option.none : Option FieldType)), (RX6, yX6_reckon, cX6_reckon, 5, (Option.none : Option FieldType)), (RX6, yX6_reckoned, cX6_reckoned, 4, (Option.some FieldType.int)), (RX6, yX6_partnersOf, cX6_partnersOf, 2, (Option.some FieldType.int)), (RX6, yX6_between, cX6_between, 7, (Option.some FieldType.int)), (RX6, yX6_differ, cX6_differ, 3, (Option.some FieldType.boolean)), (RX6, yX6_datesApart, cX6_datesApart, 2, (Option.some FieldType.int)), (RX6, yX6_numbersPart, cX6_numbersPart, 2, (Option.some FieldType.boolean)), (RX6, yX6_nameGain, cX6_nameGain, 7, (Option.some FieldType.int)), (RX7, yX7_init, cX7_init, 1, (Option.none : Option FieldType)), (RX7, yX7_byteOf, cX7_byteOf, 2, (Option.some FieldType.int)), (RX7, yX7_bytesIn, cX7_bytesIn, 3, (Option.some FieldType.int)), (RX7, yX7_size, cX7_size, 1, (Option.some FieldType.int)), (RX7, yX7_append, cX7_append, 4, (Option.none : Option FieldType)), (RX7, yX7_cut, cX7_cut, 2, (Option.some FieldType.boolean)), (RX7, yX7_read, cX7_read, 3, (Option.some FieldType.int)), (RX7, yX7_peek, cX7_peek, 1, (Option.some FieldType.int)), (RX7, yX7_skipBlanks, cX7_skipBlanks, 2, (Option.none : Option FieldType)), (RX7, yX7_readItem, cX7_readItem, 2, (Option.some FieldType.boolean)), (RX7, yX7_markedField, cX7_markedField, 2, (Option.some FieldType.int)), (RX7, yX7_readValue, cX7_readValue, 3, (Option.some FieldType.boolean)), (RX7, yX7_readSpan, cX7_readSpan, 3, (Option.some FieldType.boolean)), (RX7, yX7_readDigits, cX7_readDigits, 4, (Option.some FieldType.int)), (RX7, yX7_readNames, cX7_readNames, 3, (Option.some FieldType.boolean)), (RX7, yX7_readName, cX7_readName, 4, (Option.some FieldType.int)), (RX8, yX8_init, cX8_init, 5, (Option.none : Option FieldType)), (RX9, yX9_init, cX9_init, 1, (Option.none : Option FieldType)), (RX9, yX9_days, cX9_days, 2, (Option.some FieldType.int)), (RX9, yX9_feed, cX9_feed, 7, (Option.some FieldType.int)), (RX9, yX9_end, cX9_end, 2, (Option.some FieldType.boolean)), (RX9, yX9_fault, cX9_fault, 1, (Option.some FieldType.int)), (RX9, yX9_report, cX9_report, 2, (Option.some FieldType.int)), (RX9, yX9_correct, cX9_correct, 2, (Option.some FieldType.boolean)), (RX9, yX9_deny, cX9_deny, 3, (Option.some FieldType.boolean)), (RX9, yX9_hand, cX9_hand, 4, (Option.some FieldType.boolean)), (RX9, yX9_opens, cX9_opens, 2, (Option.some FieldType.boolean)), (RX9, yX9_price, cX9_price, 2, (Option.some FieldType.boolean)), (RX9, yX9_field, cX9_field, 4, (Option.some FieldType.int)), (RX9, yX9_upper, cX9_upper, 3, (Option.some FieldType.int)), (RX9, yX9_letter, cX9_letter, 6, (Option.some FieldType.int)), (RX9, yX9_pair, cX9_pair, 4, (Option.some FieldType.int)), (RX9, yX9_group, cX9_group, 3, (Option.some FieldType.int)), (RX9, yX9_cost, cX9_cost, 2, (Option.some FieldType.int)), (RX9, yX9_groups, cX9_groups, 2, (Option.some FieldType.int)), (RX9, yX9_happening, cX9_happening, 5, (Option.some FieldType.int)), (RX9, yX9_at, cX9_at, 5, (Option.some FieldType.int)), (RX9, yX9_shape, cX9_shape, 3, (Option.some FieldType.int)), (RX9, yX9_form, cX9_form, 3, (Option.some FieldType.int)), (RX9, yX9_forms, cX9_forms, 2, (Option.some FieldType.int)), (RX9, yX9_count, cX9_count, 2, (Option.some FieldType.int)), (RX9, yX9_look, cX9_look, 2, (Option.some FieldType.boolean)), (RX9, yX9_lookGrouped, cX9_lookGrouped, 2, (Option.some FieldType.boolean)), (RX9, yX9_lookSearched, cX9_lookSearched, 2, (Option.some FieldType.boolean)), (RX9, yX9_agreed, cX9_agreed, 6, (Option.some FieldType.int)), (RX9, yX9_lowEnd, cX9_lowEnd, 4, (Option.some FieldType.int)), (RX9, yX9_highEnd, cX9_highEnd, 5, (Option.some FieldType.int)), (RX9, yX9_quarrels, cX9_quarrels, 2, (Option.some FieldType.boolean)), (RX10, yX10_init, cX10_init, 1, (Option.none : Option FieldType)), (RX10, yX10_in, cX10_in, 3, (Option.some FieldType.boolean)), (RX10, yX10_days, cX10_days, 2, (Option.some FieldType.int)), (RX10, yX10_byteOf, cX10_byteOf, 7, (Option.some FieldType.int)), (RX10, yX10_feed, cX10_feed, 9, (Option.some FieldType.int)), (RX10, yX10_end, cX10_end, 2, (Option.some FieldType.boolean)), (RX10, yX10_byteAt, cX10_byteAt, 2, (Option.some FieldType.int)), (RX10, yX10_isDigit, cX10_isDigit, 1, (Option.some FieldType.boolean)), (RX10, yX10_isSmall, cX10_isSmall, 1, (Option.some FieldType.boolean)), (RX10, yX10_digits, cX10_digits, 4, (Option.some FieldType.int)), (RX10, yX10_most, cX10_most, 1, (Option.some FieldType.int)), (RX10, yX10_item, cX10_item, 5, (Option.some FieldType.int)), (RX10, yX10_isLikeRead, cX10_isLikeRead, 4, (Option.some FieldType.boolean)), (RX10, yX10_names, cX10_names, 5, (Option.some FieldType.int)), (RX10, yX10_blanks, cX10_blanks, 3, (Option.some FieldType.int)), (RX10, yX10_fault, cX10_fault, 3, (Option.some FieldType.int)), (RX10, yX10_tell, cX10_tell, 4, (Option.none : Option FieldType)), (RX10, yX10_report, cX10_report, 1, (Option.some FieldType.int)), (RX10, yX10_isReport, cX10_isReport, 2, (Option.some FieldType.boolean)), (RX10, yX10_correct, cX10_correct, 2, (Option.some FieldType.boolean)), (RX10, yX10_deny, cX10_deny, 4, (Option.some FieldType.boolean)), (RX10, yX10_rowFor, cX10_rowFor, 6, (Option.some FieldType.int)), (RX10, yX10_isKnown, cX10_isKnown, 3, (Option.some FieldType.boolean)), (RX10, yX10_know, cX10_know, 4, (Option.none : Option FieldType)), (RX10, yX10_has, cX10_has, 3, (Option.some FieldType.boolean)), (RX10, yX10_get, cX10_get, 3, (Option.some FieldType.int)), (RX10, yX10_upperOf, cX10_upperOf, 2, (Option.some FieldType.int)), (RX10, yX10_field, cX10_field, 5, (Option.some FieldType.int)), (RX10, yX10_upper, cX10_upper, 4, (Option.some FieldType.int)), (RX10, yX10_letter, cX10_letter, 6, (Option.some FieldType.int)), (RX10, yX10_hand, cX10_hand, 4, (Option.some FieldType.boolean)), (RX10, yX10_opens, cX10_opens, 2, (Option.some FieldType.boolean)), (RX10, yX10_price, cX10_price, 2, (Option.some FieldType.boolean)), (RX10, yX10_isName, cX10_isName, 7, (Option.some FieldType.boolean)), (RX10, yX10_hasName, cX10_hasName, 6, (Option.some FieldType.boolean)), (RX10, yX10_namesOff, cX10_namesOff, 8, (Option.some FieldType.int)), (RX10, yX10_pairOf, cX10_pairOf, 4, (Option.some FieldType.int)), (RX10, yX10_pair, cX10_pair, 4, (Option.some FieldType.int)), (RX10, yX10_joining, cX10_joining, 6, (Option.some FieldType.int)), (RX10, yX10_place, cX10_place, 6, (Option.none : Option FieldType)), (RX10, yX10_groupAll, cX10_groupAll, 4, (Option.some FieldType.boolean)), (RX10, yX10_placeOf, cX10_placeOf, 3, (Option.some FieldType.int)), (RX10, yX10_group, cX10_group, 5, (Option.some FieldType.int)), (RX10, yX10_cost, cX10_cost, 2, (Option.some FieldType.int)), (RX10, yX10_groups, cX10_groups, 2, (Option.some FieldType.int)), (RX10, yX10_common, cX10_common, 6, (Option.some FieldType.int)), (RX10, yX10_span, cX10_span, 6, (Option.some FieldType.int)), (RX10, yX10_happening, cX10_happening, 7, (Option.some FieldType.int)), (RX10, yX10_at, cX10_at, 5, (Option.some FieldType.int)), (RX10, yX10_shapeOf, cX10_shapeOf, 4, (Option.some FieldType.int)), (RX10, yX10_shape, cX10_shape, 3, (Option.some FieldType.int)), (RX10, yX10_misfit, cX10_misfit, 2, (Option.some FieldType.int)), (RX10, yX10_costOf, cX10_costOf, 8, (Option.some FieldType.int)), (RX10, yX10_tryForms, cX10_tryForms, 6, (Option.none : Option FieldType)), (RX10, yX10_findForms, cX10_findForms, 5, (Option.none : Option FieldType)), (RX10, yX10_form, cX10_form, 3, (Option.some FieldType.int)), (RX10, yX10_forms, cX10_forms, 2, (Option.some FieldType.int)), (RX10, yX10_count, cX10_count, 6, (Option.some FieldType.int)), (RJ6, yJ6_bitCount_0f7a4, cJ6_bitCount_0f7a4, 1, (Option.some FieldType.int)), (RL, yL_law, cL_law, 4, (Option.some FieldType.boolean))]
def ts_LL : List (List Nat) := [[], [], [], [], [], [], [], [], [], [], [], [], [], [], [], [], [], [], [], [], [], [], [], [], [], [8], [], [], [5, 8, 10], [], [], [], [], [], [], [], [], [], [], [], [], [], [], [], [], [], [], [], [], [], [], [], [], [], [], [], [], [], [], [], [], [], [], [], [], [], [], [], [], [], [], [], [], [], [], [], [], [], [], [], [], [], [], [], [], [], [], [], [], [], [], [], [], [], [], [], [], [], [], [], [], [], [], [], [], [], [], [], [], [], [], [], [], [], [], [], [], [], [], [], [], [], [], [], [], [], [], [], [], [], [], [], [], [], [], [], [], [], [], [], [], [], [], [], [], [], [], [], [], [], [], [], [], [], [], [], [], [], [], [], [], [], [], [], [], [], [], [], [], [], [], [], [], [], [], []]
end
section
/-! A small machine over numbers: the instructions that the class, the reference and the law use, on a heap of whole numbers, longs and references. -/
abbrev tm_Lo : Type := List (Option Value)
abbrev tm_G : Type := Nat × Nat × (Nat → Nat × Nat)
abbrev tm_H : Type := tm_G × (Nat → Nat → Int32) × (Nat → Nat → Int64) × (Nat → Nat → Option Nat)
abbrev tm_X : Type := Nat × Nat × Nat × Nat
/-- one place of a table of rows -/
def up2 {α : Type} (f : Nat → Nat → α) (a i : Nat) (v : α) : Nat → Nat → α := fun b j => if b = a ∧ j = i then v else f b j
/-- a whole row -/
def upr {α : Type} (f : Nat → α) (a : Nat) (v : α) : Nat → α := fun b => if b = a then v else f b
/-- an index within an array's length -/
abbrev tm_in (i : Int32) (n : Nat) : Prop := 0 ≤ i.toInt ∧ i.toInt < (n : Int)
/-- an index as a place -/
def tm_ix (i : Int32) : Nat := (i.toInt).toNat
def tm_tg (pc : Nat) (off : Int) : Nat := ((pc : Int) + off).toNat
/-- the kinds of cells: 0 an object of a class, 1 int[], 2 long[], 3 int[][], 4 Telling[], 5 Facts[], 6 char[] -/
def tm_ldI (ls : tm_Lo) (k : Nat) : Option Value := match ls[k]? with
  | some (some (.int v)) => some (.int v)
  | _ => none
def tm_ldJ (ls : tm_Lo) (k : Nat) : Option Value := match ls[k]? with
  | some (some (.long v)) => some (.long v)
  | _ => none
def tm_ldA (ls : tm_Lo) (k : Nat) : Option Value := match ls[k]? with
  | some (some (.ref v)) => some (.ref v)
  | some (some .null) => some .null
  | _ => none
def tm_stI (ls : tm_Lo) (k : Nat) (st : List Value) : Option (tm_Lo × List Value) := match st with
  | .int v :: r => if k < ls.length then some (ls.set k (some (.int v)), r) else none
  | _ => none
def tm_stJ (ls : tm_Lo) (k : Nat) (st : List Value) : Option (tm_Lo × List Value) := match st with
  | .long v :: r => if k + 1 < ls.length then some ((ls.set k (some (.long v))).set (k + 1) none, r) else none
  | _ => none
def tm_stA (ls : tm_Lo) (k : Nat) (st : List Value) : Option (tm_Lo × List Value) := match st with
  | .ref v :: r => if k < ls.length then some (ls.set k (some (.ref v)), r) else none
  | .null :: r => if k < ls.length then some (ls.set k (some .null), r) else none
  | _ => none
def tm_bin (f : Int32 → Int32 → Option Int32) (st : List Value) : Option (List Value) := match st with
  | .int y :: .int x :: r => (f x y).map (fun z => .int z :: r)
  | _ => none
def tm_br1 (f : Int32 → Bool) (t e : Nat) (st : List Value) : Option (Nat × List Value) := match st with
  | .int x :: r => some (if f x then t else e, r)
  | _ => none
def tm_br2 (f : Int32 → Int32 → Bool) (t e : Nat) (st : List Value) : Option (Nat × List Value) := match st with
  | .int y :: .int x :: r => some (if f x y then t else e, r)
  | _ => none
def tm_brN (t e : Nat) (st : List Value) : Option (Nat × List Value) := match st with
  | .null :: r => some (t, r)
  | .ref _ :: r => some (e, r)
  | _ => none
def tm_cmp (c : Jvm.ClassFile.Cond) (x y : Int32) : Bool := match c with
  | .eq => decide (x = y)
  | .ne => decide (¬ x = y)
  | .lt => decide (x < y)
  | .ge => decide (y ≤ x)
  | .gt => decide (y < x)
  | .le => decide (x ≤ y)
def tm_tsw (d lo hi : Int) (offs : Array Int) (pc : Nat) (x : Int32) : Nat := if x.toInt < lo ∨ hi < x.toInt then tm_tg pc d else tm_tg pc (offs.toList.getD (x.toInt - lo).toNat 0)
def tm_sw (f : Int32 → Nat) (ls : tm_Lo) (st : List Value) : Option (Nat × tm_Lo × List Value) := match st with
  | .int z :: r => some (f z, ls, r)
  | _ => none
def tm_cat2 (st : List Value) : Option (List Value) := match st with
  | v :: r => if v.category = 1 then some (v :: v :: r) else none
  | _ => none
def tm_dp2 (st : List Value) : Option (List Value) := match st with
  | v :: w :: r => if v.category = 1 ∧ w.category = 1 then some (v :: w :: v :: w :: r) else none
  | _ => none
def tm_pop (st : List Value) : Option (List Value) := match st with
  | v :: r => if v.category = 1 then some r else none
  | _ => none
def tm_ladd (st : List Value) : Option (List Value) := match st with
  | .long y :: .long x :: r => some (.long (x + y) :: r)
  | _ => none
def tm_lcmp (st : List Value) : Option (List Value) := match st with
  | .long y :: .long x :: r => some (.int (lg_cmp x y) :: r)
  | _ => none
def tm_lsh (f : Int64 → Int32 → Int64) (st : List Value) : Option (List Value) := match st with
  | .int y :: .long x :: r => some (.long (f x y) :: r)
  | _ => none
def tm_i2l (st : List Value) : Option (List Value) := match st with
  | .int x :: r => some (.long x.toInt64 :: r)
  | _ => none
def tm_l2i (st : List Value) : Option (List Value) := match st with
  | .long x :: r => some (.int x.toInt32 :: r)
  | _ => none
def tm_ineg (st : List Value) : Option (List Value) := match st with
  | .int x :: r => some (.int (-x) :: r)
  | _ => none
def tm_ld (pc n : Nat) (ls : tm_Lo) (st : List Value) (v : Option Value) : Option (Nat × tm_Lo × List Value) := v.map (fun w => (pc + n, ls, w :: st))
def tm_st (pc n : Nat) (q : Option (tm_Lo × List Value)) : Option (Nat × tm_Lo × List Value) := q.map (fun w => (pc + n, w.1, w.2))
def tm_sk (pc n : Nat) (ls : tm_Lo) (q : Option (List Value)) : Option (Nat × tm_Lo × List Value) := q.map (fun w => (pc + n, ls, w))
def tm_jp (ls : tm_Lo) (q : Option (Nat × List Value)) : Option (Nat × tm_Lo × List Value) := q.map (fun w => (w.1, ls, w.2))
def tm_inc (ls : tm_Lo) (k : Nat) (c : Int) : Option tm_Lo := match ls[k]? with
  | some (some (.int v)) => some (ls.set k (some (.int (v + Int32.ofInt c))))
  | _ => none
/-- the instructions that don't look at the heap -/
def tm_q (i : Instr) (x : tm_X) (pc : Nat) (ls : tm_Lo) (st : List Value) : Option (Nat × tm_Lo × List Value) := match i with
  | .iconst n => some (pc + 1, ls, .int (Int32.ofInt n) :: st)
  | .bipush n => some (pc + 2, ls, .int (Int8.ofInt n).toInt32 :: st)
  | .sipush n => some (pc + 3, ls, .int (Int16.ofInt n).toInt32 :: st)
  | .ldc _ => some (pc + 2, ls, .int (Int32.ofNat x.2.1) :: st)
  | .ldc_w _ => some (pc + 3, ls, .int (Int32.ofNat x.2.1) :: st)
  | .ldc2_w _ => some (pc + 3, ls, .long (Int64.ofNat x.2.1) :: st)
  | .lconst n => some (pc + 1, ls, .long (Int64.ofNat (n : Nat)) :: st)
  | .aconst_null => some (pc + 1, ls, .null :: st)
  | .iload k => tm_ld pc 2 ls st (tm_ldI ls k)
  | .iload_n k => tm_ld pc 1 ls st (tm_ldI ls (k : Nat))
  | .lload k => tm_ld pc 2 ls st (tm_ldJ ls k)
  | .lload_n k => tm_ld pc 1 ls st (tm_ldJ ls (k : Nat))
  | .aload k => tm_ld pc 2 ls st (tm_ldA ls k)
  | .aload_n k => tm_ld pc 1 ls st (tm_ldA ls (k : Nat))
  | .istore k => tm_st pc 2 (tm_stI ls k st)
  | .istore_n k => tm_st pc 1 (tm_stI ls (k : Nat) st)
  | .lstore k => tm_st pc 2 (tm_stJ ls k st)
  | .lstore_n k => tm_st pc 1 (tm_stJ ls (k : Nat) st)
  | .astore k => tm_st pc 2 (tm_stA ls k st)
  | .astore_n k => tm_st pc 1 (tm_stA ls (k : Nat) st)
  | .iinc k c => (tm_inc ls k c).map (fun w => (pc + 3, w, st))
  | .iadd => tm_sk pc 1 ls (tm_bin (fun a b => some (a + b)) st)
  | .isub => tm_sk pc 1 ls (tm_bin (fun a b => some (a - b)) st)
  | .imul => tm_sk pc 1 ls (tm_bin (fun a b => some (a * b)) st)
  | .iand => tm_sk pc 1 ls (tm_bin (fun a b => some (a &&& b)) st)
  | .ior => tm_sk pc 1 ls (tm_bin (fun a b => some (a ||| b)) st)
  | .ixor => tm_sk pc 1 ls (tm_bin (fun a b => some (a ^^^ b)) st)
  | .ishl => tm_sk pc 1 ls (tm_bin (fun a b => some (a <<< (b &&& 31))) st)
  | .ishr => tm_sk pc 1 ls (tm_bin (fun a b => some (a >>> (b &&& 31))) st)
  | .iushr => tm_sk pc 1 ls (tm_bin (fun a b => some (a.toUInt32 >>> (b.toUInt32 &&& Int32.toUInt32 31)).toInt32) st)
  | .idiv => tm_sk pc 1 ls (tm_bin (fun a b => if b = 0 then none else some (a / b)) st)
  | .irem => tm_sk pc 1 ls (tm_bin (fun a b => if b = 0 then none else some (a - a / b * b)) st)
  | .ineg => tm_sk pc 1 ls (tm_ineg st)
  | .ladd => tm_sk pc 1 ls (tm_ladd st)
  | .lshl => tm_sk pc 1 ls (tm_lsh (fun a b => a <<< (b.toInt64 &&& 63)) st)
  | .lshr => tm_sk pc 1 ls (tm_lsh (fun a b => a >>> (b.toInt64 &&& 63)) st)
  | .lcmp => tm_sk pc 1 ls (tm_lcmp st)
  | .i2l => tm_sk pc 1 ls (tm_i2l st)
  | .l2i => tm_sk pc 1 ls (tm_l2i st)
  | .dup => tm_sk pc 1 ls (tm_cat2 st)
  | .dup2 => tm_sk pc 1 ls (tm_dp2 st)
  | .pop => tm_sk pc 1 ls (tm_pop st)
  | .goto off => some (tm_tg pc off, ls, st)
  | .if_icmp c off => tm_jp ls (tm_br2 (tm_cmp c) (tm_tg pc off) (pc + 3) st)
  | .ifCond c off => tm_jp ls (tm_br1 (fun z => tm_cmp c z 0) (tm_tg pc off) (pc + 3) st)
  | .ifnull off => tm_jp ls (tm_brN (tm_tg pc off) (pc + 3) st)
  | .ifnonnull off => tm_jp ls (tm_brN (pc + 3) (tm_tg pc off) st)
  | .tableswitch d lo hi offs => tm_sw (tm_tsw d lo hi offs pc) ls st
  | _ => none
def tm_rf (r : Option Nat) : Value := match r with
  | none => .null
  | some a => .ref a
/-- a field's value, by its kind: 0 int, 1 long, 2 a reference, 3 boolean -/
def tm_fv (t a k : Nat) (h : tm_H) : Value := if t = 1 then .long (h.2.2.1 a k) else if t = 2 then tm_rf (h.2.2.2 a k) else .int (h.2.1 a k)
def tm_pf (t c k : Nat) (st : List Value) (h : tm_H) : Option (List Value × tm_H) := match t, st with
  | 0, .int v :: .ref a :: r => if h.1.2.2 a = (0, c) then some (r, (h.1, up2 h.2.1 a k v, h.2.2.1, h.2.2.2)) else none
  | 1, .long v :: .ref a :: r => if h.1.2.2 a = (0, c) then some (r, (h.1, h.2.1, up2 h.2.2.1 a k v, h.2.2.2)) else none
  | 2, .ref v :: .ref a :: r => if h.1.2.2 a = (0, c) then some (r, (h.1, h.2.1, h.2.2.1, up2 h.2.2.2 a k (some v))) else none
  | 3, .int v :: .ref a :: r => if h.1.2.2 a = (0, c) ∧ (v = 0 ∨ v = 1) then some (r, (h.1, up2 h.2.1 a k v, h.2.2.1, h.2.2.2)) else none
  | _, _ => none
def tm_gf (t c k : Nat) (st : List Value) (h : tm_H) : Option (List Value) := match st with
  | .ref a :: r => if h.1.2.2 a = (0, c) then some (tm_fv t a k h :: r) else none
  | _ => none
def tm_al (q : Nat) (f : Nat → Nat → Value) (st : List Value) (h : tm_H) : Option (List Value) := match st with
  | .int i :: .ref a :: r => if (h.1.2.2 a).1 = q ∧ tm_in i (h.1.2.2 a).2 then some (f a (tm_ix i) :: r) else none
  | _ => none
def tm_ala (st : List Value) (h : tm_H) : Option (List Value) := match st with
  | .int i :: .ref a :: r => if ((h.1.2.2 a).1 = 3 ∨ (h.1.2.2 a).1 = 4 ∨ (h.1.2.2 a).1 = 5) ∧ tm_in i (h.1.2.2 a).2 then some (tm_rf (h.2.2.2 a (tm_ix i)) :: r) else none
  | _ => none
def tm_len (st : List Value) (h : tm_H) : Option (List Value) := match st with
  | .ref a :: r => if (h.1.2.2 a).1 = 1 then some (.int (Int32.ofNat (h.1.2.2 a).2) :: r) else none
  | _ => none
def tm_asI (st : List Value) (h : tm_H) : Option (List Value × tm_H) := match st with
  | .int v :: .int i :: .ref a :: r => if 3 ≤ a ∧ (h.1.2.2 a).1 = 1 ∧ tm_in i (h.1.2.2 a).2 then some (r, (h.1, up2 h.2.1 a (tm_ix i) v, h.2.2.1, h.2.2.2)) else none
  | _ => none
def tm_asJ (st : List Value) (h : tm_H) : Option (List Value × tm_H) := match st with
  | .long v :: .int i :: .ref a :: r => if 3 ≤ a ∧ (h.1.2.2 a).1 = 2 ∧ tm_in i (h.1.2.2 a).2 then some (r, (h.1, h.2.1, up2 h.2.2.1 a (tm_ix i) v, h.2.2.2)) else none
  | _ => none
def tm_asA (st : List Value) (h : tm_H) : Option (List Value × tm_H) := match st with
  | .ref v :: .int i :: .ref a :: r => if 3 ≤ a ∧ (((h.1.2.2 a).1 = 4 ∧ h.1.2.2 v = (0, 8)) ∨ ((h.1.2.2 a).1 = 5 ∧ h.1.2.2 v = (0, 0))) ∧ tm_in i (h.1.2.2 a).2 then some (r, (h.1, h.2.1, h.2.2.1, up2 h.2.2.2 a (tm_ix i) (some v))) else none
  | _ => none
/-- a new cell of a kind, n slots -/
def tm_nw (q : Nat × Nat) (n : Nat) (h : tm_H) : tm_H := ((h.1.1 + 1, h.1.2.1 + n, upr h.1.2.2 h.1.1 q), upr h.2.1 h.1.1 (fun _ => 0), upr h.2.2.1 h.1.1 (fun _ => 0), upr h.2.2.2 h.1.1 (fun _ => none))
def tm_na (q : Nat) (st : List Value) (h : tm_H) : Option (List Value × tm_H) := match st with
  | .int n :: r => if ¬ n < 0 ∧ (tm_ix n) ≤ 100000 then some (.ref h.1.1 :: r, tm_nw (q, (tm_ix n)) (tm_ix n) h) else none
  | _ => none
/-- new int[n][k]: the outer array, then its rows -/
def tm_mn (n k : Nat) (h : tm_H) : tm_H := ((h.1.1 + 1 + n, h.1.2.1 + n + n * k, fun b => if b = h.1.1 then (3, n) else if h.1.1 < b ∧ b ≤ h.1.1 + n then (1, k) else h.1.2.2 b),
  (fun b => if h.1.1 ≤ b ∧ b ≤ h.1.1 + n then (fun _ => 0) else h.2.1 b), (fun b => if h.1.1 ≤ b ∧ b ≤ h.1.1 + n then (fun _ => 0) else h.2.2.1 b),
  (fun b => if b = h.1.1 then (fun i => if i < n then some (h.1.1 + 1 + i) else none) else if h.1.1 < b ∧ b ≤ h.1.1 + n then (fun _ => none) else h.2.2.2 b))
def tm_mna (st : List Value) (h : tm_H) : Option (List Value × tm_H) := match st with
  | .int k :: .int n :: r => if ¬ n < 0 ∧ ¬ k < 0 ∧ (tm_ix n) ≤ 1000 ∧ (tm_ix k) ≤ 1000 then some (.ref h.1.1 :: r, tm_mn (tm_ix n) (tm_ix k) h) else none
  | _ => none
/-- System.arraycopy of int arrays -/
def tm_cp (st : List Value) (h : tm_H) : Option (List Value × tm_H) := match st with
  | .int n :: .int dp :: .ref a :: .int sp :: .ref b :: r => if 3 ≤ a ∧ 3 ≤ b ∧ (h.1.2.2 a).1 = 1 ∧ (h.1.2.2 b).1 = 1 ∧ ¬ sp < 0 ∧ ¬ dp < 0 ∧ ¬ n < 0 ∧ (tm_ix sp) + (tm_ix n) ≤ (h.1.2.2 b).2 ∧ (tm_ix dp) + (tm_ix n) ≤ (h.1.2.2 a).2 ∧ (r.map Value.category).sum ≤ 8 then
      some (r, (h.1, upr h.2.1 a (va_cpy (h.2.1 b) (h.2.1 a) (tm_ix sp) (tm_ix dp) (tm_ix n)), h.2.2.1, h.2.2.2)) else none
  | _ => none
def tm_oi (st : List Value) : Option (List Value) := match st with
  | .ref _ :: r => if (r.map Value.category).sum ≤ 8 then some r else none
  | _ => none
def tm_hk (pc n : Nat) (ls : tm_Lo) (h : tm_H) (q : Option (List Value)) : Option (Nat × tm_Lo × List Value × tm_H) := q.map (fun w => (pc + n, ls, w, h))
def tm_hs (pc n : Nat) (ls : tm_Lo) (q : Option (List Value × tm_H)) : Option (Nat × tm_Lo × List Value × tm_H) := q.map (fun w => (pc + n, ls, w.1, w.2))
/-- the instructions that look at the heap, or change it -/
def tm_h (i : Instr) (x : tm_X) (pc : Nat) (ls : tm_Lo) (st : List Value) (h : tm_H) : Option (Nat × tm_Lo × List Value × tm_H) := match i with
  | .getfield _ => tm_hk pc 3 ls h (tm_gf x.1 x.2.1 x.2.2.1 st h)
  | .putfield _ => tm_hs pc 3 ls (tm_pf x.1 x.2.1 x.2.2.1 st h)
  | .iaload => tm_hk pc 1 ls h (tm_al 1 (fun a k => .int (h.2.1 a k)) st h)
  | .caload => tm_hk pc 1 ls h (tm_al 6 (fun a k => .int (h.2.1 a k)) st h)
  | .laload => tm_hk pc 1 ls h (tm_al 2 (fun a k => .long (h.2.2.1 a k)) st h)
  | .aaload => tm_hk pc 1 ls h (tm_ala st h)
  | .arraylength => tm_hk pc 1 ls h (tm_len st h)
  | .iastore => tm_hs pc 1 ls (tm_asI st h)
  | .lastore => tm_hs pc 1 ls (tm_asJ st h)
  | .aastore => tm_hs pc 1 ls (tm_asA st h)
  | .new _ => some (pc + 3, ls, .ref h.1.1 :: st, tm_nw (0, x.2.1) x.2.2.1 h)
  | .newarray _ => tm_hs pc 2 ls (tm_na x.1 st h)
  | .anewarray _ => tm_hs pc 3 ls (tm_na x.1 st h)
  | .multianewarray _ _ => tm_hs pc 4 ls (tm_mna st h)
  | .getstatic _ => some (pc + 3, ls, .ref x.1 :: st, h)
  | _ => (tm_q i x pc ls st).map (fun w => (w.1, w.2.1, w.2.2, h))
/-- locals at a method's entry -/
def tm_ent (n : Nat) (as : List Value) : tm_Lo := (as.flatMap (fun v => if v.category = 2 then [some v, none] else [some v])) ++ List.replicate (n - (as.flatMap (fun v => if v.category = 2 then [some v, none] else [some v])).length) none
/-- an answer, by the method's kind: 0 void, 1 int, 2 long, 3 a reference, 4 boolean -/
def tm_ret (i : Instr) (k : Nat) (st : List Value) : Option (Option Value) := match i, k, st with
  | .return_, 0, [] => some none
  | .ireturn, 1, [.int v] => some (some (.int v))
  | .ireturn, 4, [.int v] => if v = 0 ∨ v = 1 then some (some (.int v)) else none
  | .lreturn, 2, [.long v] => some (some (.long v))
  | .areturn, 3, [.ref a] => some (some (.ref a))
  | .areturn, 3, [.null] => some (some .null)
  | _, _, _ => none
def tm_isRet (i : Instr) : Bool := match i with
  | .return_ => true
  | .ireturn => true
  | .lreturn => true
  | .areturn => true
  | _ => false
def tm_isInv (i : Instr) : Bool := match i with
  | .invokestatic _ => true
  | .invokevirtual _ => true
  | .invokespecial _ => true
  | _ => false
end
section
def op_0 : List (Nat × Instr × tm_X) := [(0, .aload_n 0, (0, 0, 0, 0)), (1, .invokespecial 3, (4, 0, 0, 0)), (4, .aload_n 0, (0, 0, 0, 0)), (5, .iconst 0, (0, 0, 0, 0)), (6, .putfield 9, (0, 0, 0, 0)), (9, .aload_n 0, (0, 0, 0, 0)), (10, .iconst 0, (0, 0, 0, 0)), (11, .putfield 15, (0, 0, 1, 0)), (14, .aload_n 0, (0, 0, 0, 0)), (15, .iconst 5, (0, 0, 0, 0)), (16, .newarray .int, (1, 0, 0, 0)), (18, .putfield 18, (2, 0, 2, 0)), (21, .aload_n 0, (0, 0, 0, 0)), (22, .iconst 3, (0, 0, 0, 0)), (23, .newarray .int, (1, 0, 0, 0)), (25, .putfield 22, (2, 0, 3, 0)), (28, .return_, (0, 0, 0, 0))]
def op_1 : List (Nat × Instr × tm_X) := [(0, .aload_n 0, (0, 0, 0, 0)), (1, .iconst 0, (0, 0, 0, 0)), (2, .putfield 9, (0, 0, 0, 0)), (5, .aload_n 0, (0, 0, 0, 0)), (6, .getfield 18, (2, 0, 2, 0)), (9, .iconst 3, (0, 0, 0, 0)), (10, .iconst 0, (0, 0, 0, 0)), (11, .iastore, (0, 0, 0, 0)), (12, .return_, (0, 0, 0, 0))]
def op_2 : List (Nat × Instr × tm_X) := [(0, .aload_n 0, (0, 0, 0, 0)), (1, .getfield 9, (0, 0, 0, 0)), (4, .ireturn, (0, 0, 0, 0))]
def op_3 : List (Nat × Instr × tm_X) := [(0, .iload_n 1, (0, 0, 0, 0)), (1, .ifCond .lt 24, (0, 0, 0, 0)), (4, .iload_n 1, (0, 0, 0, 0)), (5, .iconst 5, (0, 0, 0, 0)), (6, .if_icmp .ge 19, (0, 0, 0, 0)), (9, .aload_n 0, (0, 0, 0, 0)), (10, .getfield 9, (0, 0, 0, 0)), (13, .iload_n 1, (0, 0, 0, 0)), (14, .ishr, (0, 0, 0, 0)), (15, .iconst 1, (0, 0, 0, 0)), (16, .iand, (0, 0, 0, 0)), (17, .iconst 1, (0, 0, 0, 0)), (18, .if_icmp .ne 7, (0, 0, 0, 0)), (21, .iconst 1, (0, 0, 0, 0)), (22, .goto 4, (0, 0, 0, 0)), (25, .iconst 0, (0, 0, 0, 0)), (26, .ireturn, (0, 0, 0, 0))]
def op_4 : List (Nat × Instr × tm_X) := [(0, .aload_n 0, (0, 0, 0, 0)), (1, .iload_n 1, (0, 0, 0, 0)), (2, .invokevirtual 25, (2, 3, 2, 0)), (5, .ifCond .eq 12, (0, 0, 0, 0)), (8, .aload_n 0, (0, 0, 0, 0)), (9, .getfield 18, (2, 0, 2, 0)), (12, .iload_n 1, (0, 0, 0, 0)), (13, .iaload, (0, 0, 0, 0)), (14, .goto 4, (0, 0, 0, 0)), (17, .iconst (-1), (0, 0, 0, 0)), (18, .ireturn, (0, 0, 0, 0))]
def op_5 : List (Nat × Instr × tm_X) := [(0, .aload_n 0, (0, 0, 0, 0)), (1, .iconst 2, (0, 0, 0, 0)), (2, .invokevirtual 25, (2, 3, 2, 0)), (5, .ifCond .eq 10, (0, 0, 0, 0)), (8, .aload_n 0, (0, 0, 0, 0)), (9, .getfield 15, (0, 0, 1, 0)), (12, .goto 4, (0, 0, 0, 0)), (15, .iconst (-1), (0, 0, 0, 0)), (16, .ireturn, (0, 0, 0, 0))]
def op_6 : List (Nat × Instr × tm_X) := [(0, .iload_n 1, (0, 0, 0, 0)), (1, .ifCond .lt 27, (0, 0, 0, 0)), (4, .iload_n 1, (0, 0, 0, 0)), (5, .iconst 3, (0, 0, 0, 0)), (6, .if_icmp .ge 22, (0, 0, 0, 0)), (9, .iload_n 1, (0, 0, 0, 0)), (10, .aload_n 0, (0, 0, 0, 0)), (11, .getfield 18, (2, 0, 2, 0)), (14, .iconst 3, (0, 0, 0, 0)), (15, .iaload, (0, 0, 0, 0)), (16, .if_icmp .ge 12, (0, 0, 0, 0)), (19, .aload_n 0, (0, 0, 0, 0)), (20, .getfield 22, (2, 0, 3, 0)), (23, .iload_n 1, (0, 0, 0, 0)), (24, .iaload, (0, 0, 0, 0)), (25, .goto 4, (0, 0, 0, 0)), (28, .iconst (-1), (0, 0, 0, 0)), (29, .ireturn, (0, 0, 0, 0))]
def op_7 : List (Nat × Instr × tm_X) := [(0, .aload_n 0, (0, 0, 0, 0)), (1, .iload_n 1, (0, 0, 0, 0)), (2, .invokevirtual 29, (2, 6, 2, 0)), (5, .istore_n 3, (0, 0, 0, 0)), (6, .iload_n 3, (0, 0, 0, 0)), (7, .iconst (-1), (0, 0, 0, 0)), (8, .if_icmp .eq 13, (0, 0, 0, 0)), (11, .iload_n 2, (0, 0, 0, 0)), (12, .ifCond .lt 9, (0, 0, 0, 0)), (15, .iload_n 2, (0, 0, 0, 0)), (16, .bipush 6, (0, 0, 0, 0)), (18, .if_icmp .lt 5, (0, 0, 0, 0)), (21, .iconst (-1), (0, 0, 0, 0)), (22, .ireturn, (0, 0, 0, 0)), (23, .iload_n 3, (0, 0, 0, 0)), (24, .iconst 5, (0, 0, 0, 0)), (25, .iload_n 2, (0, 0, 0, 0)), (26, .imul, (0, 0, 0, 0)), (27, .ishr, (0, 0, 0, 0)), (28, .bipush 31, (0, 0, 0, 0)), (30, .iand, (0, 0, 0, 0)), (31, .istore 4, (0, 0, 0, 0)), (33, .iload 4, (0, 0, 0, 0)), (35, .ifCond .ne 7, (0, 0, 0, 0)), (38, .iconst (-1), (0, 0, 0, 0)), (39, .goto 8, (0, 0, 0, 0)), (42, .bipush 96, (0, 0, 0, 0)), (44, .iload 4, (0, 0, 0, 0)), (46, .iadd, (0, 0, 0, 0)), (47, .ireturn, (0, 0, 0, 0))]
def op_8 : List (Nat × Instr × tm_X) := [(0, .iconst 0, (0, 0, 0, 0)), (1, .istore_n 2, (0, 0, 0, 0)), (2, .iload_n 2, (0, 0, 0, 0)), (3, .iconst 3, (0, 0, 0, 0)), (4, .if_icmp .ge 31, (0, 0, 0, 0)), (7, .iload_n 2, (0, 0, 0, 0)), (8, .aload_n 0, (0, 0, 0, 0)), (9, .getfield 18, (2, 0, 2, 0)), (12, .iconst 3, (0, 0, 0, 0)), (13, .iaload, (0, 0, 0, 0)), (14, .if_icmp .ge 21, (0, 0, 0, 0)), (17, .aload_n 0, (0, 0, 0, 0)), (18, .getfield 22, (2, 0, 3, 0)), (21, .iload_n 2, (0, 0, 0, 0)), (22, .iaload, (0, 0, 0, 0)), (23, .iload_n 1, (0, 0, 0, 0)), (24, .if_icmp .ne 5, (0, 0, 0, 0)), (27, .iconst 1, (0, 0, 0, 0)), (28, .ireturn, (0, 0, 0, 0)), (29, .iinc 2 1, (0, 0, 0, 0)), (32, .goto (-30), (0, 0, 0, 0)), (35, .iconst 0, (0, 0, 0, 0)), (36, .ireturn, (0, 0, 0, 0))]
def op_9 : List (Nat × Instr × tm_X) := [(0, .iload_n 1, (0, 0, 0, 0)), (1, .ifCond .lt 27, (0, 0, 0, 0)), (4, .iload_n 1, (0, 0, 0, 0)), (5, .iconst 5, (0, 0, 0, 0)), (6, .if_icmp .ge 22, (0, 0, 0, 0)), (9, .aload_n 0, (0, 0, 0, 0)), (10, .getfield 18, (2, 0, 2, 0)), (13, .iload_n 1, (0, 0, 0, 0)), (14, .iload_n 2, (0, 0, 0, 0)), (15, .iastore, (0, 0, 0, 0)), (16, .aload_n 0, (0, 0, 0, 0)), (17, .dup, (0, 0, 0, 0)), (18, .getfield 9, (0, 0, 0, 0)), (21, .iconst 1, (0, 0, 0, 0)), (22, .iload_n 1, (0, 0, 0, 0)), (23, .ishl, (0, 0, 0, 0)), (24, .ior, (0, 0, 0, 0)), (25, .putfield 9, (0, 0, 0, 0)), (28, .return_, (0, 0, 0, 0))]
def op_10 : List (Nat × Instr × tm_X) := [(0, .aload_n 0, (0, 0, 0, 0)), (1, .iconst 2, (0, 0, 0, 0)), (2, .iload_n 1, (0, 0, 0, 0)), (3, .invokevirtual 33, (2, 9, 3, 0)), (6, .aload_n 0, (0, 0, 0, 0)), (7, .iload_n 2, (0, 0, 0, 0)), (8, .putfield 15, (0, 0, 1, 0)), (11, .return_, (0, 0, 0, 0))]
def op_11 : List (Nat × Instr × tm_X) := [(0, .aload_n 0, (0, 0, 0, 0)), (1, .getfield 18, (2, 0, 2, 0)), (4, .iconst 3, (0, 0, 0, 0)), (5, .iaload, (0, 0, 0, 0)), (6, .istore_n 2, (0, 0, 0, 0)), (7, .iload_n 2, (0, 0, 0, 0)), (8, .ifCond .lt 23, (0, 0, 0, 0)), (11, .iload_n 2, (0, 0, 0, 0)), (12, .iconst 3, (0, 0, 0, 0)), (13, .if_icmp .ge 18, (0, 0, 0, 0)), (16, .aload_n 0, (0, 0, 0, 0)), (17, .getfield 22, (2, 0, 3, 0)), (20, .iload_n 2, (0, 0, 0, 0)), (21, .iload_n 1, (0, 0, 0, 0)), (22, .iastore, (0, 0, 0, 0)), (23, .aload_n 0, (0, 0, 0, 0)), (24, .iconst 3, (0, 0, 0, 0)), (25, .iload_n 2, (0, 0, 0, 0)), (26, .iconst 1, (0, 0, 0, 0)), (27, .iadd, (0, 0, 0, 0)), (28, .invokevirtual 33, (2, 9, 3, 0)), (31, .return_, (0, 0, 0, 0))]
def op_12 : List (Nat × Instr × tm_X) := [(0, .aload_n 0, (0, 0, 0, 0)), (1, .aload_n 0, (0, 0, 0, 0)), (2, .getfield 9, (0, 0, 0, 0)), (5, .iload_n 2, (0, 0, 0, 0)), (6, .iconst (-1), (0, 0, 0, 0)), (7, .ixor, (0, 0, 0, 0)), (8, .iand, (0, 0, 0, 0)), (9, .aload_n 1, (0, 0, 0, 0)), (10, .getfield 9, (0, 0, 0, 0)), (13, .iload_n 2, (0, 0, 0, 0)), (14, .iand, (0, 0, 0, 0)), (15, .ior, (0, 0, 0, 0)), (16, .putfield 9, (0, 0, 0, 0)), (19, .iconst 0, (0, 0, 0, 0)), (20, .istore_n 3, (0, 0, 0, 0)), (21, .iload_n 3, (0, 0, 0, 0)), (22, .iconst 5, (0, 0, 0, 0)), (23, .if_icmp .ge 30, (0, 0, 0, 0)), (26, .iload_n 2, (0, 0, 0, 0)), (27, .iload_n 3, (0, 0, 0, 0)), (28, .ishr, (0, 0, 0, 0)), (29, .iconst 1, (0, 0, 0, 0)), (30, .iand, (0, 0, 0, 0)), (31, .iconst 1, (0, 0, 0, 0)), (32, .if_icmp .ne 15, (0, 0, 0, 0)), (35, .aload_n 0, (0, 0, 0, 0)), (36, .getfield 18, (2, 0, 2, 0)), (39, .iload_n 3, (0, 0, 0, 0)), (40, .aload_n 1, (0, 0, 0, 0)), (41, .getfield 18, (2, 0, 2, 0)), (44, .iload_n 3, (0, 0, 0, 0)), (45, .iaload, (0, 0, 0, 0)), (46, .iastore, (0, 0, 0, 0)), (47, .iinc 3 1, (0, 0, 0, 0)), (50, .goto (-29), (0, 0, 0, 0)), (53, .iload_n 2, (0, 0, 0, 0)), (54, .iconst 2, (0, 0, 0, 0)), (55, .ishr, (0, 0, 0, 0)), (56, .iconst 1, (0, 0, 0, 0)), (57, .iand, (0, 0, 0, 0)), (58, .iconst 1, (0, 0, 0, 0)), (59, .if_icmp .ne 11, (0, 0, 0, 0)), (62, .aload_n 0, (0, 0, 0, 0)), (63, .aload_n 1, (0, 0, 0, 0)), (64, .getfield 15, (0, 0, 1, 0)), (67, .putfield 15, (0, 0, 1, 0)), (70, .iload_n 2, (0, 0, 0, 0)), (71, .iconst 3, (0, 0, 0, 0)), (72, .ishr, (0, 0, 0, 0)), (73, .iconst 1, (0, 0, 0, 0)), (74, .iand, (0, 0, 0, 0)), (75, .iconst 1, (0, 0, 0, 0)), (76, .if_icmp .ne 17, (0, 0, 0, 0)), (79, .aload_n 1, (0, 0, 0, 0)), (80, .getfield 22, (2, 0, 3, 0)), (83, .iconst 0, (0, 0, 0, 0)), (84, .aload_n 0, (0, 0, 0, 0)), (85, .getfield 22, (2, 0, 3, 0)), (88, .iconst 0, (0, 0, 0, 0)), (89, .iconst 3, (0, 0, 0, 0)), (90, .invokestatic 37, (5, 0, 0, 0)), (93, .return_, (0, 0, 0, 0))]
def op_13 : List (Nat × Instr × tm_X) := [(0, .aload_n 0, (0, 0, 0, 0)), (1, .invokespecial 3, (4, 0, 0, 0)), (4, .aload_n 0, (0, 0, 0, 0)), (5, .bipush 10, (0, 0, 0, 0)), (7, .bipush 32, (0, 0, 0, 0)), (9, .multianewarray 9 2, (3, 0, 0, 0)), (13, .putfield 11, (2, 1, 0, 0)), (16, .aload_n 0, (0, 0, 0, 0)), (17, .iconst 3, (0, 0, 0, 0)), (18, .newarray .int, (1, 0, 0, 0)), (20, .putfield 16, (2, 1, 1, 0)), (23, .aload_n 0, (0, 0, 0, 0)), (24, .iconst 0, (0, 0, 0, 0)), (25, .putfield 20, (0, 1, 2, 0)), (28, .aload_n 0, (0, 0, 0, 0)), (29, .iconst 0, (0, 0, 0, 0)), (30, .putfield 24, (0, 1, 3, 0)), (33, .aload_n 0, (0, 0, 0, 0)), (34, .iconst 0, (0, 0, 0, 0)), (35, .putfield 27, (0, 1, 4, 0)), (38, .return_, (0, 0, 0, 0))]
def op_14 : List (Nat × Instr × tm_X) := [(0, .aload_n 0, (0, 0, 0, 0)), (1, .aload_n 1, (0, 0, 0, 0)), (2, .invokevirtual 30, (2, 42, 1, 4)), (5, .bipush 10, (0, 0, 0, 0)), (7, .invokestatic 36, (8, 0, 0, 0)), (10, .putfield 27, (0, 1, 4, 0)), (13, .aload_n 0, (0, 0, 0, 0)), (14, .iconst 0, (0, 0, 0, 0)), (15, .putfield 20, (0, 1, 2, 0)), (18, .aload_n 0, (0, 0, 0, 0)), (19, .iconst 0, (0, 0, 0, 0)), (20, .putfield 24, (0, 1, 3, 0)), (23, .aload_n 0, (0, 0, 0, 0)), (24, .getfield 27, (0, 1, 4, 0)), (27, .ifCond .le 33, (0, 0, 0, 0)), (30, .aload_n 0, (0, 0, 0, 0)), (31, .aload_n 1, (0, 0, 0, 0)), (32, .invokevirtual 42, (2, 15, 2, 1)), (35, .aload_n 0, (0, 0, 0, 0)), (36, .ldc 46, (0, 1000000, 0, 0)), (38, .putfield 24, (0, 1, 3, 0)), (41, .aload_n 0, (0, 0, 0, 0)), (42, .iload_n 2, (0, 0, 0, 0)), (43, .invokevirtual 47, (2, 16, 2, 1)), (46, .aload_n 0, (0, 0, 0, 0)), (47, .iconst 2, (0, 0, 0, 0)), (48, .iload_n 2, (0, 0, 0, 0)), (49, .imul, (0, 0, 0, 0)), (50, .invokevirtual 51, (2, 17, 2, 1)), (53, .aload_n 0, (0, 0, 0, 0)), (54, .iconst 3, (0, 0, 0, 0)), (55, .iload_n 2, (0, 0, 0, 0)), (56, .imul, (0, 0, 0, 0)), (57, .invokevirtual 54, (2, 18, 2, 1)), (60, .return_, (0, 0, 0, 0))]
def op_15 : List (Nat × Instr × tm_X) := [(0, .iconst 0, (0, 0, 0, 0)), (1, .istore_n 2, (0, 0, 0, 0)), (2, .iload_n 2, (0, 0, 0, 0)), (3, .aload_n 0, (0, 0, 0, 0)), (4, .getfield 27, (0, 1, 4, 0)), (7, .if_icmp .ge 71, (0, 0, 0, 0)), (10, .aload_n 1, (0, 0, 0, 0)), (11, .iload_n 2, (0, 0, 0, 0)), (12, .invokevirtual 57, (2, 46, 2, 4)), (15, .istore_n 3, (0, 0, 0, 0)), (16, .iconst 1, (0, 0, 0, 0)), (17, .istore 4, (0, 0, 0, 0)), (19, .iload 4, (0, 0, 0, 0)), (21, .bipush 31, (0, 0, 0, 0)), (23, .if_icmp .gt 49, (0, 0, 0, 0)), (26, .iload 4, (0, 0, 0, 0)), (28, .iload_n 3, (0, 0, 0, 0)), (29, .iconst (-1), (0, 0, 0, 0)), (30, .ixor, (0, 0, 0, 0)), (31, .iand, (0, 0, 0, 0)), (32, .invokestatic 61, (1, 174, 1, 0)), (35, .istore 5, (0, 0, 0, 0)), (37, .iload_n 3, (0, 0, 0, 0)), (38, .iload 4, (0, 0, 0, 0)), (40, .iconst (-1), (0, 0, 0, 0)), (41, .ixor, (0, 0, 0, 0)), (42, .iand, (0, 0, 0, 0)), (43, .invokestatic 61, (1, 174, 1, 0)), (46, .istore 6, (0, 0, 0, 0)), (48, .aload_n 0, (0, 0, 0, 0)), (49, .getfield 11, (2, 1, 0, 0)), (52, .iload_n 2, (0, 0, 0, 0)), (53, .aaload, (0, 0, 0, 0)), (54, .iload 4, (0, 0, 0, 0)), (56, .iconst 1, (0, 0, 0, 0)), (57, .iload 5, (0, 0, 0, 0)), (59, .imul, (0, 0, 0, 0)), (60, .iconst 2, (0, 0, 0, 0)), (61, .iload 6, (0, 0, 0, 0)), (63, .imul, (0, 0, 0, 0)), (64, .iadd, (0, 0, 0, 0)), (65, .iastore, (0, 0, 0, 0)), (66, .iinc 4 1, (0, 0, 0, 0)), (69, .goto (-50), (0, 0, 0, 0)), (72, .iinc 2 1, (0, 0, 0, 0)), (75, .goto (-73), (0, 0, 0, 0)), (78, .return_, (0, 0, 0, 0))]
def op_16 : List (Nat × Instr × tm_X) := [(0, .iconst 1, (0, 0, 0, 0)), (1, .istore_n 2, (0, 0, 0, 0)), (2, .iload_n 2, (0, 0, 0, 0)), (3, .bipush 31, (0, 0, 0, 0)), (5, .if_icmp .gt 25, (0, 0, 0, 0)), (8, .aload_n 0, (0, 0, 0, 0)), (9, .iload_n 1, (0, 0, 0, 0)), (10, .iload_n 2, (0, 0, 0, 0)), (11, .iload_n 2, (0, 0, 0, 0)), (12, .iload_n 2, (0, 0, 0, 0)), (13, .invokevirtual 66, (2, 19, 5, 1)), (16, .ifCond .eq 8, (0, 0, 0, 0)), (19, .aload_n 0, (0, 0, 0, 0)), (20, .iconst 1, (0, 0, 0, 0)), (21, .putfield 20, (0, 1, 2, 0)), (24, .iinc 2 1, (0, 0, 0, 0)), (27, .goto (-25), (0, 0, 0, 0)), (30, .return_, (0, 0, 0, 0))]
def op_17 : List (Nat × Instr × tm_X) := [(0, .iconst 1, (0, 0, 0, 0)), (1, .istore_n 2, (0, 0, 0, 0)), (2, .iload_n 2, (0, 0, 0, 0)), (3, .bipush 31, (0, 0, 0, 0)), (5, .if_icmp .gt 41, (0, 0, 0, 0)), (8, .iload_n 2, (0, 0, 0, 0)), (9, .iconst 1, (0, 0, 0, 0)), (10, .iadd, (0, 0, 0, 0)), (11, .istore_n 3, (0, 0, 0, 0)), (12, .iload_n 3, (0, 0, 0, 0)), (13, .bipush 31, (0, 0, 0, 0)), (15, .if_icmp .gt 25, (0, 0, 0, 0)), (18, .aload_n 0, (0, 0, 0, 0)), (19, .iload_n 1, (0, 0, 0, 0)), (20, .iload_n 2, (0, 0, 0, 0)), (21, .iload_n 3, (0, 0, 0, 0)), (22, .iload_n 3, (0, 0, 0, 0)), (23, .invokevirtual 66, (2, 19, 5, 1)), (26, .ifCond .eq 8, (0, 0, 0, 0)), (29, .aload_n 0, (0, 0, 0, 0)), (30, .iconst 2, (0, 0, 0, 0)), (31, .putfield 20, (0, 1, 2, 0)), (34, .iinc 3 1, (0, 0, 0, 0)), (37, .goto (-25), (0, 0, 0, 0)), (40, .iinc 2 1, (0, 0, 0, 0)), (43, .goto (-41), (0, 0, 0, 0)), (46, .return_, (0, 0, 0, 0))]
def op_18 : List (Nat × Instr × tm_X) := [(0, .iconst 1, (0, 0, 0, 0)), (1, .istore_n 2, (0, 0, 0, 0)), (2, .iload_n 2, (0, 0, 0, 0)), (3, .bipush 31, (0, 0, 0, 0)), (5, .if_icmp .gt 60, (0, 0, 0, 0)), (8, .iload_n 2, (0, 0, 0, 0)), (9, .iconst 1, (0, 0, 0, 0)), (10, .iadd, (0, 0, 0, 0)), (11, .istore_n 3, (0, 0, 0, 0)), (12, .iload_n 3, (0, 0, 0, 0)), (13, .bipush 31, (0, 0, 0, 0)), (15, .if_icmp .gt 44, (0, 0, 0, 0)), (18, .iload_n 3, (0, 0, 0, 0)), (19, .iconst 1, (0, 0, 0, 0)), (20, .iadd, (0, 0, 0, 0)), (21, .istore 4, (0, 0, 0, 0)), (23, .iload 4, (0, 0, 0, 0)), (25, .bipush 31, (0, 0, 0, 0)), (27, .if_icmp .gt 26, (0, 0, 0, 0)), (30, .aload_n 0, (0, 0, 0, 0)), (31, .iload_n 1, (0, 0, 0, 0)), (32, .iload_n 2, (0, 0, 0, 0)), (33, .iload_n 3, (0, 0, 0, 0)), (34, .iload 4, (0, 0, 0, 0)), (36, .invokevirtual 66, (2, 19, 5, 1)), (39, .ifCond .eq 8, (0, 0, 0, 0)), (42, .aload_n 0, (0, 0, 0, 0)), (43, .iconst 3, (0, 0, 0, 0)), (44, .putfield 20, (0, 1, 2, 0)), (47, .iinc 4 1, (0, 0, 0, 0)), (50, .goto (-27), (0, 0, 0, 0)), (53, .iinc 3 1, (0, 0, 0, 0)), (56, .goto (-44), (0, 0, 0, 0)), (59, .iinc 2 1, (0, 0, 0, 0)), (62, .goto (-60), (0, 0, 0, 0)), (65, .return_, (0, 0, 0, 0))]
def op_19 : List (Nat × Instr × tm_X) := [(0, .iload_n 1, (0, 0, 0, 0)), (1, .istore 5, (0, 0, 0, 0)), (3, .iconst 0, (0, 0, 0, 0)), (4, .istore 6, (0, 0, 0, 0)), (6, .iload 6, (0, 0, 0, 0)), (8, .aload_n 0, (0, 0, 0, 0)), (9, .getfield 27, (0, 1, 4, 0)), (12, .if_icmp .ge 57, (0, 0, 0, 0)), (15, .iload 5, (0, 0, 0, 0)), (17, .aload_n 0, (0, 0, 0, 0)), (18, .getfield 24, (0, 1, 3, 0)), (21, .if_icmp .ge 48, (0, 0, 0, 0)), (24, .iload 5, (0, 0, 0, 0)), (26, .aload_n 0, (0, 0, 0, 0)), (27, .getfield 11, (2, 1, 0, 0)), (30, .iload 6, (0, 0, 0, 0)), (32, .aaload, (0, 0, 0, 0)), (33, .iload_n 2, (0, 0, 0, 0)), (34, .iaload, (0, 0, 0, 0)), (35, .aload_n 0, (0, 0, 0, 0)), (36, .getfield 11, (2, 1, 0, 0)), (39, .iload 6, (0, 0, 0, 0)), (41, .aaload, (0, 0, 0, 0)), (42, .iload_n 3, (0, 0, 0, 0)), (43, .iaload, (0, 0, 0, 0)), (44, .aload_n 0, (0, 0, 0, 0)), (45, .getfield 11, (2, 1, 0, 0)), (48, .iload 6, (0, 0, 0, 0)), (50, .aaload, (0, 0, 0, 0)), (51, .iload 4, (0, 0, 0, 0)), (53, .iaload, (0, 0, 0, 0)), (54, .invokestatic 36, (8, 0, 0, 0)), (57, .invokestatic 36, (8, 0, 0, 0)), (60, .iadd, (0, 0, 0, 0)), (61, .istore 5, (0, 0, 0, 0)), (63, .iinc 6 1, (0, 0, 0, 0)), (66, .goto (-60), (0, 0, 0, 0)), (69, .iload 5, (0, 0, 0, 0)), (71, .aload_n 0, (0, 0, 0, 0)), (72, .getfield 24, (0, 1, 3, 0)), (75, .if_icmp .lt 5, (0, 0, 0, 0)), (78, .iconst 0, (0, 0, 0, 0)), (79, .ireturn, (0, 0, 0, 0)), (80, .aload_n 0, (0, 0, 0, 0)), (81, .iload 5, (0, 0, 0, 0)), (83, .putfield 24, (0, 1, 3, 0)), (86, .aload_n 0, (0, 0, 0, 0)), (87, .getfield 16, (2, 1, 1, 0)), (90, .iconst 0, (0, 0, 0, 0)), (91, .iload_n 2, (0, 0, 0, 0)), (92, .iastore, (0, 0, 0, 0)), (93, .aload_n 0, (0, 0, 0, 0)), (94, .getfield 16, (2, 1, 1, 0)), (97, .iconst 1, (0, 0, 0, 0)), (98, .iload_n 3, (0, 0, 0, 0)), (99, .iastore, (0, 0, 0, 0)), (100, .aload_n 0, (0, 0, 0, 0)), (101, .getfield 16, (2, 1, 1, 0)), (104, .iconst 2, (0, 0, 0, 0)), (105, .iload 4, (0, 0, 0, 0)), (107, .iastore, (0, 0, 0, 0)), (108, .iconst 1, (0, 0, 0, 0)), (109, .ireturn, (0, 0, 0, 0))]
def op_20 : List (Nat × Instr × tm_X) := [(0, .iload_n 1, (0, 0, 0, 0)), (1, .ifCond .lt 25, (0, 0, 0, 0)), (4, .iload_n 1, (0, 0, 0, 0)), (5, .aload_n 0, (0, 0, 0, 0)), (6, .getfield 20, (0, 1, 2, 0)), (9, .if_icmp .ge 17, (0, 0, 0, 0)), (12, .iload_n 1, (0, 0, 0, 0)), (13, .iconst 3, (0, 0, 0, 0)), (14, .if_icmp .ge 12, (0, 0, 0, 0)), (17, .aload_n 0, (0, 0, 0, 0)), (18, .getfield 16, (2, 1, 1, 0)), (21, .iload_n 1, (0, 0, 0, 0)), (22, .iaload, (0, 0, 0, 0)), (23, .goto 4, (0, 0, 0, 0)), (26, .iconst (-1), (0, 0, 0, 0)), (27, .ireturn, (0, 0, 0, 0))]
def op_21 : List (Nat × Instr × tm_X) := [(0, .aload_n 0, (0, 0, 0, 0)), (1, .getfield 24, (0, 1, 3, 0)), (4, .ireturn, (0, 0, 0, 0))]
def op_22 : List (Nat × Instr × tm_X) := [(0, .aload_n 0, (0, 0, 0, 0)), (1, .invokespecial 5, (4, 0, 0, 0)), (4, .aload_n 0, (0, 0, 0, 0)), (5, .sipush 1024, (0, 0, 0, 0)), (8, .newarray .long, (2, 0, 0, 0)), (10, .putfield 11, (2, 2, 0, 0)), (13, .aload_n 0, (0, 0, 0, 0)), (14, .sipush 1024, (0, 0, 0, 0)), (17, .newarray .long, (2, 0, 0, 0)), (19, .putfield 15, (2, 2, 1, 0)), (22, .aload_n 0, (0, 0, 0, 0)), (23, .sipush 1024, (0, 0, 0, 0)), (26, .newarray .int, (1, 0, 0, 0)), (28, .putfield 18, (2, 2, 2, 0)), (31, .aload_n 0, (0, 0, 0, 0)), (32, .bipush 10, (0, 0, 0, 0)), (34, .newarray .int, (1, 0, 0, 0)), (36, .putfield 22, (2, 2, 3, 0)), (39, .aload_n 0, (0, 0, 0, 0)), (40, .lconst 0, (0, 0, 0, 0)), (41, .putfield 25, (1, 2, 4, 0)), (44, .aload_n 0, (0, 0, 0, 0)), (45, .iconst 0, (0, 0, 0, 0)), (46, .putfield 29, (0, 2, 5, 0)), (49, .iconst 0, (0, 0, 0, 0)), (50, .istore_n 1, (0, 0, 0, 0)), (51, .iload_n 1, (0, 0, 0, 0)), (52, .bipush 10, (0, 0, 0, 0)), (54, .if_icmp .ge 49, (0, 0, 0, 0)), (57, .aload_n 0, (0, 0, 0, 0)), (58, .getfield 18, (2, 2, 2, 0)), (61, .iconst 1, (0, 0, 0, 0)), (62, .iload_n 1, (0, 0, 0, 0)), (63, .ishl, (0, 0, 0, 0)), (64, .iload_n 1, (0, 0, 0, 0)), (65, .iastore, (0, 0, 0, 0)), (66, .iconst 1, (0, 0, 0, 0)), (67, .istore_n 2, (0, 0, 0, 0)), (68, .iload_n 2, (0, 0, 0, 0)), (69, .iconst 1, (0, 0, 0, 0)), (70, .iload_n 1, (0, 0, 0, 0)), (71, .ishl, (0, 0, 0, 0)), (72, .if_icmp .ge 25, (0, 0, 0, 0)), (75, .aload_n 0, (0, 0, 0, 0)), (76, .getfield 18, (2, 2, 2, 0)), (79, .iconst 1, (0, 0, 0, 0)), (80, .iload_n 1, (0, 0, 0, 0)), (81, .ishl, (0, 0, 0, 0)), (82, .iload_n 2, (0, 0, 0, 0)), (83, .ior, (0, 0, 0, 0)), (84, .aload_n 0, (0, 0, 0, 0)), (85, .getfield 18, (2, 2, 2, 0)), (88, .iload_n 2, (0, 0, 0, 0)), (89, .iaload, (0, 0, 0, 0)), (90, .iastore, (0, 0, 0, 0)), (91, .iinc 2 1, (0, 0, 0, 0)), (94, .goto (-26), (0, 0, 0, 0)), (97, .iinc 1 1, (0, 0, 0, 0)), (100, .goto (-49), (0, 0, 0, 0)), (103, .return_, (0, 0, 0, 0))]
def op_23 : List (Nat × Instr × tm_X) := [(0, .aload_n 0, (0, 0, 0, 0)), (1, .iconst 0, (0, 0, 0, 0)), (2, .iload_n 2, (0, 0, 0, 0)), (3, .invokestatic 33, (7, 0, 0, 0)), (6, .bipush 10, (0, 0, 0, 0)), (8, .invokestatic 39, (8, 0, 0, 0)), (11, .putfield 29, (0, 2, 5, 0)), (14, .iconst 0, (0, 0, 0, 0)), (15, .istore 4, (0, 0, 0, 0)), (17, .iload 4, (0, 0, 0, 0)), (19, .aload_n 0, (0, 0, 0, 0)), (20, .getfield 29, (0, 2, 5, 0)), (23, .if_icmp .ge 17, (0, 0, 0, 0)), (26, .aload_n 0, (0, 0, 0, 0)), (27, .iload 4, (0, 0, 0, 0)), (29, .aload_n 1, (0, 0, 0, 0)), (30, .iload_n 3, (0, 0, 0, 0)), (31, .invokevirtual 42, (2, 25, 4, 2)), (34, .iinc 4 1, (0, 0, 0, 0)), (37, .goto (-20), (0, 0, 0, 0)), (40, .aload_n 0, (0, 0, 0, 0)), (41, .aload_n 1, (0, 0, 0, 0)), (42, .invokevirtual 46, (2, 27, 2, 2)), (45, .aload_n 0, (0, 0, 0, 0)), (46, .getfield 15, (2, 2, 1, 0)), (49, .iconst 0, (0, 0, 0, 0)), (50, .lconst 0, (0, 0, 0, 0)), (51, .lastore, (0, 0, 0, 0)), (52, .iconst 1, (0, 0, 0, 0)), (53, .istore 4, (0, 0, 0, 0)), (55, .iload 4, (0, 0, 0, 0)), (57, .iconst 1, (0, 0, 0, 0)), (58, .aload_n 0, (0, 0, 0, 0)), (59, .getfield 29, (0, 2, 5, 0)), (62, .ishl, (0, 0, 0, 0)), (63, .if_icmp .ge 22, (0, 0, 0, 0)), (66, .aload_n 0, (0, 0, 0, 0)), (67, .getfield 15, (2, 2, 1, 0)), (70, .iload 4, (0, 0, 0, 0)), (72, .aload_n 0, (0, 0, 0, 0)), (73, .iload 4, (0, 0, 0, 0)), (75, .invokevirtual 50, (2, 28, 2, 2)), (78, .lastore, (0, 0, 0, 0)), (79, .iinc 4 1, (0, 0, 0, 0)), (82, .goto (-27), (0, 0, 0, 0)), (85, .aload_n 0, (0, 0, 0, 0)), (86, .aload_n 0, (0, 0, 0, 0)), (87, .getfield 15, (2, 2, 1, 0)), (90, .iconst 1, (0, 0, 0, 0)), (91, .aload_n 0, (0, 0, 0, 0)), (92, .getfield 29, (0, 2, 5, 0)), (95, .ishl, (0, 0, 0, 0)), (96, .iconst 1, (0, 0, 0, 0)), (97, .isub, (0, 0, 0, 0)), (98, .laload, (0, 0, 0, 0)), (99, .putfield 25, (1, 2, 4, 0)), (102, .iconst 0, (0, 0, 0, 0)), (103, .istore 4, (0, 0, 0, 0)), (105, .iload 4, (0, 0, 0, 0)), (107, .aload_n 0, (0, 0, 0, 0)), (108, .getfield 29, (0, 2, 5, 0)), (111, .if_icmp .ge 30, (0, 0, 0, 0)), (114, .aload_n 0, (0, 0, 0, 0)), (115, .getfield 22, (2, 2, 3, 0)), (118, .iload 4, (0, 0, 0, 0)), (120, .aload_n 0, (0, 0, 0, 0)), (121, .getfield 25, (1, 2, 4, 0)), (124, .iload 4, (0, 0, 0, 0)), (126, .invokestatic 54, (1, 24, 1, 0)), (129, .lshr, (0, 0, 0, 0)), (130, .l2i, (0, 0, 0, 0)), (131, .bipush 15, (0, 0, 0, 0)), (133, .iand, (0, 0, 0, 0)), (134, .iastore, (0, 0, 0, 0)), (135, .iinc 4 1, (0, 0, 0, 0)), (138, .goto (-33), (0, 0, 0, 0)), (141, .return_, (0, 0, 0, 0))]
def op_24 : List (Nat × Instr × tm_X) := [(0, .iconst 4, (0, 0, 0, 0)), (1, .bipush 9, (0, 0, 0, 0)), (3, .iload_n 0, (0, 0, 0, 0)), (4, .isub, (0, 0, 0, 0)), (5, .imul, (0, 0, 0, 0)), (6, .ireturn, (0, 0, 0, 0))]
def op_25 : List (Nat × Instr × tm_X) := [(0, .iconst 1, (0, 0, 0, 0)), (1, .iload_n 1, (0, 0, 0, 0)), (2, .ishl, (0, 0, 0, 0)), (3, .istore 4, (0, 0, 0, 0)), (5, .aload_n 0, (0, 0, 0, 0)), (6, .getfield 11, (2, 2, 0, 0)), (9, .iload 4, (0, 0, 0, 0)), (11, .iload_n 3, (0, 0, 0, 0)), (12, .i2l, (0, 0, 0, 0)), (13, .bipush 40, (0, 0, 0, 0)), (15, .lshl, (0, 0, 0, 0)), (16, .iload_n 1, (0, 0, 0, 0)), (17, .i2l, (0, 0, 0, 0)), (18, .iload_n 1, (0, 0, 0, 0)), (19, .invokestatic 54, (1, 24, 1, 0)), (22, .lshl, (0, 0, 0, 0)), (23, .ladd, (0, 0, 0, 0)), (24, .lastore, (0, 0, 0, 0)), (25, .iconst 1, (0, 0, 0, 0)), (26, .istore 5, (0, 0, 0, 0)), (28, .iload 5, (0, 0, 0, 0)), (30, .iload 4, (0, 0, 0, 0)), (32, .if_icmp .ge 100, (0, 0, 0, 0)), (35, .iload_n 1, (0, 0, 0, 0)), (36, .iload 5, (0, 0, 0, 0)), (38, .aload_n 2, (0, 0, 0, 0)), (39, .invokestatic 58, (1, 26, 3, 0)), (42, .istore 6, (0, 0, 0, 0)), (44, .iload 6, (0, 0, 0, 0)), (46, .sipush 1000, (0, 0, 0, 0)), (49, .if_icmp .eq 17, (0, 0, 0, 0)), (52, .aload_n 0, (0, 0, 0, 0)), (53, .getfield 11, (2, 2, 0, 0)), (56, .iload 5, (0, 0, 0, 0)), (58, .laload, (0, 0, 0, 0)), (59, .ldc2_w 62, (0, 1152921504606846976, 0, 0)), (62, .lcmp, (0, 0, 0, 0)), (63, .ifCond .ne 7, (0, 0, 0, 0)), (66, .iconst 1, (0, 0, 0, 0)), (67, .goto 4, (0, 0, 0, 0)), (70, .iconst 0, (0, 0, 0, 0)), (71, .istore 7, (0, 0, 0, 0)), (73, .aload_n 0, (0, 0, 0, 0)), (74, .getfield 18, (2, 2, 2, 0)), (77, .iload 5, (0, 0, 0, 0)), (79, .iaload, (0, 0, 0, 0)), (80, .i2l, (0, 0, 0, 0)), (81, .iload_n 1, (0, 0, 0, 0)), (82, .invokestatic 54, (1, 24, 1, 0)), (85, .lshl, (0, 0, 0, 0)), (86, .lstore 8, (0, 0, 0, 0)), (88, .aload_n 0, (0, 0, 0, 0)), (89, .getfield 11, (2, 2, 0, 0)), (92, .iload 4, (0, 0, 0, 0)), (94, .iload 5, (0, 0, 0, 0)), (96, .ior, (0, 0, 0, 0)), (97, .iload 7, (0, 0, 0, 0)), (99, .ifCond .eq 9, (0, 0, 0, 0)), (102, .ldc2_w 62, (0, 1152921504606846976, 0, 0)), (105, .goto 20, (0, 0, 0, 0)), (108, .aload_n 0, (0, 0, 0, 0)), (109, .getfield 11, (2, 2, 0, 0)), (112, .iload 5, (0, 0, 0, 0)), (114, .laload, (0, 0, 0, 0)), (115, .iload 6, (0, 0, 0, 0)), (117, .i2l, (0, 0, 0, 0)), (118, .bipush 40, (0, 0, 0, 0)), (120, .lshl, (0, 0, 0, 0)), (121, .ladd, (0, 0, 0, 0)), (122, .lload 8, (0, 0, 0, 0)), (124, .ladd, (0, 0, 0, 0)), (125, .lastore, (0, 0, 0, 0)), (126, .iinc 5 1, (0, 0, 0, 0)), (129, .goto (-101), (0, 0, 0, 0)), (132, .return_, (0, 0, 0, 0))]
def op_26 : List (Nat × Instr × tm_X) := [(0, .iconst 0, (0, 0, 0, 0)), (1, .istore_n 3, (0, 0, 0, 0)), (2, .iconst 0, (0, 0, 0, 0)), (3, .istore 4, (0, 0, 0, 0)), (5, .iload 4, (0, 0, 0, 0)), (7, .iload_n 0, (0, 0, 0, 0)), (8, .if_icmp .ge 49, (0, 0, 0, 0)), (11, .iload_n 1, (0, 0, 0, 0)), (12, .iload 4, (0, 0, 0, 0)), (14, .ishr, (0, 0, 0, 0)), (15, .iconst 1, (0, 0, 0, 0)), (16, .iand, (0, 0, 0, 0)), (17, .iconst 1, (0, 0, 0, 0)), (18, .if_icmp .ne 13, (0, 0, 0, 0)), (21, .aload_n 2, (0, 0, 0, 0)), (22, .iload 4, (0, 0, 0, 0)), (24, .iload_n 0, (0, 0, 0, 0)), (25, .invokevirtual 64, (2, 61, 3, 6)), (28, .goto 4, (0, 0, 0, 0)), (31, .iconst 0, (0, 0, 0, 0)), (32, .istore 5, (0, 0, 0, 0)), (34, .iload 5, (0, 0, 0, 0)), (36, .sipush 1000, (0, 0, 0, 0)), (39, .if_icmp .ne 7, (0, 0, 0, 0)), (42, .sipush 1000, (0, 0, 0, 0)), (45, .ireturn, (0, 0, 0, 0)), (46, .iload_n 3, (0, 0, 0, 0)), (47, .iload 5, (0, 0, 0, 0)), (49, .iadd, (0, 0, 0, 0)), (50, .istore_n 3, (0, 0, 0, 0)), (51, .iinc 4 1, (0, 0, 0, 0)), (54, .goto (-49), (0, 0, 0, 0)), (57, .iload_n 3, (0, 0, 0, 0)), (58, .ireturn, (0, 0, 0, 0))]
def op_27 : List (Nat × Instr × tm_X) := [(0, .iconst 0, (0, 0, 0, 0)), (1, .istore_n 2, (0, 0, 0, 0)), (2, .iload_n 2, (0, 0, 0, 0)), (3, .aload_n 0, (0, 0, 0, 0)), (4, .getfield 29, (0, 2, 5, 0)), (7, .if_icmp .ge 68, (0, 0, 0, 0)), (10, .aload_n 1, (0, 0, 0, 0)), (11, .iload_n 2, (0, 0, 0, 0)), (12, .invokevirtual 69, (2, 62, 2, 6)), (15, .istore_n 3, (0, 0, 0, 0)), (16, .iconst 1, (0, 0, 0, 0)), (17, .istore 4, (0, 0, 0, 0)), (19, .iload 4, (0, 0, 0, 0)), (21, .iconst 1, (0, 0, 0, 0)), (22, .aload_n 0, (0, 0, 0, 0)), (23, .getfield 29, (0, 2, 5, 0)), (26, .ishl, (0, 0, 0, 0)), (27, .if_icmp .ge 42, (0, 0, 0, 0)), (30, .iload_n 3, (0, 0, 0, 0)), (31, .ifCond .eq 38, (0, 0, 0, 0)), (34, .iload 4, (0, 0, 0, 0)), (36, .iload_n 2, (0, 0, 0, 0)), (37, .ishr, (0, 0, 0, 0)), (38, .iconst 1, (0, 0, 0, 0)), (39, .iand, (0, 0, 0, 0)), (40, .iconst 1, (0, 0, 0, 0)), (41, .if_icmp .ne 22, (0, 0, 0, 0)), (44, .iload_n 3, (0, 0, 0, 0)), (45, .iload 4, (0, 0, 0, 0)), (47, .iconst (-1), (0, 0, 0, 0)), (48, .ixor, (0, 0, 0, 0)), (49, .iand, (0, 0, 0, 0)), (50, .ifCond .eq 13, (0, 0, 0, 0)), (53, .aload_n 0, (0, 0, 0, 0)), (54, .getfield 11, (2, 2, 0, 0)), (57, .iload 4, (0, 0, 0, 0)), (59, .ldc2_w 62, (0, 1152921504606846976, 0, 0)), (62, .lastore, (0, 0, 0, 0)), (63, .iinc 4 1, (0, 0, 0, 0)), (66, .goto (-47), (0, 0, 0, 0)), (69, .iinc 2 1, (0, 0, 0, 0)), (72, .goto (-70), (0, 0, 0, 0)), (75, .return_, (0, 0, 0, 0))]
def op_28 : List (Nat × Instr × tm_X) := [(0, .iconst 1, (0, 0, 0, 0)), (1, .aload_n 0, (0, 0, 0, 0)), (2, .getfield 18, (2, 2, 2, 0)), (5, .iload_n 1, (0, 0, 0, 0)), (6, .iaload, (0, 0, 0, 0)), (7, .ishl, (0, 0, 0, 0)), (8, .istore_n 2, (0, 0, 0, 0)), (9, .iload_n 1, (0, 0, 0, 0)), (10, .iload_n 2, (0, 0, 0, 0)), (11, .iconst (-1), (0, 0, 0, 0)), (12, .ixor, (0, 0, 0, 0)), (13, .iand, (0, 0, 0, 0)), (14, .istore_n 3, (0, 0, 0, 0)), (15, .iload_n 3, (0, 0, 0, 0)), (16, .istore 4, (0, 0, 0, 0)), (18, .ldc2_w 62, (0, 1152921504606846976, 0, 0)), (21, .lstore 5, (0, 0, 0, 0)), (23, .iconst 1, (0, 0, 0, 0)), (24, .iload_n 3, (0, 0, 0, 0)), (25, .invokestatic 72, (1, 174, 1, 0)), (28, .ishl, (0, 0, 0, 0)), (29, .istore 7, (0, 0, 0, 0)), (31, .iload 7, (0, 0, 0, 0)), (33, .ifCond .le 71, (0, 0, 0, 0)), (36, .aload_n 0, (0, 0, 0, 0)), (37, .getfield 11, (2, 2, 0, 0)), (40, .iload 4, (0, 0, 0, 0)), (42, .iload_n 2, (0, 0, 0, 0)), (43, .ior, (0, 0, 0, 0)), (44, .laload, (0, 0, 0, 0)), (45, .lstore 8, (0, 0, 0, 0)), (47, .aload_n 0, (0, 0, 0, 0)), (48, .getfield 15, (2, 2, 1, 0)), (51, .iload_n 3, (0, 0, 0, 0)), (52, .iload 4, (0, 0, 0, 0)), (54, .iconst (-1), (0, 0, 0, 0)), (55, .ixor, (0, 0, 0, 0)), (56, .iand, (0, 0, 0, 0)), (57, .laload, (0, 0, 0, 0)), (58, .lstore 10, (0, 0, 0, 0)), (60, .lload 8, (0, 0, 0, 0)), (62, .ldc2_w 62, (0, 1152921504606846976, 0, 0)), (65, .lcmp, (0, 0, 0, 0)), (66, .ifCond .eq 24, (0, 0, 0, 0)), (69, .lload 10, (0, 0, 0, 0)), (71, .ldc2_w 62, (0, 1152921504606846976, 0, 0)), (74, .lcmp, (0, 0, 0, 0)), (75, .ifCond .eq 15, (0, 0, 0, 0)), (78, .lload 5, (0, 0, 0, 0)), (80, .lload 8, (0, 0, 0, 0)), (82, .lload 10, (0, 0, 0, 0)), (84, .ladd, (0, 0, 0, 0)), (85, .invokestatic 77, (9, 0, 0, 0)), (88, .lstore 5, (0, 0, 0, 0)), (90, .iload 4, (0, 0, 0, 0)), (92, .iconst 1, (0, 0, 0, 0)), (93, .isub, (0, 0, 0, 0)), (94, .iload_n 3, (0, 0, 0, 0)), (95, .iand, (0, 0, 0, 0)), (96, .istore 4, (0, 0, 0, 0)), (98, .iinc 7 (-1), (0, 0, 0, 0)), (101, .goto (-70), (0, 0, 0, 0)), (104, .lload 5, (0, 0, 0, 0)), (106, .lreturn, (0, 0, 0, 0))]
def op_29 : List (Nat × Instr × tm_X) := [(0, .aload_n 0, (0, 0, 0, 0)), (1, .getfield 25, (1, 2, 4, 0)), (4, .ldc2_w 62, (0, 1152921504606846976, 0, 0)), (7, .lcmp, (0, 0, 0, 0)), (8, .ifCond .eq 7, (0, 0, 0, 0)), (11, .iconst 1, (0, 0, 0, 0)), (12, .goto 4, (0, 0, 0, 0)), (15, .iconst 0, (0, 0, 0, 0)), (16, .ireturn, (0, 0, 0, 0))]
def op_30 : List (Nat × Instr × tm_X) := [(0, .aload_n 0, (0, 0, 0, 0)), (1, .getfield 25, (1, 2, 4, 0)), (4, .bipush 40, (0, 0, 0, 0)), (6, .lshr, (0, 0, 0, 0)), (7, .l2i, (0, 0, 0, 0)), (8, .ireturn, (0, 0, 0, 0))]
def op_31 : List (Nat × Instr × tm_X) := [(0, .iload_n 1, (0, 0, 0, 0)), (1, .ifCond .lt 26, (0, 0, 0, 0)), (4, .iload_n 1, (0, 0, 0, 0)), (5, .aload_n 0, (0, 0, 0, 0)), (6, .getfield 29, (0, 2, 5, 0)), (9, .if_icmp .ge 18, (0, 0, 0, 0)), (12, .iload_n 1, (0, 0, 0, 0)), (13, .bipush 10, (0, 0, 0, 0)), (15, .if_icmp .ge 12, (0, 0, 0, 0)), (18, .aload_n 0, (0, 0, 0, 0)), (19, .getfield 22, (2, 2, 3, 0)), (22, .iload_n 1, (0, 0, 0, 0)), (23, .iaload, (0, 0, 0, 0)), (24, .goto 4, (0, 0, 0, 0)), (27, .iconst (-1), (0, 0, 0, 0)), (28, .ireturn, (0, 0, 0, 0))]
def op_32 : List (Nat × Instr × tm_X) := [(0, .iconst 0, (0, 0, 0, 0)), (1, .istore_n 1, (0, 0, 0, 0)), (2, .iconst 0, (0, 0, 0, 0)), (3, .istore_n 2, (0, 0, 0, 0)), (4, .iload_n 2, (0, 0, 0, 0)), (5, .aload_n 0, (0, 0, 0, 0)), (6, .getfield 29, (0, 2, 5, 0)), (9, .if_icmp .ge 21, (0, 0, 0, 0)), (12, .aload_n 0, (0, 0, 0, 0)), (13, .iload_n 2, (0, 0, 0, 0)), (14, .invokevirtual 80, (2, 31, 2, 2)), (17, .iload_n 2, (0, 0, 0, 0)), (18, .if_icmp .ne 6, (0, 0, 0, 0)), (21, .iinc 1 1, (0, 0, 0, 0)), (24, .iinc 2 1, (0, 0, 0, 0)), (27, .goto (-23), (0, 0, 0, 0)), (30, .iload_n 1, (0, 0, 0, 0)), (31, .ireturn, (0, 0, 0, 0))]
def op_33 : List (Nat × Instr × tm_X) := [(0, .iconst 0, (0, 0, 0, 0)), (1, .istore_n 2, (0, 0, 0, 0)), (2, .iconst 0, (0, 0, 0, 0)), (3, .istore_n 3, (0, 0, 0, 0)), (4, .iload_n 3, (0, 0, 0, 0)), (5, .aload_n 0, (0, 0, 0, 0)), (6, .getfield 29, (0, 2, 5, 0)), (9, .if_icmp .ge 21, (0, 0, 0, 0)), (12, .aload_n 0, (0, 0, 0, 0)), (13, .iload_n 3, (0, 0, 0, 0)), (14, .invokevirtual 80, (2, 31, 2, 2)), (17, .iload_n 1, (0, 0, 0, 0)), (18, .if_icmp .ne 6, (0, 0, 0, 0)), (21, .iinc 2 1, (0, 0, 0, 0)), (24, .iinc 3 1, (0, 0, 0, 0)), (27, .goto (-23), (0, 0, 0, 0)), (30, .iload_n 2, (0, 0, 0, 0)), (31, .ireturn, (0, 0, 0, 0))]
def op_34 : List (Nat × Instr × tm_X) := [(0, .aload_n 0, (0, 0, 0, 0)), (1, .invokespecial 3, (4, 0, 0, 0)), (4, .aload_n 0, (0, 0, 0, 0)), (5, .bipush 10, (0, 0, 0, 0)), (7, .bipush 10, (0, 0, 0, 0)), (9, .multianewarray 9 2, (3, 0, 0, 0)), (13, .putfield 11, (2, 3, 0, 0)), (16, .return_, (0, 0, 0, 0))]
def op_35 : List (Nat × Instr × tm_X) := [(0, .iload_n 0, (0, 0, 0, 0)), (1, .ifCond .lt 23, (0, 0, 0, 0)), (4, .iload_n 0, (0, 0, 0, 0)), (5, .bipush 10, (0, 0, 0, 0)), (7, .if_icmp .ge 17, (0, 0, 0, 0)), (10, .iload_n 1, (0, 0, 0, 0)), (11, .ifCond .lt 13, (0, 0, 0, 0)), (14, .iload_n 1, (0, 0, 0, 0)), (15, .bipush 10, (0, 0, 0, 0)), (17, .if_icmp .ge 7, (0, 0, 0, 0)), (20, .iconst 1, (0, 0, 0, 0)), (21, .goto 4, (0, 0, 0, 0)), (24, .iconst 0, (0, 0, 0, 0)), (25, .ireturn, (0, 0, 0, 0))]
def op_36 : List (Nat × Instr × tm_X) := [(0, .iload_n 1, (0, 0, 0, 0)), (1, .iload_n 2, (0, 0, 0, 0)), (2, .invokestatic 16, (1, 35, 2, 0)), (5, .ifCond .eq 21, (0, 0, 0, 0)), (8, .aload_n 0, (0, 0, 0, 0)), (9, .getfield 11, (2, 3, 0, 0)), (12, .iload_n 1, (0, 0, 0, 0)), (13, .aaload, (0, 0, 0, 0)), (14, .iload_n 2, (0, 0, 0, 0)), (15, .iload_n 3, (0, 0, 0, 0)), (16, .iastore, (0, 0, 0, 0)), (17, .aload_n 0, (0, 0, 0, 0)), (18, .getfield 11, (2, 3, 0, 0)), (21, .iload_n 2, (0, 0, 0, 0)), (22, .aaload, (0, 0, 0, 0)), (23, .iload_n 1, (0, 0, 0, 0)), (24, .iload_n 3, (0, 0, 0, 0)), (25, .iastore, (0, 0, 0, 0)), (26, .return_, (0, 0, 0, 0))]
def op_37 : List (Nat × Instr × tm_X) := [(0, .iload_n 1, (0, 0, 0, 0)), (1, .iload_n 2, (0, 0, 0, 0)), (2, .invokestatic 16, (1, 35, 2, 0)), (5, .ifCond .eq 14, (0, 0, 0, 0)), (8, .aload_n 0, (0, 0, 0, 0)), (9, .getfield 11, (2, 3, 0, 0)), (12, .iload_n 1, (0, 0, 0, 0)), (13, .aaload, (0, 0, 0, 0)), (14, .iload_n 2, (0, 0, 0, 0)), (15, .iaload, (0, 0, 0, 0)), (16, .goto 4, (0, 0, 0, 0)), (19, .iconst 0, (0, 0, 0, 0)), (20, .ireturn, (0, 0, 0, 0))]
def op_38 : List (Nat × Instr × tm_X) := [(0, .iconst 0, (0, 0, 0, 0)), (1, .istore_n 2, (0, 0, 0, 0)), (2, .iconst 0, (0, 0, 0, 0)), (3, .istore_n 3, (0, 0, 0, 0)), (4, .iload_n 3, (0, 0, 0, 0)), (5, .bipush 10, (0, 0, 0, 0)), (7, .if_icmp .ge 43, (0, 0, 0, 0)), (10, .iload_n 3, (0, 0, 0, 0)), (11, .iconst 1, (0, 0, 0, 0)), (12, .iadd, (0, 0, 0, 0)), (13, .istore 4, (0, 0, 0, 0)), (15, .iload 4, (0, 0, 0, 0)), (17, .bipush 10, (0, 0, 0, 0)), (19, .if_icmp .ge 25, (0, 0, 0, 0)), (22, .aload_n 0, (0, 0, 0, 0)), (23, .getfield 11, (2, 3, 0, 0)), (26, .iload_n 3, (0, 0, 0, 0)), (27, .aaload, (0, 0, 0, 0)), (28, .iload 4, (0, 0, 0, 0)), (30, .iaload, (0, 0, 0, 0)), (31, .iload_n 1, (0, 0, 0, 0)), (32, .if_icmp .ne 6, (0, 0, 0, 0)), (35, .iinc 2 1, (0, 0, 0, 0)), (38, .iinc 4 1, (0, 0, 0, 0)), (41, .goto (-26), (0, 0, 0, 0)), (44, .iinc 3 1, (0, 0, 0, 0)), (47, .goto (-43), (0, 0, 0, 0)), (50, .iload_n 2, (0, 0, 0, 0)), (51, .ireturn, (0, 0, 0, 0))]
def op_39 : List (Nat × Instr × tm_X) := [(0, .aload_n 0, (0, 0, 0, 0)), (1, .invokespecial 3, (4, 0, 0, 0)), (4, .aload_n 0, (0, 0, 0, 0)), (5, .bipush 10, (0, 0, 0, 0)), (7, .anewarray 9, (5, 0, 0, 0)), (10, .putfield 11, (2, 4, 0, 0)), (13, .iconst 0, (0, 0, 0, 0)), (14, .istore_n 1, (0, 0, 0, 0)), (15, .iload_n 1, (0, 0, 0, 0)), (16, .bipush 10, (0, 0, 0, 0)), (18, .if_icmp .ge 22, (0, 0, 0, 0)), (21, .aload_n 0, (0, 0, 0, 0)), (22, .getfield 11, (2, 4, 0, 0)), (25, .iload_n 1, (0, 0, 0, 0)), (26, .new 9, (0, 0, 4, 0)), (29, .dup, (0, 0, 0, 0)), (30, .invokespecial 17, (3, 0, 1, 0)), (33, .aastore, (0, 0, 0, 0)), (34, .iinc 1 1, (0, 0, 0, 0)), (37, .goto (-22), (0, 0, 0, 0)), (40, .aload_n 0, (0, 0, 0, 0)), (41, .iconst 0, (0, 0, 0, 0)), (42, .putfield 18, (0, 4, 1, 0)), (45, .return_, (0, 0, 0, 0))]
def op_40 : List (Nat × Instr × tm_X) := [(0, .iconst 0, (0, 0, 0, 0)), (1, .istore_n 1, (0, 0, 0, 0)), (2, .iload_n 1, (0, 0, 0, 0)), (3, .bipush 10, (0, 0, 0, 0)), (5, .if_icmp .ge 18, (0, 0, 0, 0)), (8, .aload_n 0, (0, 0, 0, 0)), (9, .getfield 11, (2, 4, 0, 0)), (12, .iload_n 1, (0, 0, 0, 0)), (13, .aaload, (0, 0, 0, 0)), (14, .invokevirtual 22, (2, 1, 1, 0)), (17, .iinc 1 1, (0, 0, 0, 0)), (20, .goto (-18), (0, 0, 0, 0)), (23, .aload_n 0, (0, 0, 0, 0)), (24, .iconst 0, (0, 0, 0, 0)), (25, .putfield 18, (0, 4, 1, 0)), (28, .return_, (0, 0, 0, 0))]
def op_41 : List (Nat × Instr × tm_X) := [(0, .aload_n 1, (0, 0, 0, 0)), (1, .getfield 25, (0, 8, 0, 1)), (4, .istore_n 2, (0, 0, 0, 0)), (5, .iload_n 2, (0, 0, 0, 0)), (6, .ifCond .lt 40, (0, 0, 0, 0)), (9, .iload_n 2, (0, 0, 0, 0)), (10, .bipush 10, (0, 0, 0, 0)), (12, .if_icmp .ge 34, (0, 0, 0, 0)), (15, .aload_n 0, (0, 0, 0, 0)), (16, .aload_n 0, (0, 0, 0, 0)), (17, .getfield 18, (0, 4, 1, 0)), (20, .iload_n 2, (0, 0, 0, 0)), (21, .iconst 1, (0, 0, 0, 0)), (22, .iadd, (0, 0, 0, 0)), (23, .invokestatic 30, (7, 0, 0, 0)), (26, .putfield 18, (0, 4, 1, 0)), (29, .aload_n 0, (0, 0, 0, 0)), (30, .getfield 11, (2, 4, 0, 0)), (33, .iload_n 2, (0, 0, 0, 0)), (34, .aaload, (0, 0, 0, 0)), (35, .aload_n 1, (0, 0, 0, 0)), (36, .getfield 36, (2, 8, 3, 1)), (39, .aload_n 1, (0, 0, 0, 0)), (40, .getfield 40, (0, 8, 2, 1)), (43, .invokevirtual 43, (2, 12, 3, 0)), (46, .return_, (0, 0, 0, 0))]
def op_42 : List (Nat × Instr × tm_X) := [(0, .aload_n 0, (0, 0, 0, 0)), (1, .getfield 18, (0, 4, 1, 0)), (4, .ireturn, (0, 0, 0, 0))]
def op_43 : List (Nat × Instr × tm_X) := [(0, .iload_n 1, (0, 0, 0, 0)), (1, .ifCond .lt 26, (0, 0, 0, 0)), (4, .iload_n 1, (0, 0, 0, 0)), (5, .aload_n 0, (0, 0, 0, 0)), (6, .getfield 18, (0, 4, 1, 0)), (9, .if_icmp .ge 18, (0, 0, 0, 0)), (12, .iload_n 1, (0, 0, 0, 0)), (13, .bipush 10, (0, 0, 0, 0)), (15, .if_icmp .ge 12, (0, 0, 0, 0)), (18, .aload_n 0, (0, 0, 0, 0)), (19, .getfield 11, (2, 4, 0, 0)), (22, .iload_n 1, (0, 0, 0, 0)), (23, .aaload, (0, 0, 0, 0)), (24, .goto 4, (0, 0, 0, 0)), (27, .aconst_null, (0, 0, 0, 0)), (28, .areturn, (0, 0, 0, 0))]
def op_44 : List (Nat × Instr × tm_X) := [(0, .aload_n 0, (0, 0, 0, 0)), (1, .iload_n 1, (0, 0, 0, 0)), (2, .invokevirtual 47, (2, 43, 2, 4)), (5, .astore_n 3, (0, 0, 0, 0)), (6, .aload_n 3, (0, 0, 0, 0)), (7, .ifnonnull 7, (0, 0, 0, 0)), (10, .iconst (-1), (0, 0, 0, 0)), (11, .goto 8, (0, 0, 0, 0)), (14, .aload_n 3, (0, 0, 0, 0)), (15, .iload_n 2, (0, 0, 0, 0)), (16, .invokevirtual 51, (2, 4, 2, 0)), (19, .ireturn, (0, 0, 0, 0))]
def op_45 : List (Nat × Instr × tm_X) := [(0, .aload_n 0, (0, 0, 0, 0)), (1, .iload_n 1, (0, 0, 0, 0)), (2, .invokevirtual 47, (2, 43, 2, 4)), (5, .astore_n 2, (0, 0, 0, 0)), (6, .aload_n 2, (0, 0, 0, 0)), (7, .ifnonnull 7, (0, 0, 0, 0)), (10, .iconst (-1), (0, 0, 0, 0)), (11, .goto 7, (0, 0, 0, 0)), (14, .aload_n 2, (0, 0, 0, 0)), (15, .invokevirtual 55, (2, 5, 1, 0)), (18, .ireturn, (0, 0, 0, 0))]
def op_46 : List (Nat × Instr × tm_X) := [(0, .aload_n 0, (0, 0, 0, 0)), (1, .iload_n 1, (0, 0, 0, 0)), (2, .invokevirtual 47, (2, 43, 2, 4)), (5, .astore_n 2, (0, 0, 0, 0)), (6, .aload_n 2, (0, 0, 0, 0)), (7, .ifnonnull 7, (0, 0, 0, 0)), (10, .iconst 0, (0, 0, 0, 0)), (11, .goto 7, (0, 0, 0, 0)), (14, .aload_n 2, (0, 0, 0, 0)), (15, .invokevirtual 59, (2, 2, 1, 0)), (18, .ireturn, (0, 0, 0, 0))]
def op_47 : List (Nat × Instr × tm_X) := [(0, .iconst 0, (0, 0, 0, 0)), (1, .istore_n 2, (0, 0, 0, 0)), (2, .iconst 0, (0, 0, 0, 0)), (3, .istore_n 3, (0, 0, 0, 0)), (4, .iload_n 3, (0, 0, 0, 0)), (5, .aload_n 0, (0, 0, 0, 0)), (6, .getfield 18, (0, 4, 1, 0)), (9, .if_icmp .ge 31, (0, 0, 0, 0)), (12, .iload_n 3, (0, 0, 0, 0)), (13, .bipush 10, (0, 0, 0, 0)), (15, .if_icmp .ge 25, (0, 0, 0, 0)), (18, .aload_n 0, (0, 0, 0, 0)), (19, .getfield 11, (2, 4, 0, 0)), (22, .iload_n 3, (0, 0, 0, 0)), (23, .aaload, (0, 0, 0, 0)), (24, .iload_n 1, (0, 0, 0, 0)), (25, .invokevirtual 62, (2, 8, 2, 0)), (28, .ifCond .eq 6, (0, 0, 0, 0)), (31, .iinc 2 1, (0, 0, 0, 0)), (34, .iinc 3 1, (0, 0, 0, 0)), (37, .goto (-33), (0, 0, 0, 0)), (40, .iload_n 2, (0, 0, 0, 0)), (41, .ireturn, (0, 0, 0, 0))]
def op_48 : List (Nat × Instr × tm_X) := [(0, .aload_n 0, (0, 0, 0, 0)), (1, .invokespecial 3, (4, 0, 0, 0)), (4, .aload_n 0, (0, 0, 0, 0)), (5, .bipush 70, (0, 0, 0, 0)), (7, .anewarray 11, (4, 0, 0, 0)), (10, .putfield 13, (2, 5, 0, 0)), (13, .aload_n 0, (0, 0, 0, 0)), (14, .new 17, (0, 0, 4, 0)), (17, .dup, (0, 0, 0, 0)), (18, .invokespecial 19, (3, 0, 1, 0)), (21, .putfield 20, (2, 5, 1, 0)), (24, .aload_n 0, (0, 0, 0, 0)), (25, .iconst 0, (0, 0, 0, 0)), (26, .putfield 24, (0, 5, 2, 0)), (29, .aload_n 0, (0, 0, 0, 0)), (30, .iconst 0, (0, 0, 0, 0)), (31, .putfield 28, (0, 5, 3, 0)), (34, .aload_n 0, (0, 0, 0, 0)), (35, .iconst 0, (0, 0, 0, 0)), (36, .putfield 31, (0, 5, 4, 0)), (39, .return_, (0, 0, 0, 0))]
def op_49 : List (Nat × Instr × tm_X) := [(0, .aload_n 0, (0, 0, 0, 0)), (1, .getfield 28, (0, 5, 3, 0)), (4, .ireturn, (0, 0, 0, 0))]
def op_50 : List (Nat × Instr × tm_X) := [(0, .aload_n 0, (0, 0, 0, 0)), (1, .getfield 31, (0, 5, 4, 0)), (4, .ireturn, (0, 0, 0, 0))]
def op_51 : List (Nat × Instr × tm_X) := [(0, .iload_n 1, (0, 0, 0, 0)), (1, .ifCond .lt 15, (0, 0, 0, 0)), (4, .iload_n 1, (0, 0, 0, 0)), (5, .aload_n 0, (0, 0, 0, 0)), (6, .getfield 28, (0, 5, 3, 0)), (9, .if_icmp .ge 7, (0, 0, 0, 0)), (12, .iconst 1, (0, 0, 0, 0)), (13, .goto 4, (0, 0, 0, 0)), (16, .iconst 0, (0, 0, 0, 0)), (17, .ireturn, (0, 0, 0, 0))]
def op_52 : List (Nat × Instr × tm_X) := [(0, .aload_n 0, (0, 0, 0, 0)), (1, .iload_n 1, (0, 0, 0, 0)), (2, .invokevirtual 34, (2, 51, 2, 5)), (5, .ifCond .eq 16, (0, 0, 0, 0)), (8, .aload_n 0, (0, 0, 0, 0)), (9, .getfield 31, (0, 5, 4, 0)), (12, .bipush 60, (0, 0, 0, 0)), (14, .if_icmp .ge 7, (0, 0, 0, 0)), (17, .iconst 1, (0, 0, 0, 0)), (18, .goto 4, (0, 0, 0, 0)), (21, .iconst 0, (0, 0, 0, 0)), (22, .ireturn, (0, 0, 0, 0))]
def op_53 : List (Nat × Instr × tm_X) := [(0, .aload_n 0, (0, 0, 0, 0)), (1, .getfield 28, (0, 5, 3, 0)), (4, .istore_n 3, (0, 0, 0, 0)), (5, .aload_n 0, (0, 0, 0, 0)), (6, .iload_n 3, (0, 0, 0, 0)), (7, .iload_n 1, (0, 0, 0, 0)), (8, .aload_n 2, (0, 0, 0, 0)), (9, .invokevirtual 38, (2, 56, 4, 5)), (12, .aload_n 0, (0, 0, 0, 0)), (13, .dup, (0, 0, 0, 0)), (14, .getfield 28, (0, 5, 3, 0)), (17, .iconst 1, (0, 0, 0, 0)), (18, .iadd, (0, 0, 0, 0)), (19, .putfield 28, (0, 5, 3, 0)), (22, .iload_n 3, (0, 0, 0, 0)), (23, .ireturn, (0, 0, 0, 0))]
def op_54 : List (Nat × Instr × tm_X) := [(0, .aload_n 0, (0, 0, 0, 0)), (1, .iload_n 1, (0, 0, 0, 0)), (2, .iload_n 2, (0, 0, 0, 0)), (3, .aload_n 3, (0, 0, 0, 0)), (4, .invokevirtual 38, (2, 56, 4, 5)), (7, .aload_n 0, (0, 0, 0, 0)), (8, .dup, (0, 0, 0, 0)), (9, .getfield 31, (0, 5, 4, 0)), (12, .iconst 1, (0, 0, 0, 0)), (13, .iadd, (0, 0, 0, 0)), (14, .putfield 31, (0, 5, 4, 0)), (17, .return_, (0, 0, 0, 0))]
def op_55 : List (Nat × Instr × tm_X) := [(0, .aload_n 0, (0, 0, 0, 0)), (1, .new 11, (0, 8, 4, 0)), (4, .dup, (0, 0, 0, 0)), (5, .iload_n 1, (0, 0, 0, 0)), (6, .iload_n 2, (0, 0, 0, 0)), (7, .iconst 1, (0, 0, 0, 0)), (8, .iload_n 3, (0, 0, 0, 0)), (9, .ishl, (0, 0, 0, 0)), (10, .aload_n 0, (0, 0, 0, 0)), (11, .getfield 20, (2, 5, 1, 0)), (14, .invokespecial 42, (3, 84, 5, 0)), (17, .invokevirtual 45, (2, 57, 2, 5)), (20, .aload_n 0, (0, 0, 0, 0)), (21, .dup, (0, 0, 0, 0)), (22, .getfield 31, (0, 5, 4, 0)), (25, .iconst 1, (0, 0, 0, 0)), (26, .iadd, (0, 0, 0, 0)), (27, .putfield 31, (0, 5, 4, 0)), (30, .return_, (0, 0, 0, 0))]
def op_56 : List (Nat × Instr × tm_X) := [(0, .new 17, (0, 0, 4, 0)), (3, .dup, (0, 0, 0, 0)), (4, .invokespecial 19, (3, 0, 1, 0)), (7, .astore 4, (0, 0, 0, 0)), (9, .aload 4, (0, 0, 0, 0)), (11, .aload_n 3, (0, 0, 0, 0)), (12, .bipush 31, (0, 0, 0, 0)), (14, .invokevirtual 49, (2, 12, 3, 0)), (17, .aload_n 0, (0, 0, 0, 0)), (18, .new 11, (0, 8, 4, 0)), (21, .dup, (0, 0, 0, 0)), (22, .iload_n 1, (0, 0, 0, 0)), (23, .iload_n 2, (0, 0, 0, 0)), (24, .aload 4, (0, 0, 0, 0)), (26, .invokevirtual 53, (2, 2, 1, 0)), (29, .aload 4, (0, 0, 0, 0)), (31, .invokespecial 42, (3, 84, 5, 0)), (34, .invokevirtual 45, (2, 57, 2, 5)), (37, .return_, (0, 0, 0, 0))]
def op_57 : List (Nat × Instr × tm_X) := [(0, .aload_n 0, (0, 0, 0, 0)), (1, .getfield 24, (0, 5, 2, 0)), (4, .bipush 70, (0, 0, 0, 0)), (6, .if_icmp .ge 23, (0, 0, 0, 0)), (9, .aload_n 0, (0, 0, 0, 0)), (10, .getfield 13, (2, 5, 0, 0)), (13, .aload_n 0, (0, 0, 0, 0)), (14, .getfield 24, (0, 5, 2, 0)), (17, .aload_n 1, (0, 0, 0, 0)), (18, .aastore, (0, 0, 0, 0)), (19, .aload_n 0, (0, 0, 0, 0)), (20, .dup, (0, 0, 0, 0)), (21, .getfield 24, (0, 5, 2, 0)), (24, .iconst 1, (0, 0, 0, 0)), (25, .iadd, (0, 0, 0, 0)), (26, .putfield 24, (0, 5, 2, 0)), (29, .return_, (0, 0, 0, 0))]
def op_58 : List (Nat × Instr × tm_X) := [(0, .aload_n 2, (0, 0, 0, 0)), (1, .invokevirtual 57, (2, 40, 1, 4)), (4, .iconst 0, (0, 0, 0, 0)), (5, .istore_n 3, (0, 0, 0, 0)), (6, .iload_n 3, (0, 0, 0, 0)), (7, .aload_n 0, (0, 0, 0, 0)), (8, .getfield 24, (0, 5, 2, 0)), (11, .if_icmp .ge 37, (0, 0, 0, 0)), (14, .aload_n 0, (0, 0, 0, 0)), (15, .getfield 13, (2, 5, 0, 0)), (18, .iload_n 3, (0, 0, 0, 0)), (19, .aaload, (0, 0, 0, 0)), (20, .astore 4, (0, 0, 0, 0)), (22, .aload 4, (0, 0, 0, 0)), (24, .ifnull 18, (0, 0, 0, 0)), (27, .aload 4, (0, 0, 0, 0)), (29, .getfield 62, (0, 8, 1, 1)), (32, .iload_n 1, (0, 0, 0, 0)), (33, .if_icmp .gt 9, (0, 0, 0, 0)), (36, .aload_n 2, (0, 0, 0, 0)), (37, .aload 4, (0, 0, 0, 0)), (39, .invokevirtual 65, (2, 41, 2, 4)), (42, .iinc 3 1, (0, 0, 0, 0)), (45, .goto (-39), (0, 0, 0, 0)), (48, .return_, (0, 0, 0, 0))]
def op_59 : List (Nat × Instr × tm_X) := [(0, .aload_n 0, (0, 0, 0, 0)), (1, .invokespecial 3, (4, 0, 0, 0)), (4, .aload_n 0, (0, 0, 0, 0)), (5, .bipush 10, (0, 0, 0, 0)), (7, .bipush 10, (0, 0, 0, 0)), (9, .multianewarray 9 2, (3, 0, 0, 0)), (13, .putfield 11, (2, 6, 0, 0)), (16, .aload_n 0, (0, 0, 0, 0)), (17, .bipush 10, (0, 0, 0, 0)), (19, .newarray .int, (1, 0, 0, 0)), (21, .putfield 16, (2, 6, 1, 0)), (24, .return_, (0, 0, 0, 0))]
def op_60 : List (Nat × Instr × tm_X) := [(0, .iconst 0, (0, 0, 0, 0)), (1, .istore_n 3, (0, 0, 0, 0)), (2, .iload_n 3, (0, 0, 0, 0)), (3, .aload_n 1, (0, 0, 0, 0)), (4, .invokevirtual 20, (2, 42, 1, 4)), (7, .if_icmp .ge 98, (0, 0, 0, 0)), (10, .iload_n 3, (0, 0, 0, 0)), (11, .bipush 10, (0, 0, 0, 0)), (13, .if_icmp .ge 92, (0, 0, 0, 0)), (16, .aload_n 0, (0, 0, 0, 0)), (17, .getfield 16, (2, 6, 1, 0)), (20, .iload_n 3, (0, 0, 0, 0)), (21, .iconst 0, (0, 0, 0, 0)), (22, .iastore, (0, 0, 0, 0)), (23, .iconst 0, (0, 0, 0, 0)), (24, .istore 4, (0, 0, 0, 0)), (26, .iload 4, (0, 0, 0, 0)), (28, .aload_n 1, (0, 0, 0, 0)), (29, .invokevirtual 20, (2, 42, 1, 4)), (32, .if_icmp .ge 67, (0, 0, 0, 0)), (35, .iload 4, (0, 0, 0, 0)), (37, .bipush 10, (0, 0, 0, 0)), (39, .if_icmp .ge 60, (0, 0, 0, 0)), (42, .aload_n 0, (0, 0, 0, 0)), (43, .getfield 11, (2, 6, 0, 0)), (46, .iload_n 3, (0, 0, 0, 0)), (47, .aaload, (0, 0, 0, 0)), (48, .iload 4, (0, 0, 0, 0)), (50, .iload_n 3, (0, 0, 0, 0)), (51, .iload 4, (0, 0, 0, 0)), (53, .if_icmp .ne 7, (0, 0, 0, 0)), (56, .iconst 0, (0, 0, 0, 0)), (57, .goto 11, (0, 0, 0, 0)), (60, .aload_n 1, (0, 0, 0, 0)), (61, .aload_n 2, (0, 0, 0, 0)), (62, .iload_n 3, (0, 0, 0, 0)), (63, .iload 4, (0, 0, 0, 0)), (65, .invokestatic 26, (1, 63, 4, 0)), (68, .iastore, (0, 0, 0, 0)), (69, .aload_n 2, (0, 0, 0, 0)), (70, .iload_n 3, (0, 0, 0, 0)), (71, .iload 4, (0, 0, 0, 0)), (73, .invokevirtual 30, (2, 37, 3, 3)), (76, .iconst 1, (0, 0, 0, 0)), (77, .if_icmp .ne 16, (0, 0, 0, 0)), (80, .aload_n 0, (0, 0, 0, 0)), (81, .getfield 16, (2, 6, 1, 0)), (84, .iload_n 3, (0, 0, 0, 0)), (85, .dup2, (0, 0, 0, 0)), (86, .iaload, (0, 0, 0, 0)), (87, .iconst 1, (0, 0, 0, 0)), (88, .iload 4, (0, 0, 0, 0)), (90, .ishl, (0, 0, 0, 0)), (91, .ior, (0, 0, 0, 0)), (92, .iastore, (0, 0, 0, 0)), (93, .iinc 4 1, (0, 0, 0, 0)), (96, .goto (-70), (0, 0, 0, 0)), (99, .iinc 3 1, (0, 0, 0, 0)), (102, .goto (-100), (0, 0, 0, 0)), (105, .return_, (0, 0, 0, 0))]
def op_61 : List (Nat × Instr × tm_X) := [(0, .iload_n 1, (0, 0, 0, 0)), (1, .ifCond .lt 23, (0, 0, 0, 0)), (4, .iload_n 1, (0, 0, 0, 0)), (5, .bipush 10, (0, 0, 0, 0)), (7, .if_icmp .ge 17, (0, 0, 0, 0)), (10, .iload_n 2, (0, 0, 0, 0)), (11, .ifCond .lt 13, (0, 0, 0, 0)), (14, .iload_n 2, (0, 0, 0, 0)), (15, .bipush 10, (0, 0, 0, 0)), (17, .if_icmp .ge 7, (0, 0, 0, 0)), (20, .iconst 1, (0, 0, 0, 0)), (21, .goto 4, (0, 0, 0, 0)), (24, .iconst 0, (0, 0, 0, 0)), (25, .istore_n 3, (0, 0, 0, 0)), (26, .iload_n 3, (0, 0, 0, 0)), (27, .ifCond .eq 14, (0, 0, 0, 0)), (30, .aload_n 0, (0, 0, 0, 0)), (31, .getfield 11, (2, 6, 0, 0)), (34, .iload_n 1, (0, 0, 0, 0)), (35, .aaload, (0, 0, 0, 0)), (36, .iload_n 2, (0, 0, 0, 0)), (37, .iaload, (0, 0, 0, 0)), (38, .goto 6, (0, 0, 0, 0)), (41, .sipush 1000, (0, 0, 0, 0)), (44, .ireturn, (0, 0, 0, 0))]
def op_62 : List (Nat × Instr × tm_X) := [(0, .iload_n 1, (0, 0, 0, 0)), (1, .ifCond .lt 18, (0, 0, 0, 0)), (4, .iload_n 1, (0, 0, 0, 0)), (5, .bipush 10, (0, 0, 0, 0)), (7, .if_icmp .ge 12, (0, 0, 0, 0)), (10, .aload_n 0, (0, 0, 0, 0)), (11, .getfield 16, (2, 6, 1, 0)), (14, .iload_n 1, (0, 0, 0, 0)), (15, .iaload, (0, 0, 0, 0)), (16, .goto 4, (0, 0, 0, 0)), (19, .iconst 0, (0, 0, 0, 0)), (20, .ireturn, (0, 0, 0, 0))]
def op_63 : List (Nat × Instr × tm_X) := [(0, .aload_n 0, (0, 0, 0, 0)), (1, .iload_n 2, (0, 0, 0, 0)), (2, .invokevirtual 36, (2, 43, 2, 4)), (5, .astore 4, (0, 0, 0, 0)), (7, .aload_n 0, (0, 0, 0, 0)), (8, .iload_n 3, (0, 0, 0, 0)), (9, .invokevirtual 36, (2, 43, 2, 4)), (12, .astore 5, (0, 0, 0, 0)), (14, .aload 4, (0, 0, 0, 0)), (16, .ifnull 8, (0, 0, 0, 0)), (19, .aload 5, (0, 0, 0, 0)), (21, .ifnonnull 7, (0, 0, 0, 0)), (24, .sipush (-1000), (0, 0, 0, 0)), (27, .ireturn, (0, 0, 0, 0)), (28, .aload_n 1, (0, 0, 0, 0)), (29, .iload_n 2, (0, 0, 0, 0)), (30, .iload_n 3, (0, 0, 0, 0)), (31, .invokevirtual 30, (2, 37, 3, 3)), (34, .iconst 2, (0, 0, 0, 0)), (35, .if_icmp .eq 26, (0, 0, 0, 0)), (38, .aload 4, (0, 0, 0, 0)), (40, .aload 5, (0, 0, 0, 0)), (42, .iconst 4, (0, 0, 0, 0)), (43, .invokestatic 40, (1, 64, 3, 0)), (46, .ifCond .ne 15, (0, 0, 0, 0)), (49, .aload 4, (0, 0, 0, 0)), (51, .aload 5, (0, 0, 0, 0)), (53, .invokestatic 44, (1, 65, 2, 0)), (56, .bipush 9, (0, 0, 0, 0)), (58, .if_icmp .le 7, (0, 0, 0, 0)), (61, .sipush 1000, (0, 0, 0, 0)), (64, .ireturn, (0, 0, 0, 0)), (65, .aload 4, (0, 0, 0, 0)), (67, .aload 5, (0, 0, 0, 0)), (69, .invokestatic 44, (1, 65, 2, 0)), (72, .aload_n 0, (0, 0, 0, 0)), (73, .aload 4, (0, 0, 0, 0)), (75, .aload 5, (0, 0, 0, 0)), (77, .invokestatic 48, (1, 67, 3, 0)), (80, .isub, (0, 0, 0, 0)), (81, .istore 6, (0, 0, 0, 0)), (83, .iload 6, (0, 0, 0, 0)), (85, .aload 4, (0, 0, 0, 0)), (87, .aload 5, (0, 0, 0, 0)), (89, .iconst 0, (0, 0, 0, 0)), (90, .invokestatic 40, (1, 64, 3, 0)), (93, .ifCond .eq 8, (0, 0, 0, 0)), (96, .bipush 6, (0, 0, 0, 0)), (98, .goto 4, (0, 0, 0, 0)), (101, .iconst 0, (0, 0, 0, 0)), (102, .iadd, (0, 0, 0, 0)), (103, .istore 6, (0, 0, 0, 0)), (105, .iload 6, (0, 0, 0, 0)), (107, .aload 4, (0, 0, 0, 0)), (109, .aload 5, (0, 0, 0, 0)), (111, .invokestatic 52, (1, 66, 2, 0)), (114, .ifCond .eq 7, (0, 0, 0, 0)), (117, .iconst 4, (0, 0, 0, 0)), (118, .goto 4, (0, 0, 0, 0)), (121, .iconst 0, (0, 0, 0, 0)), (122, .iadd, (0, 0, 0, 0)), (123, .istore 6, (0, 0, 0, 0)), (125, .iload 6, (0, 0, 0, 0)), (127, .ireturn, (0, 0, 0, 0))]
def op_64 : List (Nat × Instr × tm_X) := [(0, .aload_n 0, (0, 0, 0, 0)), (1, .iload_n 2, (0, 0, 0, 0)), (2, .invokevirtual 56, (2, 3, 2, 0)), (5, .ifCond .eq 28, (0, 0, 0, 0)), (8, .aload_n 1, (0, 0, 0, 0)), (9, .iload_n 2, (0, 0, 0, 0)), (10, .invokevirtual 56, (2, 3, 2, 0)), (13, .ifCond .eq 20, (0, 0, 0, 0)), (16, .aload_n 0, (0, 0, 0, 0)), (17, .iload_n 2, (0, 0, 0, 0)), (18, .invokevirtual 62, (2, 4, 2, 0)), (21, .aload_n 1, (0, 0, 0, 0)), (22, .iload_n 2, (0, 0, 0, 0)), (23, .invokevirtual 62, (2, 4, 2, 0)), (26, .if_icmp .eq 7, (0, 0, 0, 0)), (29, .iconst 1, (0, 0, 0, 0)), (30, .goto 4, (0, 0, 0, 0)), (33, .iconst 0, (0, 0, 0, 0)), (34, .ireturn, (0, 0, 0, 0))]
def op_65 : List (Nat × Instr × tm_X) := [(0, .aload_n 0, (0, 0, 0, 0)), (1, .aload_n 1, (0, 0, 0, 0)), (2, .iconst 1, (0, 0, 0, 0)), (3, .invokestatic 40, (1, 64, 3, 0)), (6, .ifCond .eq 20, (0, 0, 0, 0)), (9, .aload_n 0, (0, 0, 0, 0)), (10, .iconst 1, (0, 0, 0, 0)), (11, .invokevirtual 62, (2, 4, 2, 0)), (14, .aload_n 1, (0, 0, 0, 0)), (15, .iconst 1, (0, 0, 0, 0)), (16, .invokevirtual 62, (2, 4, 2, 0)), (19, .isub, (0, 0, 0, 0)), (20, .invokestatic 66, (6, 0, 0, 0)), (23, .goto 4, (0, 0, 0, 0)), (26, .iconst 0, (0, 0, 0, 0)), (27, .ireturn, (0, 0, 0, 0))]
def op_66 : List (Nat × Instr × tm_X) := [(0, .aload_n 0, (0, 0, 0, 0)), (1, .iconst 2, (0, 0, 0, 0)), (2, .invokevirtual 56, (2, 3, 2, 0)), (5, .ifCond .eq 11, (0, 0, 0, 0)), (8, .aload_n 1, (0, 0, 0, 0)), (9, .iconst 2, (0, 0, 0, 0)), (10, .invokevirtual 56, (2, 3, 2, 0)), (13, .ifCond .ne 5, (0, 0, 0, 0)), (16, .iconst 0, (0, 0, 0, 0)), (17, .ireturn, (0, 0, 0, 0)), (18, .aload_n 0, (0, 0, 0, 0)), (19, .invokevirtual 71, (2, 5, 1, 0)), (22, .aload_n 1, (0, 0, 0, 0)), (23, .iconst 2, (0, 0, 0, 0)), (24, .invokevirtual 62, (2, 4, 2, 0)), (27, .if_icmp .lt 15, (0, 0, 0, 0)), (30, .aload_n 1, (0, 0, 0, 0)), (31, .invokevirtual 71, (2, 5, 1, 0)), (34, .aload_n 0, (0, 0, 0, 0)), (35, .iconst 2, (0, 0, 0, 0)), (36, .invokevirtual 62, (2, 4, 2, 0)), (39, .if_icmp .ge 7, (0, 0, 0, 0)), (42, .iconst 1, (0, 0, 0, 0)), (43, .goto 4, (0, 0, 0, 0)), (46, .iconst 0, (0, 0, 0, 0)), (47, .ireturn, (0, 0, 0, 0))]
def op_67 : List (Nat × Instr × tm_X) := [(0, .iconst 0, (0, 0, 0, 0)), (1, .istore_n 3, (0, 0, 0, 0)), (2, .iconst 0, (0, 0, 0, 0)), (3, .istore 4, (0, 0, 0, 0)), (5, .iload 4, (0, 0, 0, 0)), (7, .iconst 3, (0, 0, 0, 0)), (8, .if_icmp .ge 63, (0, 0, 0, 0)), (11, .aload_n 1, (0, 0, 0, 0)), (12, .iload 4, (0, 0, 0, 0)), (14, .invokevirtual 74, (2, 6, 2, 0)), (17, .istore 5, (0, 0, 0, 0)), (19, .iload 5, (0, 0, 0, 0)), (21, .iconst (-1), (0, 0, 0, 0)), (22, .if_icmp .eq 21, (0, 0, 0, 0)), (25, .aload_n 2, (0, 0, 0, 0)), (26, .iload 5, (0, 0, 0, 0)), (28, .invokevirtual 77, (2, 8, 2, 0)), (31, .ifCond .eq 12, (0, 0, 0, 0)), (34, .aload_n 0, (0, 0, 0, 0)), (35, .iload 5, (0, 0, 0, 0)), (37, .invokevirtual 80, (2, 47, 2, 4)), (40, .goto 4, (0, 0, 0, 0)), (43, .iconst 0, (0, 0, 0, 0)), (44, .istore 6, (0, 0, 0, 0)), (46, .iload 6, (0, 0, 0, 0)), (48, .ifCond .le 17, (0, 0, 0, 0)), (51, .iload 6, (0, 0, 0, 0)), (53, .iconst 4, (0, 0, 0, 0)), (54, .if_icmp .gt 11, (0, 0, 0, 0)), (57, .iload_n 3, (0, 0, 0, 0)), (58, .bipush 12, (0, 0, 0, 0)), (60, .iload 6, (0, 0, 0, 0)), (62, .idiv, (0, 0, 0, 0)), (63, .iadd, (0, 0, 0, 0)), (64, .istore_n 3, (0, 0, 0, 0)), (65, .iinc 4 1, (0, 0, 0, 0)), (68, .goto (-63), (0, 0, 0, 0)), (71, .iload_n 3, (0, 0, 0, 0)), (72, .ireturn, (0, 0, 0, 0))]
def op_68 : List (Nat × Instr × tm_X) := [(0, .aload_n 0, (0, 0, 0, 0)), (1, .invokespecial 3, (4, 0, 0, 0)), (4, .aload_n 0, (0, 0, 0, 0)), (5, .bipush 100, (0, 0, 0, 0)), (7, .newarray .int, (1, 0, 0, 0)), (9, .putfield 9, (2, 7, 0, 0)), (12, .aload_n 0, (0, 0, 0, 0)), (13, .iconst 0, (0, 0, 0, 0)), (14, .putfield 15, (0, 7, 1, 0)), (17, .aload_n 0, (0, 0, 0, 0)), (18, .iconst 0, (0, 0, 0, 0)), (19, .putfield 19, (0, 7, 2, 0)), (22, .aload_n 0, (0, 0, 0, 0)), (23, .new 22, (0, 0, 4, 0)), (26, .dup, (0, 0, 0, 0)), (27, .invokespecial 24, (3, 0, 1, 0)), (30, .putfield 25, (2, 7, 3, 0)), (33, .return_, (0, 0, 0, 0))]
def op_69 : List (Nat × Instr × tm_X) := [(0, .iload_n 0, (0, 0, 0, 0)), (1, .bipush 8, (0, 0, 0, 0)), (3, .iconst 3, (0, 0, 0, 0)), (4, .iload_n 1, (0, 0, 0, 0)), (5, .isub, (0, 0, 0, 0)), (6, .imul, (0, 0, 0, 0)), (7, .iushr, (0, 0, 0, 0)), (8, .sipush 255, (0, 0, 0, 0)), (11, .iand, (0, 0, 0, 0)), (12, .ireturn, (0, 0, 0, 0))]
def op_70 : List (Nat × Instr × tm_X) := [(0, .iconst 0, (0, 0, 0, 0)), (1, .istore_n 1, (0, 0, 0, 0)), (2, .iconst 0, (0, 0, 0, 0)), (3, .istore_n 2, (0, 0, 0, 0)), (4, .iload_n 2, (0, 0, 0, 0)), (5, .iconst 4, (0, 0, 0, 0)), (6, .if_icmp .ge 20, (0, 0, 0, 0)), (9, .iload_n 0, (0, 0, 0, 0)), (10, .iload_n 2, (0, 0, 0, 0)), (11, .invokestatic 29, (1, 69, 2, 0)), (14, .ifCond .eq 6, (0, 0, 0, 0)), (17, .iinc 1 1, (0, 0, 0, 0)), (20, .iinc 2 1, (0, 0, 0, 0)), (23, .goto (-19), (0, 0, 0, 0)), (26, .iload_n 1, (0, 0, 0, 0)), (27, .ireturn, (0, 0, 0, 0))]
def op_71 : List (Nat × Instr × tm_X) := [(0, .aload_n 0, (0, 0, 0, 0)), (1, .getfield 15, (0, 7, 1, 0)), (4, .ireturn, (0, 0, 0, 0))]
def op_72 : List (Nat × Instr × tm_X) := [(0, .iconst 0, (0, 0, 0, 0)), (1, .istore_n 2, (0, 0, 0, 0)), (2, .iload_n 2, (0, 0, 0, 0)), (3, .iconst 4, (0, 0, 0, 0)), (4, .if_icmp .ge 48, (0, 0, 0, 0)), (7, .iload_n 1, (0, 0, 0, 0)), (8, .iload_n 2, (0, 0, 0, 0)), (9, .invokestatic 29, (1, 69, 2, 0)), (12, .istore_n 3, (0, 0, 0, 0)), (13, .iload_n 3, (0, 0, 0, 0)), (14, .ifCond .eq 32, (0, 0, 0, 0)), (17, .aload_n 0, (0, 0, 0, 0)), (18, .getfield 15, (0, 7, 1, 0)), (21, .bipush 100, (0, 0, 0, 0)), (23, .if_icmp .ge 23, (0, 0, 0, 0)), (26, .aload_n 0, (0, 0, 0, 0)), (27, .getfield 9, (2, 7, 0, 0)), (30, .aload_n 0, (0, 0, 0, 0)), (31, .getfield 15, (0, 7, 1, 0)), (34, .iload_n 3, (0, 0, 0, 0)), (35, .iastore, (0, 0, 0, 0)), (36, .aload_n 0, (0, 0, 0, 0)), (37, .dup, (0, 0, 0, 0)), (38, .getfield 15, (0, 7, 1, 0)), (41, .iconst 1, (0, 0, 0, 0)), (42, .iadd, (0, 0, 0, 0)), (43, .putfield 15, (0, 7, 1, 0)), (46, .iinc 2 1, (0, 0, 0, 0)), (49, .goto (-47), (0, 0, 0, 0)), (52, .return_, (0, 0, 0, 0))]
def op_73 : List (Nat × Instr × tm_X) := [(0, .iload_n 1, (0, 0, 0, 0)), (1, .ifCond .lt 11, (0, 0, 0, 0)), (4, .iload_n 1, (0, 0, 0, 0)), (5, .aload_n 0, (0, 0, 0, 0)), (6, .getfield 15, (0, 7, 1, 0)), (9, .if_icmp .le 5, (0, 0, 0, 0)), (12, .iconst 0, (0, 0, 0, 0)), (13, .ireturn, (0, 0, 0, 0)), (14, .aload_n 0, (0, 0, 0, 0)), (15, .iload_n 1, (0, 0, 0, 0)), (16, .putfield 15, (0, 7, 1, 0)), (19, .iconst 1, (0, 0, 0, 0)), (20, .ireturn, (0, 0, 0, 0))]
def op_74 : List (Nat × Instr × tm_X) := [(0, .aload_n 0, (0, 0, 0, 0)), (1, .getfield 25, (2, 7, 3, 0)), (4, .invokevirtual 33, (2, 1, 1, 0)), (7, .aload_n 0, (0, 0, 0, 0)), (8, .iconst 0, (0, 0, 0, 0)), (9, .putfield 19, (0, 7, 2, 0)), (12, .aload_n 0, (0, 0, 0, 0)), (13, .invokevirtual 36, (2, 76, 1, 7)), (16, .iconst 0, (0, 0, 0, 0)), (17, .istore_n 1, (0, 0, 0, 0)), (18, .iload_n 1, (0, 0, 0, 0)), (19, .bipush 100, (0, 0, 0, 0)), (21, .if_icmp .ge 59, (0, 0, 0, 0)), (24, .aload_n 0, (0, 0, 0, 0)), (25, .getfield 19, (0, 7, 2, 0)), (28, .aload_n 0, (0, 0, 0, 0)), (29, .getfield 15, (0, 7, 1, 0)), (32, .if_icmp .ge 48, (0, 0, 0, 0)), (35, .aload_n 0, (0, 0, 0, 0)), (36, .getfield 19, (0, 7, 2, 0)), (39, .istore_n 2, (0, 0, 0, 0)), (40, .aload_n 0, (0, 0, 0, 0)), (41, .invokevirtual 39, (2, 77, 1, 7)), (44, .ifCond .ne 5, (0, 0, 0, 0)), (47, .iload_n 2, (0, 0, 0, 0)), (48, .ireturn, (0, 0, 0, 0)), (49, .aload_n 0, (0, 0, 0, 0)), (50, .invokevirtual 43, (2, 75, 1, 7)), (53, .bipush 32, (0, 0, 0, 0)), (55, .if_icmp .eq 15, (0, 0, 0, 0)), (58, .aload_n 0, (0, 0, 0, 0)), (59, .invokevirtual 43, (2, 75, 1, 7)), (62, .ifCond .eq 8, (0, 0, 0, 0)), (65, .aload_n 0, (0, 0, 0, 0)), (66, .getfield 19, (0, 7, 2, 0)), (69, .ireturn, (0, 0, 0, 0)), (70, .aload_n 0, (0, 0, 0, 0)), (71, .invokevirtual 36, (2, 76, 1, 7)), (74, .iinc 1 1, (0, 0, 0, 0)), (77, .goto (-59), (0, 0, 0, 0)), (80, .aload_n 0, (0, 0, 0, 0)), (81, .getfield 25, (2, 7, 3, 0)), (84, .invokevirtual 47, (2, 2, 1, 0)), (87, .ifCond .ne 10, (0, 0, 0, 0)), (90, .aload_n 0, (0, 0, 0, 0)), (91, .getfield 15, (0, 7, 1, 0)), (94, .goto 4, (0, 0, 0, 0)), (97, .iconst (-1), (0, 0, 0, 0)), (98, .ireturn, (0, 0, 0, 0))]
def op_75 : List (Nat × Instr × tm_X) := [(0, .aload_n 0, (0, 0, 0, 0)), (1, .getfield 19, (0, 7, 2, 0)), (4, .ifCond .lt 35, (0, 0, 0, 0)), (7, .aload_n 0, (0, 0, 0, 0)), (8, .getfield 19, (0, 7, 2, 0)), (11, .aload_n 0, (0, 0, 0, 0)), (12, .getfield 15, (0, 7, 1, 0)), (15, .if_icmp .ge 24, (0, 0, 0, 0)), (18, .aload_n 0, (0, 0, 0, 0)), (19, .getfield 19, (0, 7, 2, 0)), (22, .bipush 100, (0, 0, 0, 0)), (24, .if_icmp .ge 15, (0, 0, 0, 0)), (27, .aload_n 0, (0, 0, 0, 0)), (28, .getfield 9, (2, 7, 0, 0)), (31, .aload_n 0, (0, 0, 0, 0)), (32, .getfield 19, (0, 7, 2, 0)), (35, .iaload, (0, 0, 0, 0)), (36, .goto 4, (0, 0, 0, 0)), (39, .iconst 0, (0, 0, 0, 0)), (40, .ireturn, (0, 0, 0, 0))]
def op_76 : List (Nat × Instr × tm_X) := [(0, .iconst 0, (0, 0, 0, 0)), (1, .istore_n 1, (0, 0, 0, 0)), (2, .iload_n 1, (0, 0, 0, 0)), (3, .bipush 100, (0, 0, 0, 0)), (5, .if_icmp .ge 28, (0, 0, 0, 0)), (8, .aload_n 0, (0, 0, 0, 0)), (9, .invokevirtual 43, (2, 75, 1, 7)), (12, .bipush 32, (0, 0, 0, 0)), (14, .if_icmp .ne 19, (0, 0, 0, 0)), (17, .aload_n 0, (0, 0, 0, 0)), (18, .dup, (0, 0, 0, 0)), (19, .getfield 19, (0, 7, 2, 0)), (22, .iconst 1, (0, 0, 0, 0)), (23, .iadd, (0, 0, 0, 0)), (24, .putfield 19, (0, 7, 2, 0)), (27, .iinc 1 1, (0, 0, 0, 0)), (30, .goto (-28), (0, 0, 0, 0)), (33, .return_, (0, 0, 0, 0))]
def op_77 : List (Nat × Instr × tm_X) := [(0, .aload_n 0, (0, 0, 0, 0)), (1, .invokevirtual 50, (2, 78, 1, 7)), (4, .istore_n 1, (0, 0, 0, 0)), (5, .iload_n 1, (0, 0, 0, 0)), (6, .iconst (-1), (0, 0, 0, 0)), (7, .if_icmp .eq 14, (0, 0, 0, 0)), (10, .aload_n 0, (0, 0, 0, 0)), (11, .getfield 25, (2, 7, 3, 0)), (14, .iload_n 1, (0, 0, 0, 0)), (15, .invokevirtual 53, (2, 3, 2, 0)), (18, .ifCond .eq 5, (0, 0, 0, 0)), (21, .iconst 0, (0, 0, 0, 0)), (22, .ireturn, (0, 0, 0, 0)), (23, .aload_n 0, (0, 0, 0, 0)), (24, .dup, (0, 0, 0, 0)), (25, .getfield 19, (0, 7, 2, 0)), (28, .iconst 1, (0, 0, 0, 0)), (29, .iadd, (0, 0, 0, 0)), (30, .putfield 19, (0, 7, 2, 0)), (33, .iload_n 1, (0, 0, 0, 0)), (34, .iconst 3, (0, 0, 0, 0)), (35, .if_icmp .ne 8, (0, 0, 0, 0)), (38, .aload_n 0, (0, 0, 0, 0)), (39, .invokevirtual 57, (2, 82, 1, 7)), (42, .ireturn, (0, 0, 0, 0)), (43, .iload_n 1, (0, 0, 0, 0)), (44, .iconst 2, (0, 0, 0, 0)), (45, .if_icmp .ne 10, (0, 0, 0, 0)), (48, .aload_n 0, (0, 0, 0, 0)), (49, .invokevirtual 60, (2, 80, 1, 7)), (52, .goto 8, (0, 0, 0, 0)), (55, .aload_n 0, (0, 0, 0, 0)), (56, .iload_n 1, (0, 0, 0, 0)), (57, .invokevirtual 63, (2, 79, 2, 7)), (60, .ireturn, (0, 0, 0, 0))]
def op_78 : List (Nat × Instr × tm_X) := [(0, .iconst 0, (0, 0, 0, 0)), (1, .istore_n 1, (0, 0, 0, 0)), (2, .iload_n 1, (0, 0, 0, 0)), (3, .iconst 5, (0, 0, 0, 0)), (4, .if_icmp .ge 23, (0, 0, 0, 0)), (7, .aload_n 0, (0, 0, 0, 0)), (8, .invokevirtual 43, (2, 75, 1, 7)), (11, .getstatic 66, (1, 0, 0, 0)), (14, .iload_n 1, (0, 0, 0, 0)), (15, .caload, (0, 0, 0, 0)), (16, .if_icmp .ne 5, (0, 0, 0, 0)), (19, .iload_n 1, (0, 0, 0, 0)), (20, .ireturn, (0, 0, 0, 0)), (21, .iinc 1 1, (0, 0, 0, 0)), (24, .goto (-22), (0, 0, 0, 0)), (27, .iconst (-1), (0, 0, 0, 0)), (28, .ireturn, (0, 0, 0, 0))]
def op_79 : List (Nat × Instr × tm_X) := [(0, .aload_n 0, (0, 0, 0, 0)), (1, .invokevirtual 70, (2, 81, 1, 7)), (4, .istore_n 2, (0, 0, 0, 0)), (5, .iload_n 2, (0, 0, 0, 0)), (6, .iconst (-1), (0, 0, 0, 0)), (7, .if_icmp .eq 12, (0, 0, 0, 0)), (10, .iload_n 2, (0, 0, 0, 0)), (11, .getstatic 73, (2, 0, 0, 0)), (14, .iload_n 1, (0, 0, 0, 0)), (15, .iaload, (0, 0, 0, 0)), (16, .if_icmp .le 5, (0, 0, 0, 0)), (19, .iconst 0, (0, 0, 0, 0)), (20, .ireturn, (0, 0, 0, 0)), (21, .aload_n 0, (0, 0, 0, 0)), (22, .getfield 25, (2, 7, 3, 0)), (25, .iload_n 1, (0, 0, 0, 0)), (26, .iload_n 2, (0, 0, 0, 0)), (27, .invokevirtual 76, (2, 9, 3, 0)), (30, .iconst 1, (0, 0, 0, 0)), (31, .ireturn, (0, 0, 0, 0))]
def op_80 : List (Nat × Instr × tm_X) := [(0, .aload_n 0, (0, 0, 0, 0)), (1, .invokevirtual 70, (2, 81, 1, 7)), (4, .istore_n 1, (0, 0, 0, 0)), (5, .iload_n 1, (0, 0, 0, 0)), (6, .istore_n 2, (0, 0, 0, 0)), (7, .iload_n 1, (0, 0, 0, 0)), (8, .iconst (-1), (0, 0, 0, 0)), (9, .if_icmp .eq 27, (0, 0, 0, 0)), (12, .aload_n 0, (0, 0, 0, 0)), (13, .invokevirtual 43, (2, 75, 1, 7)), (16, .bipush 45, (0, 0, 0, 0)), (18, .if_icmp .ne 18, (0, 0, 0, 0)), (21, .aload_n 0, (0, 0, 0, 0)), (22, .dup, (0, 0, 0, 0)), (23, .getfield 19, (0, 7, 2, 0)), (26, .iconst 1, (0, 0, 0, 0)), (27, .iadd, (0, 0, 0, 0)), (28, .putfield 19, (0, 7, 2, 0)), (31, .aload_n 0, (0, 0, 0, 0)), (32, .invokevirtual 70, (2, 81, 1, 7)), (35, .istore_n 2, (0, 0, 0, 0)), (36, .iload_n 1, (0, 0, 0, 0)), (37, .iconst (-1), (0, 0, 0, 0)), (38, .if_icmp .eq 17, (0, 0, 0, 0)), (41, .iload_n 2, (0, 0, 0, 0)), (42, .iload_n 1, (0, 0, 0, 0)), (43, .if_icmp .lt 12, (0, 0, 0, 0)), (46, .iload_n 2, (0, 0, 0, 0)), (47, .getstatic 73, (2, 0, 0, 0)), (50, .iconst 2, (0, 0, 0, 0)), (51, .iaload, (0, 0, 0, 0)), (52, .if_icmp .le 5, (0, 0, 0, 0)), (55, .iconst 0, (0, 0, 0, 0)), (56, .ireturn, (0, 0, 0, 0)), (57, .aload_n 0, (0, 0, 0, 0)), (58, .getfield 25, (2, 7, 3, 0)), (61, .iload_n 1, (0, 0, 0, 0)), (62, .iload_n 2, (0, 0, 0, 0)), (63, .invokevirtual 80, (2, 10, 3, 0)), (66, .iconst 1, (0, 0, 0, 0)), (67, .ireturn, (0, 0, 0, 0))]
def op_81 : List (Nat × Instr × tm_X) := [(0, .iconst 0, (0, 0, 0, 0)), (1, .istore_n 1, (0, 0, 0, 0)), (2, .iconst 0, (0, 0, 0, 0)), (3, .istore_n 2, (0, 0, 0, 0)), (4, .iconst 0, (0, 0, 0, 0)), (5, .istore_n 3, (0, 0, 0, 0)), (6, .iload_n 3, (0, 0, 0, 0)), (7, .bipush 100, (0, 0, 0, 0)), (9, .if_icmp .ge 62, (0, 0, 0, 0)), (12, .aload_n 0, (0, 0, 0, 0)), (13, .invokevirtual 43, (2, 75, 1, 7)), (16, .bipush 48, (0, 0, 0, 0)), (18, .if_icmp .lt 53, (0, 0, 0, 0)), (21, .aload_n 0, (0, 0, 0, 0)), (22, .invokevirtual 43, (2, 75, 1, 7)), (25, .bipush 57, (0, 0, 0, 0)), (27, .if_icmp .gt 44, (0, 0, 0, 0)), (30, .iload_n 2, (0, 0, 0, 0)), (31, .iconst 4, (0, 0, 0, 0)), (32, .if_icmp .ge 18, (0, 0, 0, 0)), (35, .iload_n 1, (0, 0, 0, 0)), (36, .bipush 10, (0, 0, 0, 0)), (38, .imul, (0, 0, 0, 0)), (39, .aload_n 0, (0, 0, 0, 0)), (40, .invokevirtual 43, (2, 75, 1, 7)), (43, .bipush 48, (0, 0, 0, 0)), (45, .isub, (0, 0, 0, 0)), (46, .iadd, (0, 0, 0, 0)), (47, .goto 4, (0, 0, 0, 0)), (50, .iload_n 1, (0, 0, 0, 0)), (51, .istore_n 1, (0, 0, 0, 0)), (52, .iinc 2 1, (0, 0, 0, 0)), (55, .aload_n 0, (0, 0, 0, 0)), (56, .dup, (0, 0, 0, 0)), (57, .getfield 19, (0, 7, 2, 0)), (60, .iconst 1, (0, 0, 0, 0)), (61, .iadd, (0, 0, 0, 0)), (62, .putfield 19, (0, 7, 2, 0)), (65, .iinc 3 1, (0, 0, 0, 0)), (68, .goto (-62), (0, 0, 0, 0)), (71, .iload_n 2, (0, 0, 0, 0)), (72, .ifCond .eq 8, (0, 0, 0, 0)), (75, .iload_n 2, (0, 0, 0, 0)), (76, .iconst 4, (0, 0, 0, 0)), (77, .if_icmp .le 7, (0, 0, 0, 0)), (80, .iconst (-1), (0, 0, 0, 0)), (81, .goto 4, (0, 0, 0, 0)), (84, .iload_n 1, (0, 0, 0, 0)), (85, .ireturn, (0, 0, 0, 0))]
def op_82 : List (Nat × Instr × tm_X) := [(0, .iconst 0, (0, 0, 0, 0)), (1, .istore_n 1, (0, 0, 0, 0)), (2, .iload_n 1, (0, 0, 0, 0)), (3, .iconst 3, (0, 0, 0, 0)), (4, .if_icmp .ge 61, (0, 0, 0, 0)), (7, .aload_n 0, (0, 0, 0, 0)), (8, .invokevirtual 83, (2, 83, 1, 7)), (11, .istore_n 2, (0, 0, 0, 0)), (12, .iload_n 2, (0, 0, 0, 0)), (13, .iconst (-1), (0, 0, 0, 0)), (14, .if_icmp .eq 14, (0, 0, 0, 0)), (17, .aload_n 0, (0, 0, 0, 0)), (18, .getfield 25, (2, 7, 3, 0)), (21, .iload_n 2, (0, 0, 0, 0)), (22, .invokevirtual 86, (2, 8, 2, 0)), (25, .ifCond .eq 5, (0, 0, 0, 0)), (28, .iconst 0, (0, 0, 0, 0)), (29, .ireturn, (0, 0, 0, 0)), (30, .aload_n 0, (0, 0, 0, 0)), (31, .getfield 25, (2, 7, 3, 0)), (34, .iload_n 2, (0, 0, 0, 0)), (35, .invokevirtual 89, (2, 11, 2, 0)), (38, .aload_n 0, (0, 0, 0, 0)), (39, .invokevirtual 43, (2, 75, 1, 7)), (42, .bipush 44, (0, 0, 0, 0)), (44, .if_icmp .eq 5, (0, 0, 0, 0)), (47, .iconst 1, (0, 0, 0, 0)), (48, .ireturn, (0, 0, 0, 0)), (49, .aload_n 0, (0, 0, 0, 0)), (50, .dup, (0, 0, 0, 0)), (51, .getfield 19, (0, 7, 2, 0)), (54, .iconst 1, (0, 0, 0, 0)), (55, .iadd, (0, 0, 0, 0)), (56, .putfield 19, (0, 7, 2, 0)), (59, .iinc 1 1, (0, 0, 0, 0)), (62, .goto (-60), (0, 0, 0, 0)), (65, .iconst 0, (0, 0, 0, 0)), (66, .ireturn, (0, 0, 0, 0))]
def op_83 : List (Nat × Instr × tm_X) := [(0, .iconst 0, (0, 0, 0, 0)), (1, .istore_n 1, (0, 0, 0, 0)), (2, .iconst 0, (0, 0, 0, 0)), (3, .istore_n 2, (0, 0, 0, 0)), (4, .iconst 0, (0, 0, 0, 0)), (5, .istore_n 3, (0, 0, 0, 0)), (6, .iload_n 3, (0, 0, 0, 0)), (7, .bipush 100, (0, 0, 0, 0)), (9, .if_icmp .ge 60, (0, 0, 0, 0)), (12, .aload_n 0, (0, 0, 0, 0)), (13, .invokevirtual 43, (2, 75, 1, 7)), (16, .bipush 97, (0, 0, 0, 0)), (18, .if_icmp .lt 51, (0, 0, 0, 0)), (21, .aload_n 0, (0, 0, 0, 0)), (22, .invokevirtual 43, (2, 75, 1, 7)), (25, .bipush 122, (0, 0, 0, 0)), (27, .if_icmp .gt 42, (0, 0, 0, 0)), (30, .iload_n 2, (0, 0, 0, 0)), (31, .bipush 6, (0, 0, 0, 0)), (33, .if_icmp .ge 17, (0, 0, 0, 0)), (36, .iload_n 1, (0, 0, 0, 0)), (37, .aload_n 0, (0, 0, 0, 0)), (38, .invokevirtual 43, (2, 75, 1, 7)), (41, .bipush 96, (0, 0, 0, 0)), (43, .isub, (0, 0, 0, 0)), (44, .iconst 5, (0, 0, 0, 0)), (45, .iload_n 2, (0, 0, 0, 0)), (46, .imul, (0, 0, 0, 0)), (47, .ishl, (0, 0, 0, 0)), (48, .ior, (0, 0, 0, 0)), (49, .istore_n 1, (0, 0, 0, 0)), (50, .iinc 2 1, (0, 0, 0, 0)), (53, .aload_n 0, (0, 0, 0, 0)), (54, .dup, (0, 0, 0, 0)), (55, .getfield 19, (0, 7, 2, 0)), (58, .iconst 1, (0, 0, 0, 0)), (59, .iadd, (0, 0, 0, 0)), (60, .putfield 19, (0, 7, 2, 0)), (63, .iinc 3 1, (0, 0, 0, 0)), (66, .goto (-60), (0, 0, 0, 0)), (69, .iload_n 2, (0, 0, 0, 0)), (70, .ifCond .eq 9, (0, 0, 0, 0)), (73, .iload_n 2, (0, 0, 0, 0)), (74, .bipush 6, (0, 0, 0, 0)), (76, .if_icmp .le 7, (0, 0, 0, 0)), (79, .iconst (-1), (0, 0, 0, 0)), (80, .goto 4, (0, 0, 0, 0)), (83, .iload_n 1, (0, 0, 0, 0)), (84, .ireturn, (0, 0, 0, 0))]
def op_84 : List (Nat × Instr × tm_X) := [(0, .aload_n 0, (0, 0, 0, 0)), (1, .invokespecial 1, (4, 0, 0, 0)), (4, .aload_n 0, (0, 0, 0, 0)), (5, .iload_n 1, (0, 0, 0, 0)), (6, .putfield 7, (0, 8, 0, 0)), (9, .aload_n 0, (0, 0, 0, 0)), (10, .iload_n 2, (0, 0, 0, 0)), (11, .putfield 13, (0, 8, 1, 0)), (14, .aload_n 0, (0, 0, 0, 0)), (15, .iload_n 3, (0, 0, 0, 0)), (16, .putfield 16, (0, 8, 2, 0)), (19, .aload_n 0, (0, 0, 0, 0)), (20, .aload 4, (0, 0, 0, 0)), (22, .putfield 19, (2, 8, 3, 0)), (25, .return_, (0, 0, 0, 0))]
def op_85 : List (Nat × Instr × tm_X) := [(0, .aload_n 0, (0, 0, 0, 0)), (1, .invokespecial 1, (4, 0, 0, 0)), (4, .aload_n 0, (0, 0, 0, 0)), (5, .new 7, (0, 7, 4, 0)), (8, .dup, (0, 0, 0, 0)), (9, .invokespecial 9, (3, 68, 1, 0)), (12, .putfield 10, (2, 9, 0, 0)), (15, .aload_n 0, (0, 0, 0, 0)), (16, .new 16, (0, 5, 5, 0)), (19, .dup, (0, 0, 0, 0)), (20, .invokespecial 18, (3, 48, 1, 0)), (23, .putfield 19, (2, 9, 1, 0)), (26, .aload_n 0, (0, 0, 0, 0)), (27, .new 23, (0, 4, 2, 0)), (30, .dup, (0, 0, 0, 0)), (31, .invokespecial 25, (3, 39, 1, 0)), (34, .putfield 26, (2, 9, 2, 0)), (37, .aload_n 0, (0, 0, 0, 0)), (38, .new 30, (0, 3, 1, 0)), (41, .dup, (0, 0, 0, 0)), (42, .invokespecial 32, (3, 34, 1, 0)), (45, .putfield 33, (2, 9, 3, 0)), (48, .aload_n 0, (0, 0, 0, 0)), (49, .new 37, (0, 6, 2, 0)), (52, .dup, (0, 0, 0, 0)), (53, .invokespecial 39, (3, 59, 1, 0)), (56, .putfield 40, (2, 9, 4, 0)), (59, .aload_n 0, (0, 0, 0, 0)), (60, .new 44, (0, 2, 6, 0)), (63, .dup, (0, 0, 0, 0)), (64, .invokespecial 46, (3, 22, 1, 0)), (67, .putfield 47, (2, 9, 5, 0)), (70, .aload_n 0, (0, 0, 0, 0)), (71, .new 51, (0, 1, 5, 0)), (74, .dup, (0, 0, 0, 0)), (75, .invokespecial 53, (3, 13, 1, 0)), (78, .putfield 54, (2, 9, 6, 0)), (81, .aload_n 0, (0, 0, 0, 0)), (82, .iconst 0, (0, 0, 0, 0)), (83, .putfield 58, (0, 9, 7, 0)), (86, .aload_n 0, (0, 0, 0, 0)), (87, .bipush 10, (0, 0, 0, 0)), (89, .putfield 62, (0, 9, 8, 0)), (92, .aload_n 0, (0, 0, 0, 0)), (93, .iconst 3, (0, 0, 0, 0)), (94, .putfield 65, (0, 9, 9, 0)), (97, .aload_n 0, (0, 0, 0, 0)), (98, .iconst (-1), (0, 0, 0, 0)), (99, .putfield 68, (0, 9, 10, 0)), (102, .aload_n 0, (0, 0, 0, 0)), (103, .iconst 0, (0, 0, 0, 0)), (104, .putfield 71, (3, 9, 11, 0)), (107, .aload_n 0, (0, 0, 0, 0)), (108, .iconst 0, (0, 0, 0, 0)), (109, .putfield 75, (3, 9, 12, 0)), (112, .return_, (0, 0, 0, 0))]
def op_86 : List (Nat × Instr × tm_X) := [(0, .iload_n 1, (0, 0, 0, 0)), (1, .ifCond .lt 22, (0, 0, 0, 0)), (4, .iload_n 1, (0, 0, 0, 0)), (5, .sipush 1000, (0, 0, 0, 0)), (8, .if_icmp .gt 15, (0, 0, 0, 0)), (11, .aload_n 0, (0, 0, 0, 0)), (12, .getfield 58, (0, 9, 7, 0)), (15, .iload_n 1, (0, 0, 0, 0)), (16, .iadd, (0, 0, 0, 0)), (17, .sipush 1000, (0, 0, 0, 0)), (20, .if_icmp .le 5, (0, 0, 0, 0)), (23, .iconst (-1), (0, 0, 0, 0)), (24, .ireturn, (0, 0, 0, 0)), (25, .aload_n 0, (0, 0, 0, 0)), (26, .dup, (0, 0, 0, 0)), (27, .getfield 58, (0, 9, 7, 0)), (30, .iload_n 1, (0, 0, 0, 0)), (31, .iadd, (0, 0, 0, 0)), (32, .putfield 58, (0, 9, 7, 0)), (35, .aload_n 0, (0, 0, 0, 0)), (36, .getfield 58, (0, 9, 7, 0)), (39, .ireturn, (0, 0, 0, 0))]
def op_87 : List (Nat × Instr × tm_X) := [(0, .iload_n 1, (0, 0, 0, 0)), (1, .invokestatic 78, (1, 70, 1, 0)), (4, .iload_n 2, (0, 0, 0, 0)), (5, .invokestatic 78, (1, 70, 1, 0)), (8, .iadd, (0, 0, 0, 0)), (9, .iload_n 3, (0, 0, 0, 0)), (10, .invokestatic 78, (1, 70, 1, 0)), (13, .iadd, (0, 0, 0, 0)), (14, .iload 4, (0, 0, 0, 0)), (16, .invokestatic 78, (1, 70, 1, 0)), (19, .iadd, (0, 0, 0, 0)), (20, .iload 5, (0, 0, 0, 0)), (22, .invokestatic 78, (1, 70, 1, 0)), (25, .iadd, (0, 0, 0, 0)), (26, .istore 6, (0, 0, 0, 0)), (28, .aload_n 0, (0, 0, 0, 0)), (29, .getfield 10, (2, 9, 0, 0)), (32, .invokevirtual 82, (2, 71, 1, 7)), (35, .iload 6, (0, 0, 0, 0)), (37, .iadd, (0, 0, 0, 0)), (38, .bipush 100, (0, 0, 0, 0)), (40, .if_icmp .le 5, (0, 0, 0, 0)), (43, .iconst (-1), (0, 0, 0, 0)), (44, .ireturn, (0, 0, 0, 0)), (45, .aload_n 0, (0, 0, 0, 0)), (46, .getfield 10, (2, 9, 0, 0)), (49, .iload_n 1, (0, 0, 0, 0)), (50, .invokevirtual 86, (2, 72, 2, 7)), (53, .aload_n 0, (0, 0, 0, 0)), (54, .getfield 10, (2, 9, 0, 0)), (57, .iload_n 2, (0, 0, 0, 0)), (58, .invokevirtual 86, (2, 72, 2, 7)), (61, .aload_n 0, (0, 0, 0, 0)), (62, .getfield 10, (2, 9, 0, 0)), (65, .iload_n 3, (0, 0, 0, 0)), (66, .invokevirtual 86, (2, 72, 2, 7)), (69, .aload_n 0, (0, 0, 0, 0)), (70, .getfield 10, (2, 9, 0, 0)), (73, .iload 4, (0, 0, 0, 0)), (75, .invokevirtual 86, (2, 72, 2, 7)), (78, .aload_n 0, (0, 0, 0, 0)), (79, .getfield 10, (2, 9, 0, 0)), (82, .iload 5, (0, 0, 0, 0)), (84, .invokevirtual 86, (2, 72, 2, 7)), (87, .aload_n 0, (0, 0, 0, 0)), (88, .getfield 10, (2, 9, 0, 0)), (91, .invokevirtual 82, (2, 71, 1, 7)), (94, .ireturn, (0, 0, 0, 0))]
def op_88 : List (Nat × Instr × tm_X) := [(0, .aload_n 0, (0, 0, 0, 0)), (1, .getfield 10, (2, 9, 0, 0)), (4, .iload_n 1, (0, 0, 0, 0)), (5, .invokevirtual 90, (2, 73, 2, 7)), (8, .ireturn, (0, 0, 0, 0))]
def op_89 : List (Nat × Instr × tm_X) := [(0, .aload_n 0, (0, 0, 0, 0)), (1, .getfield 10, (2, 9, 0, 0)), (4, .invokevirtual 94, (2, 74, 1, 7)), (7, .ireturn, (0, 0, 0, 0))]
def op_90 : List (Nat × Instr × tm_X) := [(0, .aload_n 0, (0, 0, 0, 0)), (1, .getfield 19, (2, 9, 1, 0)), (4, .invokevirtual 97, (2, 49, 1, 5)), (7, .bipush 10, (0, 0, 0, 0)), (9, .if_icmp .ge 14, (0, 0, 0, 0)), (12, .aload_n 0, (0, 0, 0, 0)), (13, .getfield 10, (2, 9, 0, 0)), (16, .invokevirtual 94, (2, 74, 1, 7)), (19, .iconst (-1), (0, 0, 0, 0)), (20, .if_icmp .eq 5, (0, 0, 0, 0)), (23, .iconst (-1), (0, 0, 0, 0)), (24, .ireturn, (0, 0, 0, 0)), (25, .aload_n 0, (0, 0, 0, 0)), (26, .getfield 19, (2, 9, 1, 0)), (29, .aload_n 0, (0, 0, 0, 0)), (30, .getfield 58, (0, 9, 7, 0)), (33, .aload_n 0, (0, 0, 0, 0)), (34, .getfield 10, (2, 9, 0, 0)), (37, .getfield 100, (2, 7, 3, 1)), (40, .invokevirtual 104, (2, 53, 3, 5)), (43, .istore_n 1, (0, 0, 0, 0)), (44, .aload_n 0, (0, 0, 0, 0)), (45, .getfield 10, (2, 9, 0, 0)), (48, .iconst 0, (0, 0, 0, 0)), (49, .invokevirtual 90, (2, 73, 2, 7)), (52, .pop, (0, 0, 0, 0)), (53, .aload_n 0, (0, 0, 0, 0)), (54, .iconst (-1), (0, 0, 0, 0)), (55, .putfield 68, (0, 9, 10, 0)), (58, .iload_n 1, (0, 0, 0, 0)), (59, .ireturn, (0, 0, 0, 0))]
def op_91 : List (Nat × Instr × tm_X) := [(0, .aload_n 0, (0, 0, 0, 0)), (1, .getfield 19, (2, 9, 1, 0)), (4, .iload_n 1, (0, 0, 0, 0)), (5, .invokevirtual 108, (2, 52, 2, 5)), (8, .ifCond .eq 14, (0, 0, 0, 0)), (11, .aload_n 0, (0, 0, 0, 0)), (12, .getfield 10, (2, 9, 0, 0)), (15, .invokevirtual 94, (2, 74, 1, 7)), (18, .iconst (-1), (0, 0, 0, 0)), (19, .if_icmp .eq 5, (0, 0, 0, 0)), (22, .iconst 0, (0, 0, 0, 0)), (23, .ireturn, (0, 0, 0, 0)), (24, .aload_n 0, (0, 0, 0, 0)), (25, .getfield 19, (2, 9, 1, 0)), (28, .iload_n 1, (0, 0, 0, 0)), (29, .aload_n 0, (0, 0, 0, 0)), (30, .getfield 58, (0, 9, 7, 0)), (33, .aload_n 0, (0, 0, 0, 0)), (34, .getfield 10, (2, 9, 0, 0)), (37, .getfield 100, (2, 7, 3, 1)), (40, .invokevirtual 111, (2, 54, 4, 5)), (43, .aload_n 0, (0, 0, 0, 0)), (44, .getfield 10, (2, 9, 0, 0)), (47, .iconst 0, (0, 0, 0, 0)), (48, .invokevirtual 90, (2, 73, 2, 7)), (51, .pop, (0, 0, 0, 0)), (52, .aload_n 0, (0, 0, 0, 0)), (53, .iconst (-1), (0, 0, 0, 0)), (54, .putfield 68, (0, 9, 10, 0)), (57, .iconst 1, (0, 0, 0, 0)), (58, .ireturn, (0, 0, 0, 0))]
def op_92 : List (Nat × Instr × tm_X) := [(0, .aload_n 0, (0, 0, 0, 0)), (1, .getfield 19, (2, 9, 1, 0)), (4, .iload_n 1, (0, 0, 0, 0)), (5, .invokevirtual 108, (2, 52, 2, 5)), (8, .ifCond .eq 12, (0, 0, 0, 0)), (11, .iload_n 2, (0, 0, 0, 0)), (12, .ifCond .lt 8, (0, 0, 0, 0)), (15, .iload_n 2, (0, 0, 0, 0)), (16, .iconst 5, (0, 0, 0, 0)), (17, .if_icmp .lt 5, (0, 0, 0, 0)), (20, .iconst 0, (0, 0, 0, 0)), (21, .ireturn, (0, 0, 0, 0)), (22, .aload_n 0, (0, 0, 0, 0)), (23, .getfield 19, (2, 9, 1, 0)), (26, .iload_n 1, (0, 0, 0, 0)), (27, .aload_n 0, (0, 0, 0, 0)), (28, .getfield 58, (0, 9, 7, 0)), (31, .iload_n 2, (0, 0, 0, 0)), (32, .invokevirtual 115, (2, 55, 4, 5)), (35, .aload_n 0, (0, 0, 0, 0)), (36, .iconst (-1), (0, 0, 0, 0)), (37, .putfield 68, (0, 9, 10, 0)), (40, .iconst 1, (0, 0, 0, 0)), (41, .ireturn, (0, 0, 0, 0))]
def op_93 : List (Nat × Instr × tm_X) := [(0, .aload_n 0, (0, 0, 0, 0)), (1, .getfield 19, (2, 9, 1, 0)), (4, .iload_n 1, (0, 0, 0, 0)), (5, .invokevirtual 119, (2, 51, 2, 5)), (8, .ifCond .eq 19, (0, 0, 0, 0)), (11, .aload_n 0, (0, 0, 0, 0)), (12, .getfield 19, (2, 9, 1, 0)), (15, .iload_n 2, (0, 0, 0, 0)), (16, .invokevirtual 119, (2, 51, 2, 5)), (19, .ifCond .eq 8, (0, 0, 0, 0)), (22, .iload_n 1, (0, 0, 0, 0)), (23, .iload_n 2, (0, 0, 0, 0)), (24, .if_icmp .ne 5, (0, 0, 0, 0)), (27, .iconst 0, (0, 0, 0, 0)), (28, .ireturn, (0, 0, 0, 0)), (29, .iload_n 3, (0, 0, 0, 0)), (30, .ifCond .lt 8, (0, 0, 0, 0)), (33, .iload_n 3, (0, 0, 0, 0)), (34, .iconst 2, (0, 0, 0, 0)), (35, .if_icmp .le 5, (0, 0, 0, 0)), (38, .iconst 0, (0, 0, 0, 0)), (39, .ireturn, (0, 0, 0, 0)), (40, .aload_n 0, (0, 0, 0, 0)), (41, .getfield 33, (2, 9, 3, 0)), (44, .iload_n 1, (0, 0, 0, 0)), (45, .iload_n 2, (0, 0, 0, 0)), (46, .iload_n 3, (0, 0, 0, 0)), (47, .invokevirtual 122, (2, 36, 4, 3)), (50, .aload_n 0, (0, 0, 0, 0)), (51, .iconst 0, (0, 0, 0, 0)), (52, .putfield 71, (3, 9, 11, 0)), (55, .iconst 1, (0, 0, 0, 0)), (56, .ireturn, (0, 0, 0, 0))]
def op_94 : List (Nat × Instr × tm_X) := [(0, .iload_n 1, (0, 0, 0, 0)), (1, .ifCond .lt 9, (0, 0, 0, 0)), (4, .iload_n 1, (0, 0, 0, 0)), (5, .bipush 100, (0, 0, 0, 0)), (7, .if_icmp .le 5, (0, 0, 0, 0)), (10, .iconst 0, (0, 0, 0, 0)), (11, .ireturn, (0, 0, 0, 0)), (12, .aload_n 0, (0, 0, 0, 0)), (13, .iload_n 1, (0, 0, 0, 0)), (14, .putfield 62, (0, 9, 8, 0)), (17, .aload_n 0, (0, 0, 0, 0)), (18, .iconst 0, (0, 0, 0, 0)), (19, .putfield 71, (3, 9, 11, 0)), (22, .iconst 1, (0, 0, 0, 0)), (23, .ireturn, (0, 0, 0, 0))]
def op_95 : List (Nat × Instr × tm_X) := [(0, .iload_n 1, (0, 0, 0, 0)), (1, .ifCond .lt 9, (0, 0, 0, 0)), (4, .iload_n 1, (0, 0, 0, 0)), (5, .bipush 50, (0, 0, 0, 0)), (7, .if_icmp .le 5, (0, 0, 0, 0)), (10, .iconst 0, (0, 0, 0, 0)), (11, .ireturn, (0, 0, 0, 0)), (12, .aload_n 0, (0, 0, 0, 0)), (13, .iload_n 1, (0, 0, 0, 0)), (14, .putfield 65, (0, 9, 9, 0)), (17, .aload_n 0, (0, 0, 0, 0)), (18, .iconst 0, (0, 0, 0, 0)), (19, .putfield 75, (3, 9, 12, 0)), (22, .iconst 1, (0, 0, 0, 0)), (23, .ireturn, (0, 0, 0, 0))]
def op_96 : List (Nat × Instr × tm_X) := [(0, .aload_n 0, (0, 0, 0, 0)), (1, .iload_n 3, (0, 0, 0, 0)), (2, .invokevirtual 125, (2, 109, 2, 9)), (5, .ifCond .eq 15, (0, 0, 0, 0)), (8, .aload_n 0, (0, 0, 0, 0)), (9, .getfield 26, (2, 9, 2, 0)), (12, .iload_n 1, (0, 0, 0, 0)), (13, .iload_n 2, (0, 0, 0, 0)), (14, .invokevirtual 128, (2, 44, 3, 4)), (17, .goto 4, (0, 0, 0, 0)), (20, .iconst (-1), (0, 0, 0, 0)), (21, .ireturn, (0, 0, 0, 0))]
def op_97 : List (Nat × Instr × tm_X) := [(0, .aload_n 0, (0, 0, 0, 0)), (1, .iload_n 2, (0, 0, 0, 0)), (2, .invokevirtual 125, (2, 109, 2, 9)), (5, .ifCond .eq 14, (0, 0, 0, 0)), (8, .aload_n 0, (0, 0, 0, 0)), (9, .getfield 26, (2, 9, 2, 0)), (12, .iload_n 1, (0, 0, 0, 0)), (13, .invokevirtual 132, (2, 45, 2, 4)), (16, .goto 4, (0, 0, 0, 0)), (19, .iconst (-1), (0, 0, 0, 0)), (20, .ireturn, (0, 0, 0, 0))]
def op_98 : List (Nat × Instr × tm_X) := [(0, .aload_n 0, (0, 0, 0, 0)), (1, .iload 4, (0, 0, 0, 0)), (3, .invokevirtual 125, (2, 109, 2, 9)), (6, .ifCond .eq 14, (0, 0, 0, 0)), (9, .aload_n 0, (0, 0, 0, 0)), (10, .getfield 26, (2, 9, 2, 0)), (13, .iload_n 1, (0, 0, 0, 0)), (14, .invokevirtual 135, (2, 43, 2, 4)), (17, .goto 4, (0, 0, 0, 0)), (20, .aconst_null, (0, 0, 0, 0)), (21, .astore 5, (0, 0, 0, 0)), (23, .aload 5, (0, 0, 0, 0)), (25, .ifnonnull 7, (0, 0, 0, 0)), (28, .iconst (-1), (0, 0, 0, 0)), (29, .goto 10, (0, 0, 0, 0)), (32, .aload 5, (0, 0, 0, 0)), (34, .iload_n 2, (0, 0, 0, 0)), (35, .iload_n 3, (0, 0, 0, 0)), (36, .invokevirtual 139, (2, 7, 3, 0)), (39, .ireturn, (0, 0, 0, 0))]
def op_99 : List (Nat × Instr × tm_X) := [(0, .aload_n 0, (0, 0, 0, 0)), (1, .iload_n 3, (0, 0, 0, 0)), (2, .invokevirtual 125, (2, 109, 2, 9)), (5, .ifCond .eq 24, (0, 0, 0, 0)), (8, .iload_n 1, (0, 0, 0, 0)), (9, .iload_n 2, (0, 0, 0, 0)), (10, .if_icmp .eq 19, (0, 0, 0, 0)), (13, .aload_n 0, (0, 0, 0, 0)), (14, .getfield 26, (2, 9, 2, 0)), (17, .aload_n 0, (0, 0, 0, 0)), (18, .getfield 33, (2, 9, 3, 0)), (21, .iload_n 1, (0, 0, 0, 0)), (22, .iload_n 2, (0, 0, 0, 0)), (23, .invokestatic 144, (1, 63, 4, 0)), (26, .goto 6, (0, 0, 0, 0)), (29, .sipush (-1000), (0, 0, 0, 0)), (32, .ireturn, (0, 0, 0, 0))]
def op_100 : List (Nat × Instr × tm_X) := [(0, .aload_n 0, (0, 0, 0, 0)), (1, .iload_n 2, (0, 0, 0, 0)), (2, .invokevirtual 148, (2, 110, 2, 9)), (5, .ifCond .eq 14, (0, 0, 0, 0)), (8, .aload_n 0, (0, 0, 0, 0)), (9, .getfield 47, (2, 9, 5, 0)), (12, .iload_n 1, (0, 0, 0, 0)), (13, .invokevirtual 151, (2, 31, 2, 2)), (16, .goto 4, (0, 0, 0, 0)), (19, .iconst (-1), (0, 0, 0, 0)), (20, .ireturn, (0, 0, 0, 0))]
def op_101 : List (Nat × Instr × tm_X) := [(0, .aload_n 0, (0, 0, 0, 0)), (1, .iload_n 1, (0, 0, 0, 0)), (2, .invokevirtual 148, (2, 110, 2, 9)), (5, .ifCond .eq 13, (0, 0, 0, 0)), (8, .aload_n 0, (0, 0, 0, 0)), (9, .getfield 47, (2, 9, 5, 0)), (12, .invokevirtual 154, (2, 30, 1, 2)), (15, .goto 6, (0, 0, 0, 0)), (18, .sipush (-10000), (0, 0, 0, 0)), (21, .ireturn, (0, 0, 0, 0))]
def op_102 : List (Nat × Instr × tm_X) := [(0, .aload_n 0, (0, 0, 0, 0)), (1, .iload_n 1, (0, 0, 0, 0)), (2, .invokevirtual 148, (2, 110, 2, 9)), (5, .ifCond .eq 13, (0, 0, 0, 0)), (8, .aload_n 0, (0, 0, 0, 0)), (9, .getfield 47, (2, 9, 5, 0)), (12, .invokevirtual 157, (2, 32, 1, 2)), (15, .goto 4, (0, 0, 0, 0)), (18, .iconst (-1), (0, 0, 0, 0)), (19, .ireturn, (0, 0, 0, 0))]
def op_103 : List (Nat × Instr × tm_X) := [(0, .aload_n 0, (0, 0, 0, 0)), (1, .iload_n 3, (0, 0, 0, 0)), (2, .invokevirtual 148, (2, 110, 2, 9)), (5, .ifCond .eq 14, (0, 0, 0, 0)), (8, .aload_n 0, (0, 0, 0, 0)), (9, .getfield 47, (2, 9, 5, 0)), (12, .iload_n 1, (0, 0, 0, 0)), (13, .invokevirtual 151, (2, 31, 2, 2)), (16, .goto 4, (0, 0, 0, 0)), (19, .iconst (-1), (0, 0, 0, 0)), (20, .istore 4, (0, 0, 0, 0)), (22, .iload 4, (0, 0, 0, 0)), (24, .iconst (-1), (0, 0, 0, 0)), (25, .if_icmp .ne 5, (0, 0, 0, 0)), (28, .iconst (-1), (0, 0, 0, 0)), (29, .ireturn, (0, 0, 0, 0)), (30, .iload_n 2, (0, 0, 0, 0)), (31, .tableswitch 132 0 6 #[41, 49, 57, 78, 99, 107, 117], (41, 0, 0, 0)), (72, .aload_n 0, (0, 0, 0, 0)), (73, .iload 4, (0, 0, 0, 0)), (75, .iconst 0, (0, 0, 0, 0)), (76, .invokevirtual 158, (2, 112, 3, 9)), (79, .ireturn, (0, 0, 0, 0)), (80, .aload_n 0, (0, 0, 0, 0)), (81, .iload 4, (0, 0, 0, 0)), (83, .iconst 1, (0, 0, 0, 0)), (84, .invokevirtual 158, (2, 112, 3, 9)), (87, .ireturn, (0, 0, 0, 0)), (88, .aload_n 0, (0, 0, 0, 0)), (89, .iload 4, (0, 0, 0, 0)), (91, .invokevirtual 161, (2, 115, 2, 9)), (94, .ifCond .eq 8, (0, 0, 0, 0)), (97, .bipush (-2), (0, 0, 0, 0)), (99, .goto 9, (0, 0, 0, 0)), (102, .aload_n 0, (0, 0, 0, 0)), (103, .iload 4, (0, 0, 0, 0)), (105, .invokevirtual 164, (2, 113, 2, 9)), (108, .ireturn, (0, 0, 0, 0)), (109, .aload_n 0, (0, 0, 0, 0)), (110, .iload 4, (0, 0, 0, 0)), (112, .invokevirtual 161, (2, 115, 2, 9)), (115, .ifCond .eq 8, (0, 0, 0, 0)), (118, .bipush (-2), (0, 0, 0, 0)), (120, .goto 9, (0, 0, 0, 0)), (123, .aload_n 0, (0, 0, 0, 0)), (124, .iload 4, (0, 0, 0, 0)), (126, .invokevirtual 167, (2, 114, 2, 9)), (129, .ireturn, (0, 0, 0, 0)), (130, .aload_n 0, (0, 0, 0, 0)), (131, .iload 4, (0, 0, 0, 0)), (133, .iconst 4, (0, 0, 0, 0)), (134, .invokevirtual 158, (2, 112, 3, 9)), (137, .ireturn, (0, 0, 0, 0)), (138, .aload_n 0, (0, 0, 0, 0)), (139, .getfield 47, (2, 9, 5, 0)), (142, .iload 4, (0, 0, 0, 0)), (144, .invokevirtual 170, (2, 33, 2, 2)), (147, .ireturn, (0, 0, 0, 0)), (148, .aload_n 0, (0, 0, 0, 0)), (149, .iload 4, (0, 0, 0, 0)), (151, .invokevirtual 161, (2, 115, 2, 9)), (154, .ifCond .eq 7, (0, 0, 0, 0)), (157, .iconst 1, (0, 0, 0, 0)), (158, .goto 4, (0, 0, 0, 0)), (161, .iconst 0, (0, 0, 0, 0)), (162, .ireturn, (0, 0, 0, 0)), (163, .iconst (-1), (0, 0, 0, 0)), (164, .ireturn, (0, 0, 0, 0))]
def op_104 : List (Nat × Instr × tm_X) := [(0, .iload_n 1, (0, 0, 0, 0)), (1, .ifCond .lt 17, (0, 0, 0, 0)), (4, .iload_n 1, (0, 0, 0, 0)), (5, .bipush 99, (0, 0, 0, 0)), (7, .if_icmp .gt 11, (0, 0, 0, 0)), (10, .aload_n 0, (0, 0, 0, 0)), (11, .iload_n 2, (0, 0, 0, 0)), (12, .invokevirtual 148, (2, 110, 2, 9)), (15, .ifCond .ne 5, (0, 0, 0, 0)), (18, .iconst (-1), (0, 0, 0, 0)), (19, .ireturn, (0, 0, 0, 0)), (20, .iconst 0, (0, 0, 0, 0)), (21, .istore_n 3, (0, 0, 0, 0)), (22, .iconst 0, (0, 0, 0, 0)), (23, .istore 4, (0, 0, 0, 0)), (25, .iload 4, (0, 0, 0, 0)), (27, .aload_n 0, (0, 0, 0, 0)), (28, .getfield 26, (2, 9, 2, 0)), (31, .invokevirtual 173, (2, 42, 1, 4)), (34, .if_icmp .ge 37, (0, 0, 0, 0)), (37, .aload_n 0, (0, 0, 0, 0)), (38, .getfield 47, (2, 9, 5, 0)), (41, .iload 4, (0, 0, 0, 0)), (43, .invokevirtual 151, (2, 31, 2, 2)), (46, .iload 4, (0, 0, 0, 0)), (48, .if_icmp .ne 17, (0, 0, 0, 0)), (51, .aload_n 0, (0, 0, 0, 0)), (52, .iload 4, (0, 0, 0, 0)), (54, .iconst 0, (0, 0, 0, 0)), (55, .invokevirtual 158, (2, 112, 3, 9)), (58, .iload_n 1, (0, 0, 0, 0)), (59, .if_icmp .ne 6, (0, 0, 0, 0)), (62, .iinc 3 1, (0, 0, 0, 0)), (65, .iinc 4 1, (0, 0, 0, 0)), (68, .goto (-43), (0, 0, 0, 0)), (71, .iload_n 3, (0, 0, 0, 0)), (72, .ireturn, (0, 0, 0, 0))]
def op_105 : List (Nat × Instr × tm_X) := [(0, .aload_n 0, (0, 0, 0, 0)), (1, .iload_n 2, (0, 0, 0, 0)), (2, .invokevirtual 125, (2, 109, 2, 9)), (5, .ifCond .eq 14, (0, 0, 0, 0)), (8, .aload_n 0, (0, 0, 0, 0)), (9, .getfield 26, (2, 9, 2, 0)), (12, .iload_n 1, (0, 0, 0, 0)), (13, .invokevirtual 174, (2, 46, 2, 4)), (16, .goto 4, (0, 0, 0, 0)), (19, .iconst 0, (0, 0, 0, 0)), (20, .ireturn, (0, 0, 0, 0))]
def op_106 : List (Nat × Instr × tm_X) := [(0, .aload_n 0, (0, 0, 0, 0)), (1, .iload_n 2, (0, 0, 0, 0)), (2, .invokevirtual 177, (2, 111, 2, 9)), (5, .ifCond .eq 14, (0, 0, 0, 0)), (8, .aload_n 0, (0, 0, 0, 0)), (9, .getfield 54, (2, 9, 6, 0)), (12, .iload_n 1, (0, 0, 0, 0)), (13, .invokevirtual 180, (2, 20, 2, 1)), (16, .goto 4, (0, 0, 0, 0)), (19, .iconst (-1), (0, 0, 0, 0)), (20, .ireturn, (0, 0, 0, 0))]
def op_107 : List (Nat × Instr × tm_X) := [(0, .aload_n 0, (0, 0, 0, 0)), (1, .iload_n 1, (0, 0, 0, 0)), (2, .invokevirtual 177, (2, 111, 2, 9)), (5, .ifCond .eq 13, (0, 0, 0, 0)), (8, .aload_n 0, (0, 0, 0, 0)), (9, .getfield 54, (2, 9, 6, 0)), (12, .invokevirtual 183, (2, 21, 1, 1)), (15, .goto 4, (0, 0, 0, 0)), (18, .iconst (-1), (0, 0, 0, 0)), (19, .ireturn, (0, 0, 0, 0))]
def op_108 : List (Nat × Instr × tm_X) := [(0, .iload_n 1, (0, 0, 0, 0)), (1, .tableswitch 86 0 5 #[39, 44, 52, 60, 68, 77], (39, 0, 0, 0)), (40, .aload_n 0, (0, 0, 0, 0)), (41, .getfield 58, (0, 9, 7, 0)), (44, .ireturn, (0, 0, 0, 0)), (45, .aload_n 0, (0, 0, 0, 0)), (46, .getfield 19, (2, 9, 1, 0)), (49, .invokevirtual 97, (2, 49, 1, 5)), (52, .ireturn, (0, 0, 0, 0)), (53, .aload_n 0, (0, 0, 0, 0)), (54, .getfield 19, (2, 9, 1, 0)), (57, .invokevirtual 184, (2, 50, 1, 5)), (60, .ireturn, (0, 0, 0, 0)), (61, .aload_n 0, (0, 0, 0, 0)), (62, .getfield 10, (2, 9, 0, 0)), (65, .invokevirtual 82, (2, 71, 1, 7)), (68, .ireturn, (0, 0, 0, 0)), (69, .aload_n 0, (0, 0, 0, 0)), (70, .getfield 33, (2, 9, 3, 0)), (73, .iconst 1, (0, 0, 0, 0)), (74, .invokevirtual 187, (2, 38, 2, 3)), (77, .ireturn, (0, 0, 0, 0)), (78, .aload_n 0, (0, 0, 0, 0)), (79, .getfield 33, (2, 9, 3, 0)), (82, .iconst 2, (0, 0, 0, 0)), (83, .invokevirtual 187, (2, 38, 2, 3)), (86, .ireturn, (0, 0, 0, 0)), (87, .iconst (-1), (0, 0, 0, 0)), (88, .ireturn, (0, 0, 0, 0))]
def op_109 : List (Nat × Instr × tm_X) := [(0, .iload_n 1, (0, 0, 0, 0)), (1, .ifCond .lt 11, (0, 0, 0, 0)), (4, .iload_n 1, (0, 0, 0, 0)), (5, .aload_n 0, (0, 0, 0, 0)), (6, .getfield 58, (0, 9, 7, 0)), (9, .if_icmp .le 5, (0, 0, 0, 0)), (12, .iconst 0, (0, 0, 0, 0)), (13, .ireturn, (0, 0, 0, 0)), (14, .iload_n 1, (0, 0, 0, 0)), (15, .aload_n 0, (0, 0, 0, 0)), (16, .getfield 68, (0, 9, 10, 0)), (19, .if_icmp .eq 30, (0, 0, 0, 0)), (22, .aload_n 0, (0, 0, 0, 0)), (23, .getfield 19, (2, 9, 1, 0)), (26, .iload_n 1, (0, 0, 0, 0)), (27, .aload_n 0, (0, 0, 0, 0)), (28, .getfield 26, (2, 9, 2, 0)), (31, .invokevirtual 190, (2, 58, 3, 5)), (34, .aload_n 0, (0, 0, 0, 0)), (35, .iload_n 1, (0, 0, 0, 0)), (36, .putfield 68, (0, 9, 10, 0)), (39, .aload_n 0, (0, 0, 0, 0)), (40, .iconst 0, (0, 0, 0, 0)), (41, .putfield 71, (3, 9, 11, 0)), (44, .aload_n 0, (0, 0, 0, 0)), (45, .iconst 0, (0, 0, 0, 0)), (46, .putfield 75, (3, 9, 12, 0)), (49, .iconst 1, (0, 0, 0, 0)), (50, .ireturn, (0, 0, 0, 0))]
def op_110 : List (Nat × Instr × tm_X) := [(0, .aload_n 0, (0, 0, 0, 0)), (1, .iload_n 1, (0, 0, 0, 0)), (2, .invokevirtual 125, (2, 109, 2, 9)), (5, .ifCond .ne 5, (0, 0, 0, 0)), (8, .iconst 0, (0, 0, 0, 0)), (9, .ireturn, (0, 0, 0, 0)), (10, .aload_n 0, (0, 0, 0, 0)), (11, .getfield 71, (3, 9, 11, 0)), (14, .ifCond .ne 45, (0, 0, 0, 0)), (17, .aload_n 0, (0, 0, 0, 0)), (18, .getfield 40, (2, 9, 4, 0)), (21, .aload_n 0, (0, 0, 0, 0)), (22, .getfield 26, (2, 9, 2, 0)), (25, .aload_n 0, (0, 0, 0, 0)), (26, .getfield 33, (2, 9, 3, 0)), (29, .invokevirtual 194, (2, 60, 3, 6)), (32, .aload_n 0, (0, 0, 0, 0)), (33, .getfield 47, (2, 9, 5, 0)), (36, .aload_n 0, (0, 0, 0, 0)), (37, .getfield 40, (2, 9, 4, 0)), (40, .aload_n 0, (0, 0, 0, 0)), (41, .getfield 26, (2, 9, 2, 0)), (44, .invokevirtual 173, (2, 42, 1, 4)), (47, .aload_n 0, (0, 0, 0, 0)), (48, .getfield 62, (0, 9, 8, 0)), (51, .invokevirtual 198, (2, 23, 4, 2)), (54, .aload_n 0, (0, 0, 0, 0)), (55, .iconst 1, (0, 0, 0, 0)), (56, .putfield 71, (3, 9, 11, 0)), (59, .aload_n 0, (0, 0, 0, 0)), (60, .getfield 47, (2, 9, 5, 0)), (63, .invokevirtual 202, (2, 29, 1, 2)), (66, .ireturn, (0, 0, 0, 0))]
def op_111 : List (Nat × Instr × tm_X) := [(0, .aload_n 0, (0, 0, 0, 0)), (1, .iload_n 1, (0, 0, 0, 0)), (2, .invokevirtual 125, (2, 109, 2, 9)), (5, .ifCond .ne 5, (0, 0, 0, 0)), (8, .iconst 0, (0, 0, 0, 0)), (9, .ireturn, (0, 0, 0, 0)), (10, .aload_n 0, (0, 0, 0, 0)), (11, .getfield 75, (3, 9, 12, 0)), (14, .ifCond .ne 23, (0, 0, 0, 0)), (17, .aload_n 0, (0, 0, 0, 0)), (18, .getfield 54, (2, 9, 6, 0)), (21, .aload_n 0, (0, 0, 0, 0)), (22, .getfield 26, (2, 9, 2, 0)), (25, .aload_n 0, (0, 0, 0, 0)), (26, .getfield 65, (0, 9, 9, 0)), (29, .invokevirtual 206, (2, 14, 3, 1)), (32, .aload_n 0, (0, 0, 0, 0)), (33, .iconst 1, (0, 0, 0, 0)), (34, .putfield 75, (3, 9, 12, 0)), (37, .iconst 1, (0, 0, 0, 0)), (38, .ireturn, (0, 0, 0, 0))]
def op_112 : List (Nat × Instr × tm_X) := [(0, .iconst (-1), (0, 0, 0, 0)), (1, .istore_n 3, (0, 0, 0, 0)), (2, .iload_n 1, (0, 0, 0, 0)), (3, .istore 4, (0, 0, 0, 0)), (5, .iload 4, (0, 0, 0, 0)), (7, .aload_n 0, (0, 0, 0, 0)), (8, .getfield 26, (2, 9, 2, 0)), (11, .invokevirtual 173, (2, 42, 1, 4)), (14, .if_icmp .ge 67, (0, 0, 0, 0)), (17, .aload_n 0, (0, 0, 0, 0)), (18, .getfield 47, (2, 9, 5, 0)), (21, .iload 4, (0, 0, 0, 0)), (23, .invokevirtual 151, (2, 31, 2, 2)), (26, .iload_n 1, (0, 0, 0, 0)), (27, .if_icmp .ne 16, (0, 0, 0, 0)), (30, .aload_n 0, (0, 0, 0, 0)), (31, .getfield 26, (2, 9, 2, 0)), (34, .iload 4, (0, 0, 0, 0)), (36, .iload_n 2, (0, 0, 0, 0)), (37, .invokevirtual 128, (2, 44, 3, 4)), (40, .goto 4, (0, 0, 0, 0)), (43, .iconst (-1), (0, 0, 0, 0)), (44, .istore 5, (0, 0, 0, 0)), (46, .iload 5, (0, 0, 0, 0)), (48, .iconst (-1), (0, 0, 0, 0)), (49, .if_icmp .eq 17, (0, 0, 0, 0)), (52, .iload_n 3, (0, 0, 0, 0)), (53, .iconst (-1), (0, 0, 0, 0)), (54, .if_icmp .eq 12, (0, 0, 0, 0)), (57, .iload 5, (0, 0, 0, 0)), (59, .iload_n 3, (0, 0, 0, 0)), (60, .if_icmp .eq 6, (0, 0, 0, 0)), (63, .bipush (-2), (0, 0, 0, 0)), (65, .ireturn, (0, 0, 0, 0)), (66, .iload 5, (0, 0, 0, 0)), (68, .iconst (-1), (0, 0, 0, 0)), (69, .if_icmp .eq 6, (0, 0, 0, 0)), (72, .iload 5, (0, 0, 0, 0)), (74, .istore_n 3, (0, 0, 0, 0)), (75, .iinc 4 1, (0, 0, 0, 0)), (78, .goto (-73), (0, 0, 0, 0)), (81, .iload_n 3, (0, 0, 0, 0)), (82, .ireturn, (0, 0, 0, 0))]
def op_113 : List (Nat × Instr × tm_X) := [(0, .iconst (-1), (0, 0, 0, 0)), (1, .istore_n 2, (0, 0, 0, 0)), (2, .iload_n 1, (0, 0, 0, 0)), (3, .istore_n 3, (0, 0, 0, 0)), (4, .iload_n 3, (0, 0, 0, 0)), (5, .aload_n 0, (0, 0, 0, 0)), (6, .getfield 26, (2, 9, 2, 0)), (9, .invokevirtual 173, (2, 42, 1, 4)), (12, .if_icmp .ge 35, (0, 0, 0, 0)), (15, .aload_n 0, (0, 0, 0, 0)), (16, .getfield 47, (2, 9, 5, 0)), (19, .iload_n 3, (0, 0, 0, 0)), (20, .invokevirtual 151, (2, 31, 2, 2)), (23, .iload_n 1, (0, 0, 0, 0)), (24, .if_icmp .ne 17, (0, 0, 0, 0)), (27, .iload_n 2, (0, 0, 0, 0)), (28, .aload_n 0, (0, 0, 0, 0)), (29, .getfield 26, (2, 9, 2, 0)), (32, .iload_n 3, (0, 0, 0, 0)), (33, .iconst 2, (0, 0, 0, 0)), (34, .invokevirtual 128, (2, 44, 3, 4)), (37, .invokestatic 209, (7, 0, 0, 0)), (40, .istore_n 2, (0, 0, 0, 0)), (41, .iinc 3 1, (0, 0, 0, 0)), (44, .goto (-40), (0, 0, 0, 0)), (47, .iload_n 2, (0, 0, 0, 0)), (48, .ireturn, (0, 0, 0, 0))]
def op_114 : List (Nat × Instr × tm_X) := [(0, .iconst (-1), (0, 0, 0, 0)), (1, .istore_n 2, (0, 0, 0, 0)), (2, .iload_n 1, (0, 0, 0, 0)), (3, .istore_n 3, (0, 0, 0, 0)), (4, .iload_n 3, (0, 0, 0, 0)), (5, .aload_n 0, (0, 0, 0, 0)), (6, .getfield 26, (2, 9, 2, 0)), (9, .invokevirtual 173, (2, 42, 1, 4)), (12, .if_icmp .ge 55, (0, 0, 0, 0)), (15, .aload_n 0, (0, 0, 0, 0)), (16, .getfield 47, (2, 9, 5, 0)), (19, .iload_n 3, (0, 0, 0, 0)), (20, .invokevirtual 151, (2, 31, 2, 2)), (23, .iload_n 1, (0, 0, 0, 0)), (24, .if_icmp .ne 14, (0, 0, 0, 0)), (27, .aload_n 0, (0, 0, 0, 0)), (28, .getfield 26, (2, 9, 2, 0)), (31, .iload_n 3, (0, 0, 0, 0)), (32, .invokevirtual 132, (2, 45, 2, 4)), (35, .goto 4, (0, 0, 0, 0)), (38, .iconst (-1), (0, 0, 0, 0)), (39, .istore 4, (0, 0, 0, 0)), (41, .iload 4, (0, 0, 0, 0)), (43, .iconst (-1), (0, 0, 0, 0)), (44, .if_icmp .eq 17, (0, 0, 0, 0)), (47, .iload_n 2, (0, 0, 0, 0)), (48, .iconst (-1), (0, 0, 0, 0)), (49, .if_icmp .eq 9, (0, 0, 0, 0)), (52, .iload 4, (0, 0, 0, 0)), (54, .iload_n 2, (0, 0, 0, 0)), (55, .if_icmp .ge 6, (0, 0, 0, 0)), (58, .iload 4, (0, 0, 0, 0)), (60, .istore_n 2, (0, 0, 0, 0)), (61, .iinc 3 1, (0, 0, 0, 0)), (64, .goto (-60), (0, 0, 0, 0)), (67, .iload_n 2, (0, 0, 0, 0)), (68, .ireturn, (0, 0, 0, 0))]
def op_115 : List (Nat × Instr × tm_X) := [(0, .aload_n 0, (0, 0, 0, 0)), (1, .iload_n 1, (0, 0, 0, 0)), (2, .invokevirtual 164, (2, 113, 2, 9)), (5, .aload_n 0, (0, 0, 0, 0)), (6, .iload_n 1, (0, 0, 0, 0)), (7, .invokevirtual 167, (2, 114, 2, 9)), (10, .if_icmp .le 7, (0, 0, 0, 0)), (13, .iconst 1, (0, 0, 0, 0)), (14, .goto 4, (0, 0, 0, 0)), (17, .iconst 0, (0, 0, 0, 0)), (18, .ireturn, (0, 0, 0, 0))]
def op_116 : List (Nat × Instr × tm_X) := [(0, .aload_n 0, (0, 0, 0, 0)), (1, .invokespecial 3, (4, 0, 0, 0)), (4, .aload_n 0, (0, 0, 0, 0)), (5, .bipush 10, (0, 0, 0, 0)), (7, .putfield 9, (0, 10, 3, 0)), (10, .aload_n 0, (0, 0, 0, 0)), (11, .iconst 3, (0, 0, 0, 0)), (12, .putfield 13, (0, 10, 4, 0)), (15, .aload_n 0, (0, 0, 0, 0)), (16, .bipush 100, (0, 0, 0, 0)), (18, .newarray .int, (1, 0, 0, 0)), (20, .putfield 16, (2, 10, 5, 0)), (23, .aload_n 0, (0, 0, 0, 0)), (24, .iconst 5, (0, 0, 0, 0)), (25, .newarray .int, (1, 0, 0, 0)), (27, .putfield 20, (2, 10, 9, 0)), (30, .aload_n 0, (0, 0, 0, 0)), (31, .bipush 18, (0, 0, 0, 0)), (33, .newarray .int, (1, 0, 0, 0)), (35, .putfield 23, (2, 10, 11, 0)), (38, .aload_n 0, (0, 0, 0, 0)), (39, .iconst 3, (0, 0, 0, 0)), (40, .newarray .int, (1, 0, 0, 0)), (42, .putfield 26, (2, 10, 12, 0)), (45, .aload_n 0, (0, 0, 0, 0)), (46, .bipush 70, (0, 0, 0, 0)), (48, .newarray .int, (1, 0, 0, 0)), (50, .putfield 29, (2, 10, 15, 0)), (53, .aload_n 0, (0, 0, 0, 0)), (54, .bipush 70, (0, 0, 0, 0)), (56, .newarray .int, (1, 0, 0, 0)), (58, .putfield 32, (2, 10, 16, 0)), (61, .aload_n 0, (0, 0, 0, 0)), (62, .bipush 70, (0, 0, 0, 0)), (64, .newarray .int, (1, 0, 0, 0)), (66, .putfield 35, (2, 10, 17, 0)), (69, .aload_n 0, (0, 0, 0, 0)), (70, .bipush 70, (0, 0, 0, 0)), (72, .newarray .int, (1, 0, 0, 0)), (74, .putfield 38, (2, 10, 18, 0)), (77, .aload_n 0, (0, 0, 0, 0)), (78, .sipush 350, (0, 0, 0, 0)), (81, .newarray .int, (1, 0, 0, 0)), (83, .putfield 41, (2, 10, 19, 0)), (86, .aload_n 0, (0, 0, 0, 0)), (87, .bipush 70, (0, 0, 0, 0)), (89, .newarray .int, (1, 0, 0, 0)), (91, .putfield 44, (2, 10, 20, 0)), (94, .aload_n 0, (0, 0, 0, 0)), (95, .bipush 70, (0, 0, 0, 0)), (97, .newarray .int, (1, 0, 0, 0)), (99, .putfield 47, (2, 10, 21, 0)), (102, .aload_n 0, (0, 0, 0, 0)), (103, .sipush 1260, (0, 0, 0, 0)), (106, .newarray .int, (1, 0, 0, 0)), (108, .putfield 50, (2, 10, 22, 0)), (111, .aload_n 0, (0, 0, 0, 0)), (112, .sipush 210, (0, 0, 0, 0)), (115, .newarray .int, (1, 0, 0, 0)), (117, .putfield 53, (2, 10, 23, 0)), (120, .aload_n 0, (0, 0, 0, 0)), (121, .bipush 10, (0, 0, 0, 0)), (123, .newarray .int, (1, 0, 0, 0)), (125, .putfield 56, (2, 10, 24, 0)), (128, .aload_n 0, (0, 0, 0, 0)), (129, .bipush 50, (0, 0, 0, 0)), (131, .newarray .int, (1, 0, 0, 0)), (133, .putfield 59, (2, 10, 25, 0)), (136, .aload_n 0, (0, 0, 0, 0)), (137, .bipush 10, (0, 0, 0, 0)), (139, .newarray .int, (1, 0, 0, 0)), (141, .putfield 62, (2, 10, 27, 0)), (144, .aload_n 0, (0, 0, 0, 0)), (145, .bipush 100, (0, 0, 0, 0)), (147, .newarray .int, (1, 0, 0, 0)), (149, .putfield 65, (2, 10, 28, 0)), (152, .aload_n 0, (0, 0, 0, 0)), (153, .bipush 100, (0, 0, 0, 0)), (155, .newarray .int, (1, 0, 0, 0)), (157, .putfield 68, (2, 10, 29, 0)), (160, .aload_n 0, (0, 0, 0, 0)), (161, .bipush 10, (0, 0, 0, 0)), (163, .newarray .int, (1, 0, 0, 0)), (165, .putfield 71, (2, 10, 30, 0)), (168, .aload_n 0, (0, 0, 0, 0)), (169, .bipush 10, (0, 0, 0, 0)), (171, .newarray .int, (1, 0, 0, 0)), (173, .putfield 74, (2, 10, 31, 0)), (176, .aload_n 0, (0, 0, 0, 0)), (177, .bipush 10, (0, 0, 0, 0)), (179, .newarray .int, (1, 0, 0, 0)), (181, .putfield 77, (2, 10, 35, 0)), (184, .aload_n 0, (0, 0, 0, 0)), (185, .iconst 3, (0, 0, 0, 0)), (186, .newarray .int, (1, 0, 0, 0)), (188, .putfield 80, (2, 10, 36, 0)), (191, .return_, (0, 0, 0, 0))]
def op_117 : List (Nat × Instr × tm_X) := [(0, .iload_n 0, (0, 0, 0, 0)), (1, .iload_n 1, (0, 0, 0, 0)), (2, .if_icmp .lt 12, (0, 0, 0, 0)), (5, .iload_n 0, (0, 0, 0, 0)), (6, .iload_n 2, (0, 0, 0, 0)), (7, .if_icmp .gt 7, (0, 0, 0, 0)), (10, .iconst 1, (0, 0, 0, 0)), (11, .goto 4, (0, 0, 0, 0)), (14, .iconst 0, (0, 0, 0, 0)), (15, .ireturn, (0, 0, 0, 0))]
def op_118 : List (Nat × Instr × tm_X) := [(0, .iload_n 1, (0, 0, 0, 0)), (1, .iconst 0, (0, 0, 0, 0)), (2, .sipush 1000, (0, 0, 0, 0)), (5, .invokestatic 83, (1, 117, 3, 0)), (8, .ifCond .eq 15, (0, 0, 0, 0)), (11, .aload_n 0, (0, 0, 0, 0)), (12, .getfield 87, (0, 10, 0, 0)), (15, .iload_n 1, (0, 0, 0, 0)), (16, .iadd, (0, 0, 0, 0)), (17, .sipush 1000, (0, 0, 0, 0)), (20, .if_icmp .le 5, (0, 0, 0, 0)), (23, .iconst (-1), (0, 0, 0, 0)), (24, .ireturn, (0, 0, 0, 0)), (25, .aload_n 0, (0, 0, 0, 0)), (26, .dup, (0, 0, 0, 0)), (27, .getfield 87, (0, 10, 0, 0)), (30, .iload_n 1, (0, 0, 0, 0)), (31, .iadd, (0, 0, 0, 0)), (32, .putfield 87, (0, 10, 0, 0)), (35, .aload_n 0, (0, 0, 0, 0)), (36, .getfield 87, (0, 10, 0, 0)), (39, .ireturn, (0, 0, 0, 0))]
def op_119 : List (Nat × Instr × tm_X) := [(0, .iload 5, (0, 0, 0, 0)), (2, .iconst 4, (0, 0, 0, 0)), (3, .if_icmp .ge 7, (0, 0, 0, 0)), (6, .iload_n 0, (0, 0, 0, 0)), (7, .goto 38, (0, 0, 0, 0)), (10, .iload 5, (0, 0, 0, 0)), (12, .bipush 8, (0, 0, 0, 0)), (14, .if_icmp .ge 7, (0, 0, 0, 0)), (17, .iload_n 1, (0, 0, 0, 0)), (18, .goto 27, (0, 0, 0, 0)), (21, .iload 5, (0, 0, 0, 0)), (23, .bipush 12, (0, 0, 0, 0)), (25, .if_icmp .ge 7, (0, 0, 0, 0)), (28, .iload_n 2, (0, 0, 0, 0)), (29, .goto 16, (0, 0, 0, 0)), (32, .iload 5, (0, 0, 0, 0)), (34, .bipush 16, (0, 0, 0, 0)), (36, .if_icmp .ge 7, (0, 0, 0, 0)), (39, .iload_n 3, (0, 0, 0, 0)), (40, .goto 5, (0, 0, 0, 0)), (43, .iload 4, (0, 0, 0, 0)), (45, .istore 6, (0, 0, 0, 0)), (47, .iload 6, (0, 0, 0, 0)), (49, .bipush 24, (0, 0, 0, 0)), (51, .bipush 8, (0, 0, 0, 0)), (53, .iload 5, (0, 0, 0, 0)), (55, .iconst 4, (0, 0, 0, 0)), (56, .irem, (0, 0, 0, 0)), (57, .imul, (0, 0, 0, 0)), (58, .isub, (0, 0, 0, 0)), (59, .ishr, (0, 0, 0, 0)), (60, .sipush 255, (0, 0, 0, 0)), (63, .iand, (0, 0, 0, 0)), (64, .ireturn, (0, 0, 0, 0))]
def op_120 : List (Nat × Instr × tm_X) := [(0, .iconst 0, (0, 0, 0, 0)), (1, .istore 6, (0, 0, 0, 0)), (3, .iconst 0, (0, 0, 0, 0)), (4, .istore 7, (0, 0, 0, 0)), (6, .iload 7, (0, 0, 0, 0)), (8, .bipush 20, (0, 0, 0, 0)), (10, .if_icmp .ge 34, (0, 0, 0, 0)), (13, .iload 6, (0, 0, 0, 0)), (15, .iload_n 1, (0, 0, 0, 0)), (16, .iload_n 2, (0, 0, 0, 0)), (17, .iload_n 3, (0, 0, 0, 0)), (18, .iload 4, (0, 0, 0, 0)), (20, .iload 5, (0, 0, 0, 0)), (22, .iload 7, (0, 0, 0, 0)), (24, .invokestatic 90, (1, 119, 6, 0)), (27, .ifCond .eq 7, (0, 0, 0, 0)), (30, .iconst 1, (0, 0, 0, 0)), (31, .goto 4, (0, 0, 0, 0)), (34, .iconst 0, (0, 0, 0, 0)), (35, .iadd, (0, 0, 0, 0)), (36, .istore 6, (0, 0, 0, 0)), (38, .iinc 7 1, (0, 0, 0, 0)), (41, .goto (-35), (0, 0, 0, 0)), (44, .aload_n 0, (0, 0, 0, 0)), (45, .getfield 94, (0, 10, 6, 0)), (48, .iload 6, (0, 0, 0, 0)), (50, .iadd, (0, 0, 0, 0)), (51, .bipush 100, (0, 0, 0, 0)), (53, .if_icmp .le 5, (0, 0, 0, 0)), (56, .iconst (-1), (0, 0, 0, 0)), (57, .ireturn, (0, 0, 0, 0)), (58, .iconst 0, (0, 0, 0, 0)), (59, .istore 7, (0, 0, 0, 0)), (61, .iload 7, (0, 0, 0, 0)), (63, .bipush 20, (0, 0, 0, 0)), (65, .if_icmp .ge 49, (0, 0, 0, 0)), (68, .iload_n 1, (0, 0, 0, 0)), (69, .iload_n 2, (0, 0, 0, 0)), (70, .iload_n 3, (0, 0, 0, 0)), (71, .iload 4, (0, 0, 0, 0)), (73, .iload 5, (0, 0, 0, 0)), (75, .iload 7, (0, 0, 0, 0)), (77, .invokestatic 90, (1, 119, 6, 0)), (80, .istore 8, (0, 0, 0, 0)), (82, .iload 8, (0, 0, 0, 0)), (84, .ifCond .eq 24, (0, 0, 0, 0)), (87, .aload_n 0, (0, 0, 0, 0)), (88, .getfield 16, (2, 10, 5, 0)), (91, .aload_n 0, (0, 0, 0, 0)), (92, .getfield 94, (0, 10, 6, 0)), (95, .iload 8, (0, 0, 0, 0)), (97, .iastore, (0, 0, 0, 0)), (98, .aload_n 0, (0, 0, 0, 0)), (99, .dup, (0, 0, 0, 0)), (100, .getfield 94, (0, 10, 6, 0)), (103, .iconst 1, (0, 0, 0, 0)), (104, .iadd, (0, 0, 0, 0)), (105, .putfield 94, (0, 10, 6, 0)), (108, .iinc 7 1, (0, 0, 0, 0)), (111, .goto (-50), (0, 0, 0, 0)), (114, .aload_n 0, (0, 0, 0, 0)), (115, .getfield 94, (0, 10, 6, 0)), (118, .ireturn, (0, 0, 0, 0))]
def op_121 : List (Nat × Instr × tm_X) := [(0, .iload_n 1, (0, 0, 0, 0)), (1, .ifCond .lt 11, (0, 0, 0, 0)), (4, .iload_n 1, (0, 0, 0, 0)), (5, .aload_n 0, (0, 0, 0, 0)), (6, .getfield 94, (0, 10, 6, 0)), (9, .if_icmp .le 5, (0, 0, 0, 0)), (12, .iconst 0, (0, 0, 0, 0)), (13, .ireturn, (0, 0, 0, 0)), (14, .aload_n 0, (0, 0, 0, 0)), (15, .iload_n 1, (0, 0, 0, 0)), (16, .putfield 94, (0, 10, 6, 0)), (19, .iconst 1, (0, 0, 0, 0)), (20, .ireturn, (0, 0, 0, 0))]
def op_122 : List (Nat × Instr × tm_X) := [(0, .iload_n 1, (0, 0, 0, 0)), (1, .aload_n 0, (0, 0, 0, 0)), (2, .getfield 94, (0, 10, 6, 0)), (5, .if_icmp .ge 12, (0, 0, 0, 0)), (8, .aload_n 0, (0, 0, 0, 0)), (9, .getfield 16, (2, 10, 5, 0)), (12, .iload_n 1, (0, 0, 0, 0)), (13, .iaload, (0, 0, 0, 0)), (14, .goto 4, (0, 0, 0, 0)), (17, .iconst (-1), (0, 0, 0, 0)), (18, .ireturn, (0, 0, 0, 0))]
def op_123 : List (Nat × Instr × tm_X) := [(0, .iload_n 0, (0, 0, 0, 0)), (1, .bipush 48, (0, 0, 0, 0)), (3, .if_icmp .lt 13, (0, 0, 0, 0)), (6, .iload_n 0, (0, 0, 0, 0)), (7, .bipush 57, (0, 0, 0, 0)), (9, .if_icmp .gt 7, (0, 0, 0, 0)), (12, .iconst 1, (0, 0, 0, 0)), (13, .goto 4, (0, 0, 0, 0)), (16, .iconst 0, (0, 0, 0, 0)), (17, .ireturn, (0, 0, 0, 0))]
def op_124 : List (Nat × Instr × tm_X) := [(0, .iload_n 0, (0, 0, 0, 0)), (1, .bipush 97, (0, 0, 0, 0)), (3, .if_icmp .lt 13, (0, 0, 0, 0)), (6, .iload_n 0, (0, 0, 0, 0)), (7, .bipush 122, (0, 0, 0, 0)), (9, .if_icmp .gt 7, (0, 0, 0, 0)), (12, .iconst 1, (0, 0, 0, 0)), (13, .goto 4, (0, 0, 0, 0)), (16, .iconst 0, (0, 0, 0, 0)), (17, .ireturn, (0, 0, 0, 0))]
def op_125 : List (Nat × Instr × tm_X) := [(0, .iload_n 1, (0, 0, 0, 0)), (1, .istore_n 2, (0, 0, 0, 0)), (2, .iconst 0, (0, 0, 0, 0)), (3, .istore_n 3, (0, 0, 0, 0)), (4, .aload_n 0, (0, 0, 0, 0)), (5, .iload_n 2, (0, 0, 0, 0)), (6, .invokevirtual 97, (2, 122, 2, 10)), (9, .invokestatic 101, (1, 123, 1, 0)), (12, .ifCond .eq 37, (0, 0, 0, 0)), (15, .iload_n 2, (0, 0, 0, 0)), (16, .iload_n 1, (0, 0, 0, 0)), (17, .isub, (0, 0, 0, 0)), (18, .iconst 4, (0, 0, 0, 0)), (19, .if_icmp .ge 20, (0, 0, 0, 0)), (22, .bipush 10, (0, 0, 0, 0)), (24, .iload_n 3, (0, 0, 0, 0)), (25, .imul, (0, 0, 0, 0)), (26, .aload_n 0, (0, 0, 0, 0)), (27, .getfield 16, (2, 10, 5, 0)), (30, .iload_n 2, (0, 0, 0, 0)), (31, .iaload, (0, 0, 0, 0)), (32, .iadd, (0, 0, 0, 0)), (33, .bipush 48, (0, 0, 0, 0)), (35, .isub, (0, 0, 0, 0)), (36, .goto 6, (0, 0, 0, 0)), (39, .sipush 10000, (0, 0, 0, 0)), (42, .istore_n 3, (0, 0, 0, 0)), (43, .iinc 2 1, (0, 0, 0, 0)), (46, .goto (-42), (0, 0, 0, 0)), (49, .aload_n 0, (0, 0, 0, 0)), (50, .iload_n 2, (0, 0, 0, 0)), (51, .iload_n 1, (0, 0, 0, 0)), (52, .if_icmp .ne 9, (0, 0, 0, 0)), (55, .sipush 10000, (0, 0, 0, 0)), (58, .goto 4, (0, 0, 0, 0)), (61, .iload_n 3, (0, 0, 0, 0)), (62, .putfield 105, (0, 10, 13, 0)), (65, .iload_n 2, (0, 0, 0, 0)), (66, .ireturn, (0, 0, 0, 0))]
def op_126 : List (Nat × Instr × tm_X) := [(0, .iload_n 0, (0, 0, 0, 0)), (1, .ifCond .ne 8, (0, 0, 0, 0)), (4, .bipush 99, (0, 0, 0, 0)), (6, .goto 26, (0, 0, 0, 0)), (9, .iload_n 0, (0, 0, 0, 0)), (10, .iconst 1, (0, 0, 0, 0)), (11, .if_icmp .ne 9, (0, 0, 0, 0)), (14, .sipush 999, (0, 0, 0, 0)), (17, .goto 15, (0, 0, 0, 0)), (20, .iload_n 0, (0, 0, 0, 0)), (21, .iconst 2, (0, 0, 0, 0)), (22, .if_icmp .ne 9, (0, 0, 0, 0)), (25, .sipush 9999, (0, 0, 0, 0)), (28, .goto 4, (0, 0, 0, 0)), (31, .iconst 2, (0, 0, 0, 0)), (32, .ireturn, (0, 0, 0, 0))]
def op_127 : List (Nat × Instr × tm_X) := [(0, .aload_n 0, (0, 0, 0, 0)), (1, .getfield 16, (2, 10, 5, 0)), (4, .iload_n 1, (0, 0, 0, 0)), (5, .iaload, (0, 0, 0, 0)), (6, .istore_n 2, (0, 0, 0, 0)), (7, .iload_n 2, (0, 0, 0, 0)), (8, .bipush 112, (0, 0, 0, 0)), (10, .if_icmp .ne 7, (0, 0, 0, 0)), (13, .iconst 0, (0, 0, 0, 0)), (14, .goto 44, (0, 0, 0, 0)), (17, .iload_n 2, (0, 0, 0, 0)), (18, .bipush 100, (0, 0, 0, 0)), (20, .if_icmp .ne 7, (0, 0, 0, 0)), (23, .iconst 1, (0, 0, 0, 0)), (24, .goto 34, (0, 0, 0, 0)), (27, .iload_n 2, (0, 0, 0, 0)), (28, .bipush 110, (0, 0, 0, 0)), (30, .if_icmp .ne 7, (0, 0, 0, 0)), (33, .iconst 2, (0, 0, 0, 0)), (34, .goto 24, (0, 0, 0, 0)), (37, .iload_n 2, (0, 0, 0, 0)), (38, .bipush 119, (0, 0, 0, 0)), (40, .if_icmp .ne 7, (0, 0, 0, 0)), (43, .iconst 3, (0, 0, 0, 0)), (44, .goto 14, (0, 0, 0, 0)), (47, .iload_n 2, (0, 0, 0, 0)), (48, .bipush 107, (0, 0, 0, 0)), (50, .if_icmp .ne 7, (0, 0, 0, 0)), (53, .iconst 4, (0, 0, 0, 0)), (54, .goto 4, (0, 0, 0, 0)), (57, .iconst (-1), (0, 0, 0, 0)), (58, .istore_n 3, (0, 0, 0, 0)), (59, .iload_n 3, (0, 0, 0, 0)), (60, .iconst (-1), (0, 0, 0, 0)), (61, .if_icmp .eq 15, (0, 0, 0, 0)), (64, .aload_n 0, (0, 0, 0, 0)), (65, .getfield 108, (0, 10, 7, 0)), (68, .iload_n 3, (0, 0, 0, 0)), (69, .ishr, (0, 0, 0, 0)), (70, .iconst 1, (0, 0, 0, 0)), (71, .iand, (0, 0, 0, 0)), (72, .iconst 1, (0, 0, 0, 0)), (73, .if_icmp .ne 5, (0, 0, 0, 0)), (76, .iconst (-1), (0, 0, 0, 0)), (77, .ireturn, (0, 0, 0, 0)), (78, .aload_n 0, (0, 0, 0, 0)), (79, .dup, (0, 0, 0, 0)), (80, .getfield 108, (0, 10, 7, 0)), (83, .iconst 1, (0, 0, 0, 0)), (84, .iload_n 3, (0, 0, 0, 0)), (85, .ishl, (0, 0, 0, 0)), (86, .ior, (0, 0, 0, 0)), (87, .putfield 108, (0, 10, 7, 0)), (90, .iload_n 3, (0, 0, 0, 0)), (91, .iconst 3, (0, 0, 0, 0)), (92, .if_icmp .ne 11, (0, 0, 0, 0)), (95, .aload_n 0, (0, 0, 0, 0)), (96, .iload_n 1, (0, 0, 0, 0)), (97, .iconst 1, (0, 0, 0, 0)), (98, .iadd, (0, 0, 0, 0)), (99, .invokevirtual 111, (2, 129, 2, 10)), (102, .ireturn, (0, 0, 0, 0)), (103, .aload_n 0, (0, 0, 0, 0)), (104, .iload_n 1, (0, 0, 0, 0)), (105, .iconst 1, (0, 0, 0, 0)), (106, .iadd, (0, 0, 0, 0)), (107, .invokevirtual 114, (2, 125, 2, 10)), (110, .istore 4, (0, 0, 0, 0)), (112, .aload_n 0, (0, 0, 0, 0)), (113, .getfield 105, (0, 10, 13, 0)), (116, .iload_n 3, (0, 0, 0, 0)), (117, .invokestatic 117, (1, 126, 1, 0)), (120, .if_icmp .le 5, (0, 0, 0, 0)), (123, .iconst (-1), (0, 0, 0, 0)), (124, .ireturn, (0, 0, 0, 0)), (125, .aload_n 0, (0, 0, 0, 0)), (126, .getfield 20, (2, 10, 9, 0)), (129, .iload_n 3, (0, 0, 0, 0)), (130, .aload_n 0, (0, 0, 0, 0)), (131, .getfield 105, (0, 10, 13, 0)), (134, .iastore, (0, 0, 0, 0)), (135, .aload_n 0, (0, 0, 0, 0)), (136, .iload_n 3, (0, 0, 0, 0)), (137, .iconst 2, (0, 0, 0, 0)), (138, .if_icmp .ne 10, (0, 0, 0, 0)), (141, .aload_n 0, (0, 0, 0, 0)), (142, .getfield 105, (0, 10, 13, 0)), (145, .goto 7, (0, 0, 0, 0)), (148, .aload_n 0, (0, 0, 0, 0)), (149, .getfield 120, (0, 10, 10, 0)), (152, .putfield 120, (0, 10, 10, 0)), (155, .iload_n 3, (0, 0, 0, 0)), (156, .iconst 2, (0, 0, 0, 0)), (157, .if_icmp .ne 57, (0, 0, 0, 0)), (160, .aload_n 0, (0, 0, 0, 0)), (161, .iload 4, (0, 0, 0, 0)), (163, .invokevirtual 97, (2, 122, 2, 10)), (166, .bipush 45, (0, 0, 0, 0)), (168, .if_icmp .ne 46, (0, 0, 0, 0)), (171, .aload_n 0, (0, 0, 0, 0)), (172, .iload 4, (0, 0, 0, 0)), (174, .iconst 1, (0, 0, 0, 0)), (175, .iadd, (0, 0, 0, 0)), (176, .invokevirtual 114, (2, 125, 2, 10)), (179, .istore 4, (0, 0, 0, 0)), (181, .aload_n 0, (0, 0, 0, 0)), (182, .getfield 105, (0, 10, 13, 0)), (185, .sipush 9999, (0, 0, 0, 0)), (188, .if_icmp .gt 16, (0, 0, 0, 0)), (191, .aload_n 0, (0, 0, 0, 0)), (192, .getfield 105, (0, 10, 13, 0)), (195, .aload_n 0, (0, 0, 0, 0)), (196, .getfield 20, (2, 10, 9, 0)), (199, .iconst 2, (0, 0, 0, 0)), (200, .iaload, (0, 0, 0, 0)), (201, .if_icmp .ge 5, (0, 0, 0, 0)), (204, .iconst (-1), (0, 0, 0, 0)), (205, .ireturn, (0, 0, 0, 0)), (206, .aload_n 0, (0, 0, 0, 0)), (207, .aload_n 0, (0, 0, 0, 0)), (208, .getfield 105, (0, 10, 13, 0)), (211, .putfield 120, (0, 10, 10, 0)), (214, .iload 4, (0, 0, 0, 0)), (216, .ireturn, (0, 0, 0, 0))]
def op_128 : List (Nat × Instr × tm_X) := [(0, .aload_n 0, (0, 0, 0, 0)), (1, .getfield 26, (2, 10, 12, 0)), (4, .iload_n 1, (0, 0, 0, 0)), (5, .iaload, (0, 0, 0, 0)), (6, .aload_n 0, (0, 0, 0, 0)), (7, .getfield 26, (2, 10, 12, 0)), (10, .iload_n 2, (0, 0, 0, 0)), (11, .iaload, (0, 0, 0, 0)), (12, .if_icmp .eq 5, (0, 0, 0, 0)), (15, .iconst 0, (0, 0, 0, 0)), (16, .ireturn, (0, 0, 0, 0)), (17, .iconst 0, (0, 0, 0, 0)), (18, .istore_n 3, (0, 0, 0, 0)), (19, .iload_n 3, (0, 0, 0, 0)), (20, .aload_n 0, (0, 0, 0, 0)), (21, .getfield 26, (2, 10, 12, 0)), (24, .iload_n 1, (0, 0, 0, 0)), (25, .iaload, (0, 0, 0, 0)), (26, .if_icmp .ge 36, (0, 0, 0, 0)), (29, .aload_n 0, (0, 0, 0, 0)), (30, .getfield 23, (2, 10, 11, 0)), (33, .bipush 6, (0, 0, 0, 0)), (35, .iload_n 1, (0, 0, 0, 0)), (36, .imul, (0, 0, 0, 0)), (37, .iload_n 3, (0, 0, 0, 0)), (38, .iadd, (0, 0, 0, 0)), (39, .iaload, (0, 0, 0, 0)), (40, .aload_n 0, (0, 0, 0, 0)), (41, .getfield 23, (2, 10, 11, 0)), (44, .bipush 6, (0, 0, 0, 0)), (46, .iload_n 2, (0, 0, 0, 0)), (47, .imul, (0, 0, 0, 0)), (48, .iload_n 3, (0, 0, 0, 0)), (49, .iadd, (0, 0, 0, 0)), (50, .iaload, (0, 0, 0, 0)), (51, .if_icmp .eq 5, (0, 0, 0, 0)), (54, .iconst 0, (0, 0, 0, 0)), (55, .ireturn, (0, 0, 0, 0)), (56, .iinc 3 1, (0, 0, 0, 0)), (59, .goto (-40), (0, 0, 0, 0)), (62, .iconst 1, (0, 0, 0, 0)), (63, .ireturn, (0, 0, 0, 0))]
def op_129 : List (Nat × Instr × tm_X) := [(0, .aload_n 0, (0, 0, 0, 0)), (1, .iconst 0, (0, 0, 0, 0)), (2, .putfield 123, (0, 10, 8, 0)), (5, .iload_n 1, (0, 0, 0, 0)), (6, .istore_n 2, (0, 0, 0, 0)), (7, .iconst 0, (0, 0, 0, 0)), (8, .istore_n 3, (0, 0, 0, 0)), (9, .aload_n 0, (0, 0, 0, 0)), (10, .iload_n 2, (0, 0, 0, 0)), (11, .invokevirtual 97, (2, 122, 2, 10)), (14, .invokestatic 126, (1, 124, 1, 0)), (17, .ifCond .eq 46, (0, 0, 0, 0)), (20, .iload_n 3, (0, 0, 0, 0)), (21, .bipush 6, (0, 0, 0, 0)), (23, .if_icmp .ge 31, (0, 0, 0, 0)), (26, .aload_n 0, (0, 0, 0, 0)), (27, .getfield 123, (0, 10, 8, 0)), (30, .iconst 3, (0, 0, 0, 0)), (31, .if_icmp .ge 23, (0, 0, 0, 0)), (34, .aload_n 0, (0, 0, 0, 0)), (35, .getfield 23, (2, 10, 11, 0)), (38, .bipush 6, (0, 0, 0, 0)), (40, .aload_n 0, (0, 0, 0, 0)), (41, .getfield 123, (0, 10, 8, 0)), (44, .imul, (0, 0, 0, 0)), (45, .iload_n 3, (0, 0, 0, 0)), (46, .iadd, (0, 0, 0, 0)), (47, .aload_n 0, (0, 0, 0, 0)), (48, .getfield 16, (2, 10, 5, 0)), (51, .iload_n 2, (0, 0, 0, 0)), (52, .iaload, (0, 0, 0, 0)), (53, .iastore, (0, 0, 0, 0)), (54, .iinc 3 1, (0, 0, 0, 0)), (57, .iinc 2 1, (0, 0, 0, 0)), (60, .goto (-51), (0, 0, 0, 0)), (63, .iload_n 3, (0, 0, 0, 0)), (64, .ifCond .eq 17, (0, 0, 0, 0)), (67, .iload_n 3, (0, 0, 0, 0)), (68, .bipush 6, (0, 0, 0, 0)), (70, .if_icmp .gt 11, (0, 0, 0, 0)), (73, .aload_n 0, (0, 0, 0, 0)), (74, .getfield 123, (0, 10, 8, 0)), (77, .iconst 3, (0, 0, 0, 0)), (78, .if_icmp .ne 5, (0, 0, 0, 0)), (81, .iconst (-1), (0, 0, 0, 0)), (82, .ireturn, (0, 0, 0, 0)), (83, .aload_n 0, (0, 0, 0, 0)), (84, .getfield 26, (2, 10, 12, 0)), (87, .aload_n 0, (0, 0, 0, 0)), (88, .getfield 123, (0, 10, 8, 0)), (91, .iload_n 3, (0, 0, 0, 0)), (92, .iastore, (0, 0, 0, 0)), (93, .iconst 0, (0, 0, 0, 0)), (94, .istore 4, (0, 0, 0, 0)), (96, .iload 4, (0, 0, 0, 0)), (98, .aload_n 0, (0, 0, 0, 0)), (99, .getfield 123, (0, 10, 8, 0)), (102, .if_icmp .ge 24, (0, 0, 0, 0)), (105, .aload_n 0, (0, 0, 0, 0)), (106, .iload 4, (0, 0, 0, 0)), (108, .aload_n 0, (0, 0, 0, 0)), (109, .getfield 123, (0, 10, 8, 0)), (112, .invokevirtual 129, (2, 128, 3, 10)), (115, .ifCond .eq 5, (0, 0, 0, 0)), (118, .iconst (-1), (0, 0, 0, 0)), (119, .ireturn, (0, 0, 0, 0)), (120, .iinc 4 1, (0, 0, 0, 0)), (123, .goto (-27), (0, 0, 0, 0)), (126, .aload_n 0, (0, 0, 0, 0)), (127, .dup, (0, 0, 0, 0)), (128, .getfield 123, (0, 10, 8, 0)), (131, .iconst 1, (0, 0, 0, 0)), (132, .iadd, (0, 0, 0, 0)), (133, .putfield 123, (0, 10, 8, 0)), (136, .aload_n 0, (0, 0, 0, 0)), (137, .iload_n 2, (0, 0, 0, 0)), (138, .invokevirtual 97, (2, 122, 2, 10)), (141, .bipush 44, (0, 0, 0, 0)), (143, .if_icmp .eq 5, (0, 0, 0, 0)), (146, .iload_n 2, (0, 0, 0, 0)), (147, .ireturn, (0, 0, 0, 0)), (148, .iinc 2 1, (0, 0, 0, 0)), (151, .goto (-144), (0, 0, 0, 0))]
def op_130 : List (Nat × Instr × tm_X) := [(0, .iload_n 1, (0, 0, 0, 0)), (1, .istore_n 2, (0, 0, 0, 0)), (2, .aload_n 0, (0, 0, 0, 0)), (3, .iload_n 2, (0, 0, 0, 0)), (4, .invokevirtual 97, (2, 122, 2, 10)), (7, .bipush 32, (0, 0, 0, 0)), (9, .if_icmp .ne 9, (0, 0, 0, 0)), (12, .iinc 2 1, (0, 0, 0, 0)), (15, .goto (-13), (0, 0, 0, 0)), (18, .iload_n 2, (0, 0, 0, 0)), (19, .ireturn, (0, 0, 0, 0))]
def op_131 : List (Nat × Instr × tm_X) := [(0, .aload_n 0, (0, 0, 0, 0)), (1, .iconst 0, (0, 0, 0, 0)), (2, .putfield 108, (0, 10, 7, 0)), (5, .aload_n 0, (0, 0, 0, 0)), (6, .iconst 0, (0, 0, 0, 0)), (7, .putfield 123, (0, 10, 8, 0)), (10, .aload_n 0, (0, 0, 0, 0)), (11, .iconst 0, (0, 0, 0, 0)), (12, .invokevirtual 133, (2, 130, 2, 10)), (15, .istore_n 1, (0, 0, 0, 0)), (16, .iload_n 1, (0, 0, 0, 0)), (17, .aload_n 0, (0, 0, 0, 0)), (18, .getfield 94, (0, 10, 6, 0)), (21, .if_icmp .ne 8, (0, 0, 0, 0)), (24, .aload_n 0, (0, 0, 0, 0)), (25, .getfield 94, (0, 10, 6, 0)), (28, .ireturn, (0, 0, 0, 0)), (29, .iload_n 1, (0, 0, 0, 0)), (30, .aload_n 0, (0, 0, 0, 0)), (31, .getfield 94, (0, 10, 6, 0)), (34, .if_icmp .ge 46, (0, 0, 0, 0)), (37, .aload_n 0, (0, 0, 0, 0)), (38, .iload_n 1, (0, 0, 0, 0)), (39, .invokevirtual 136, (2, 127, 2, 10)), (42, .istore_n 2, (0, 0, 0, 0)), (43, .iload_n 2, (0, 0, 0, 0)), (44, .iconst (-1), (0, 0, 0, 0)), (45, .if_icmp .ne 5, (0, 0, 0, 0)), (48, .iload_n 1, (0, 0, 0, 0)), (49, .ireturn, (0, 0, 0, 0)), (50, .iload_n 2, (0, 0, 0, 0)), (51, .aload_n 0, (0, 0, 0, 0)), (52, .getfield 94, (0, 10, 6, 0)), (55, .if_icmp .ge 16, (0, 0, 0, 0)), (58, .aload_n 0, (0, 0, 0, 0)), (59, .getfield 16, (2, 10, 5, 0)), (62, .iload_n 2, (0, 0, 0, 0)), (63, .iaload, (0, 0, 0, 0)), (64, .bipush 32, (0, 0, 0, 0)), (66, .if_icmp .eq 5, (0, 0, 0, 0)), (69, .iload_n 2, (0, 0, 0, 0)), (70, .ireturn, (0, 0, 0, 0)), (71, .aload_n 0, (0, 0, 0, 0)), (72, .iload_n 2, (0, 0, 0, 0)), (73, .invokevirtual 133, (2, 130, 2, 10)), (76, .istore_n 1, (0, 0, 0, 0)), (77, .goto (-48), (0, 0, 0, 0)), (80, .iconst (-1), (0, 0, 0, 0)), (81, .ireturn, (0, 0, 0, 0))]
def op_132 : List (Nat × Instr × tm_X) := [(0, .aload_n 0, (0, 0, 0, 0)), (1, .getfield 139, (0, 10, 14, 0)), (4, .istore_n 2, (0, 0, 0, 0)), (5, .aload_n 0, (0, 0, 0, 0)), (6, .dup, (0, 0, 0, 0)), (7, .getfield 139, (0, 10, 14, 0)), (10, .iconst 1, (0, 0, 0, 0)), (11, .iadd, (0, 0, 0, 0)), (12, .putfield 139, (0, 10, 14, 0)), (15, .aload_n 0, (0, 0, 0, 0)), (16, .getfield 29, (2, 10, 15, 0)), (19, .iload_n 2, (0, 0, 0, 0)), (20, .iload_n 1, (0, 0, 0, 0)), (21, .iastore, (0, 0, 0, 0)), (22, .aload_n 0, (0, 0, 0, 0)), (23, .getfield 32, (2, 10, 16, 0)), (26, .iload_n 2, (0, 0, 0, 0)), (27, .aload_n 0, (0, 0, 0, 0)), (28, .getfield 87, (0, 10, 0, 0)), (31, .iastore, (0, 0, 0, 0)), (32, .aload_n 0, (0, 0, 0, 0)), (33, .getfield 35, (2, 10, 17, 0)), (36, .iload_n 2, (0, 0, 0, 0)), (37, .aload_n 0, (0, 0, 0, 0)), (38, .getfield 108, (0, 10, 7, 0)), (41, .iastore, (0, 0, 0, 0)), (42, .aload_n 0, (0, 0, 0, 0)), (43, .getfield 38, (2, 10, 18, 0)), (46, .iload_n 2, (0, 0, 0, 0)), (47, .iconst (-1), (0, 0, 0, 0)), (48, .iastore, (0, 0, 0, 0)), (49, .aload_n 0, (0, 0, 0, 0)), (50, .getfield 44, (2, 10, 20, 0)), (53, .iload_n 2, (0, 0, 0, 0)), (54, .aload_n 0, (0, 0, 0, 0)), (55, .getfield 120, (0, 10, 10, 0)), (58, .iastore, (0, 0, 0, 0)), (59, .aload_n 0, (0, 0, 0, 0)), (60, .getfield 47, (2, 10, 21, 0)), (63, .iload_n 2, (0, 0, 0, 0)), (64, .aload_n 0, (0, 0, 0, 0)), (65, .getfield 123, (0, 10, 8, 0)), (68, .iastore, (0, 0, 0, 0)), (69, .iconst 0, (0, 0, 0, 0)), (70, .istore_n 3, (0, 0, 0, 0)), (71, .iload_n 3, (0, 0, 0, 0)), (72, .iconst 5, (0, 0, 0, 0)), (73, .if_icmp .ge 25, (0, 0, 0, 0)), (76, .aload_n 0, (0, 0, 0, 0)), (77, .getfield 41, (2, 10, 19, 0)), (80, .iconst 5, (0, 0, 0, 0)), (81, .iload_n 2, (0, 0, 0, 0)), (82, .imul, (0, 0, 0, 0)), (83, .iload_n 3, (0, 0, 0, 0)), (84, .iadd, (0, 0, 0, 0)), (85, .aload_n 0, (0, 0, 0, 0)), (86, .getfield 20, (2, 10, 9, 0)), (89, .iload_n 3, (0, 0, 0, 0)), (90, .iaload, (0, 0, 0, 0)), (91, .iastore, (0, 0, 0, 0)), (92, .iinc 3 1, (0, 0, 0, 0)), (95, .goto (-24), (0, 0, 0, 0)), (98, .iconst 0, (0, 0, 0, 0)), (99, .istore_n 3, (0, 0, 0, 0)), (100, .iload_n 3, (0, 0, 0, 0)), (101, .bipush 18, (0, 0, 0, 0)), (103, .if_icmp .ge 26, (0, 0, 0, 0)), (106, .aload_n 0, (0, 0, 0, 0)), (107, .getfield 50, (2, 10, 22, 0)), (110, .bipush 18, (0, 0, 0, 0)), (112, .iload_n 2, (0, 0, 0, 0)), (113, .imul, (0, 0, 0, 0)), (114, .iload_n 3, (0, 0, 0, 0)), (115, .iadd, (0, 0, 0, 0)), (116, .aload_n 0, (0, 0, 0, 0)), (117, .getfield 23, (2, 10, 11, 0)), (120, .iload_n 3, (0, 0, 0, 0)), (121, .iaload, (0, 0, 0, 0)), (122, .iastore, (0, 0, 0, 0)), (123, .iinc 3 1, (0, 0, 0, 0)), (126, .goto (-26), (0, 0, 0, 0)), (129, .iconst 0, (0, 0, 0, 0)), (130, .istore_n 3, (0, 0, 0, 0)), (131, .iload_n 3, (0, 0, 0, 0)), (132, .iconst 3, (0, 0, 0, 0)), (133, .if_icmp .ge 25, (0, 0, 0, 0)), (136, .aload_n 0, (0, 0, 0, 0)), (137, .getfield 53, (2, 10, 23, 0)), (140, .iconst 3, (0, 0, 0, 0)), (141, .iload_n 2, (0, 0, 0, 0)), (142, .imul, (0, 0, 0, 0)), (143, .iload_n 3, (0, 0, 0, 0)), (144, .iadd, (0, 0, 0, 0)), (145, .aload_n 0, (0, 0, 0, 0)), (146, .getfield 26, (2, 10, 12, 0)), (149, .iload_n 3, (0, 0, 0, 0)), (150, .iaload, (0, 0, 0, 0)), (151, .iastore, (0, 0, 0, 0)), (152, .iinc 3 1, (0, 0, 0, 0)), (155, .goto (-24), (0, 0, 0, 0)), (158, .aload_n 0, (0, 0, 0, 0)), (159, .iconst 0, (0, 0, 0, 0)), (160, .putfield 94, (0, 10, 6, 0)), (163, .return_, (0, 0, 0, 0))]
def op_133 : List (Nat × Instr × tm_X) := [(0, .aload_n 0, (0, 0, 0, 0)), (1, .getfield 142, (0, 10, 1, 0)), (4, .bipush 10, (0, 0, 0, 0)), (6, .if_icmp .eq 11, (0, 0, 0, 0)), (9, .aload_n 0, (0, 0, 0, 0)), (10, .invokevirtual 145, (2, 131, 1, 10)), (13, .iconst (-1), (0, 0, 0, 0)), (14, .if_icmp .eq 5, (0, 0, 0, 0)), (17, .iconst (-1), (0, 0, 0, 0)), (18, .ireturn, (0, 0, 0, 0)), (19, .aload_n 0, (0, 0, 0, 0)), (20, .getfield 56, (2, 10, 24, 0)), (23, .aload_n 0, (0, 0, 0, 0)), (24, .getfield 142, (0, 10, 1, 0)), (27, .aload_n 0, (0, 0, 0, 0)), (28, .getfield 87, (0, 10, 0, 0)), (31, .iastore, (0, 0, 0, 0)), (32, .aload_n 0, (0, 0, 0, 0)), (33, .dup, (0, 0, 0, 0)), (34, .getfield 142, (0, 10, 1, 0)), (37, .iconst 1, (0, 0, 0, 0)), (38, .iadd, (0, 0, 0, 0)), (39, .putfield 142, (0, 10, 1, 0)), (42, .aload_n 0, (0, 0, 0, 0)), (43, .aload_n 0, (0, 0, 0, 0)), (44, .getfield 142, (0, 10, 1, 0)), (47, .iconst 1, (0, 0, 0, 0)), (48, .isub, (0, 0, 0, 0)), (49, .invokevirtual 149, (2, 132, 2, 10)), (52, .aload_n 0, (0, 0, 0, 0)), (53, .getfield 142, (0, 10, 1, 0)), (56, .iconst 1, (0, 0, 0, 0)), (57, .isub, (0, 0, 0, 0)), (58, .ireturn, (0, 0, 0, 0))]
def op_134 : List (Nat × Instr × tm_X) := [(0, .iload_n 1, (0, 0, 0, 0)), (1, .iconst 0, (0, 0, 0, 0)), (2, .aload_n 0, (0, 0, 0, 0)), (3, .getfield 142, (0, 10, 1, 0)), (6, .iconst 1, (0, 0, 0, 0)), (7, .isub, (0, 0, 0, 0)), (8, .invokestatic 83, (1, 117, 3, 0)), (11, .ireturn, (0, 0, 0, 0))]
def op_135 : List (Nat × Instr × tm_X) := [(0, .aload_n 0, (0, 0, 0, 0)), (1, .iload_n 1, (0, 0, 0, 0)), (2, .invokevirtual 153, (2, 134, 2, 10)), (5, .ifCond .eq 20, (0, 0, 0, 0)), (8, .aload_n 0, (0, 0, 0, 0)), (9, .getfield 156, (0, 10, 2, 0)), (12, .bipush 60, (0, 0, 0, 0)), (14, .if_icmp .eq 11, (0, 0, 0, 0)), (17, .aload_n 0, (0, 0, 0, 0)), (18, .invokevirtual 145, (2, 131, 1, 10)), (21, .iconst (-1), (0, 0, 0, 0)), (22, .if_icmp .eq 5, (0, 0, 0, 0)), (25, .iconst 0, (0, 0, 0, 0)), (26, .ireturn, (0, 0, 0, 0)), (27, .aload_n 0, (0, 0, 0, 0)), (28, .dup, (0, 0, 0, 0)), (29, .getfield 156, (0, 10, 2, 0)), (32, .iconst 1, (0, 0, 0, 0)), (33, .iadd, (0, 0, 0, 0)), (34, .putfield 156, (0, 10, 2, 0)), (37, .aload_n 0, (0, 0, 0, 0)), (38, .iload_n 1, (0, 0, 0, 0)), (39, .invokevirtual 149, (2, 132, 2, 10)), (42, .iconst 1, (0, 0, 0, 0)), (43, .ireturn, (0, 0, 0, 0))]
def op_136 : List (Nat × Instr × tm_X) := [(0, .aload_n 0, (0, 0, 0, 0)), (1, .iload_n 1, (0, 0, 0, 0)), (2, .invokevirtual 153, (2, 134, 2, 10)), (5, .ifCond .eq 21, (0, 0, 0, 0)), (8, .iload_n 2, (0, 0, 0, 0)), (9, .iconst 0, (0, 0, 0, 0)), (10, .iconst 4, (0, 0, 0, 0)), (11, .invokestatic 83, (1, 117, 3, 0)), (14, .ifCond .eq 12, (0, 0, 0, 0)), (17, .aload_n 0, (0, 0, 0, 0)), (18, .getfield 156, (0, 10, 2, 0)), (21, .bipush 60, (0, 0, 0, 0)), (23, .if_icmp .ne 5, (0, 0, 0, 0)), (26, .iconst 0, (0, 0, 0, 0)), (27, .ireturn, (0, 0, 0, 0)), (28, .aload_n 0, (0, 0, 0, 0)), (29, .dup, (0, 0, 0, 0)), (30, .getfield 156, (0, 10, 2, 0)), (33, .iconst 1, (0, 0, 0, 0)), (34, .iadd, (0, 0, 0, 0)), (35, .putfield 156, (0, 10, 2, 0)), (38, .aload_n 0, (0, 0, 0, 0)), (39, .getfield 139, (0, 10, 14, 0)), (42, .istore_n 3, (0, 0, 0, 0)), (43, .aload_n 0, (0, 0, 0, 0)), (44, .dup, (0, 0, 0, 0)), (45, .getfield 139, (0, 10, 14, 0)), (48, .iconst 1, (0, 0, 0, 0)), (49, .iadd, (0, 0, 0, 0)), (50, .putfield 139, (0, 10, 14, 0)), (53, .aload_n 0, (0, 0, 0, 0)), (54, .getfield 29, (2, 10, 15, 0)), (57, .iload_n 3, (0, 0, 0, 0)), (58, .iload_n 1, (0, 0, 0, 0)), (59, .iastore, (0, 0, 0, 0)), (60, .aload_n 0, (0, 0, 0, 0)), (61, .getfield 32, (2, 10, 16, 0)), (64, .iload_n 3, (0, 0, 0, 0)), (65, .aload_n 0, (0, 0, 0, 0)), (66, .getfield 87, (0, 10, 0, 0)), (69, .iastore, (0, 0, 0, 0)), (70, .aload_n 0, (0, 0, 0, 0)), (71, .getfield 35, (2, 10, 17, 0)), (74, .iload_n 3, (0, 0, 0, 0)), (75, .iconst 0, (0, 0, 0, 0)), (76, .iastore, (0, 0, 0, 0)), (77, .aload_n 0, (0, 0, 0, 0)), (78, .getfield 38, (2, 10, 18, 0)), (81, .iload_n 3, (0, 0, 0, 0)), (82, .iload_n 2, (0, 0, 0, 0)), (83, .iastore, (0, 0, 0, 0)), (84, .iconst 1, (0, 0, 0, 0)), (85, .ireturn, (0, 0, 0, 0))]
def op_137 : List (Nat × Instr × tm_X) := [(0, .iconst (-1), (0, 0, 0, 0)), (1, .istore 4, (0, 0, 0, 0)), (3, .iconst 0, (0, 0, 0, 0)), (4, .istore 5, (0, 0, 0, 0)), (6, .iload 5, (0, 0, 0, 0)), (8, .aload_n 0, (0, 0, 0, 0)), (9, .getfield 139, (0, 10, 14, 0)), (12, .if_icmp .ge 70, (0, 0, 0, 0)), (15, .aload_n 0, (0, 0, 0, 0)), (16, .getfield 29, (2, 10, 15, 0)), (19, .iload 5, (0, 0, 0, 0)), (21, .iaload, (0, 0, 0, 0)), (22, .iload_n 1, (0, 0, 0, 0)), (23, .if_icmp .ne 53, (0, 0, 0, 0)), (26, .aload_n 0, (0, 0, 0, 0)), (27, .getfield 32, (2, 10, 16, 0)), (30, .iload 5, (0, 0, 0, 0)), (32, .iaload, (0, 0, 0, 0)), (33, .iload_n 3, (0, 0, 0, 0)), (34, .if_icmp .gt 42, (0, 0, 0, 0)), (37, .aload_n 0, (0, 0, 0, 0)), (38, .getfield 35, (2, 10, 17, 0)), (41, .iload 5, (0, 0, 0, 0)), (43, .iaload, (0, 0, 0, 0)), (44, .iload_n 2, (0, 0, 0, 0)), (45, .ishr, (0, 0, 0, 0)), (46, .iconst 1, (0, 0, 0, 0)), (47, .iand, (0, 0, 0, 0)), (48, .iconst 1, (0, 0, 0, 0)), (49, .if_icmp .ne 8, (0, 0, 0, 0)), (52, .iload 5, (0, 0, 0, 0)), (54, .goto 20, (0, 0, 0, 0)), (57, .aload_n 0, (0, 0, 0, 0)), (58, .getfield 38, (2, 10, 18, 0)), (61, .iload 5, (0, 0, 0, 0)), (63, .iaload, (0, 0, 0, 0)), (64, .iload_n 2, (0, 0, 0, 0)), (65, .if_icmp .ne 7, (0, 0, 0, 0)), (68, .iconst (-1), (0, 0, 0, 0)), (69, .goto 5, (0, 0, 0, 0)), (72, .iload 4, (0, 0, 0, 0)), (74, .istore 4, (0, 0, 0, 0)), (76, .iinc 5 1, (0, 0, 0, 0)), (79, .goto (-73), (0, 0, 0, 0)), (82, .iload 4, (0, 0, 0, 0)), (84, .ireturn, (0, 0, 0, 0))]
def op_138 : List (Nat × Instr × tm_X) := [(0, .aload_n 0, (0, 0, 0, 0)), (1, .iload_n 1, (0, 0, 0, 0)), (2, .invokevirtual 153, (2, 134, 2, 10)), (5, .ifCond .eq 29, (0, 0, 0, 0)), (8, .iload_n 2, (0, 0, 0, 0)), (9, .iconst 0, (0, 0, 0, 0)), (10, .aload_n 0, (0, 0, 0, 0)), (11, .getfield 87, (0, 10, 0, 0)), (14, .invokestatic 83, (1, 117, 3, 0)), (17, .ifCond .eq 17, (0, 0, 0, 0)), (20, .aload_n 0, (0, 0, 0, 0)), (21, .getfield 56, (2, 10, 24, 0)), (24, .iload_n 1, (0, 0, 0, 0)), (25, .iaload, (0, 0, 0, 0)), (26, .iload_n 2, (0, 0, 0, 0)), (27, .if_icmp .gt 7, (0, 0, 0, 0)), (30, .iconst 1, (0, 0, 0, 0)), (31, .goto 4, (0, 0, 0, 0)), (34, .iconst 0, (0, 0, 0, 0)), (35, .ireturn, (0, 0, 0, 0))]
def op_139 : List (Nat × Instr × tm_X) := [(0, .aload_n 0, (0, 0, 0, 0)), (1, .iconst 0, (0, 0, 0, 0)), (2, .putfield 159, (0, 10, 26, 0)), (5, .iconst 0, (0, 0, 0, 0)), (6, .istore_n 2, (0, 0, 0, 0)), (7, .iload_n 2, (0, 0, 0, 0)), (8, .aload_n 0, (0, 0, 0, 0)), (9, .getfield 142, (0, 10, 1, 0)), (12, .if_icmp .ge 69, (0, 0, 0, 0)), (15, .iconst 0, (0, 0, 0, 0)), (16, .istore_n 3, (0, 0, 0, 0)), (17, .iload_n 3, (0, 0, 0, 0)), (18, .iconst 5, (0, 0, 0, 0)), (19, .if_icmp .ge 26, (0, 0, 0, 0)), (22, .aload_n 0, (0, 0, 0, 0)), (23, .getfield 59, (2, 10, 25, 0)), (26, .iconst 5, (0, 0, 0, 0)), (27, .iload_n 2, (0, 0, 0, 0)), (28, .imul, (0, 0, 0, 0)), (29, .iload_n 3, (0, 0, 0, 0)), (30, .iadd, (0, 0, 0, 0)), (31, .aload_n 0, (0, 0, 0, 0)), (32, .iload_n 2, (0, 0, 0, 0)), (33, .iload_n 3, (0, 0, 0, 0)), (34, .iload_n 1, (0, 0, 0, 0)), (35, .invokevirtual 162, (2, 137, 4, 10)), (38, .iastore, (0, 0, 0, 0)), (39, .iinc 3 1, (0, 0, 0, 0)), (42, .goto (-25), (0, 0, 0, 0)), (45, .aload_n 0, (0, 0, 0, 0)), (46, .getfield 56, (2, 10, 24, 0)), (49, .iload_n 2, (0, 0, 0, 0)), (50, .iaload, (0, 0, 0, 0)), (51, .iload_n 1, (0, 0, 0, 0)), (52, .if_icmp .gt 23, (0, 0, 0, 0)), (55, .aload_n 0, (0, 0, 0, 0)), (56, .getfield 62, (2, 10, 27, 0)), (59, .aload_n 0, (0, 0, 0, 0)), (60, .getfield 159, (0, 10, 26, 0)), (63, .iload_n 2, (0, 0, 0, 0)), (64, .iastore, (0, 0, 0, 0)), (65, .aload_n 0, (0, 0, 0, 0)), (66, .dup, (0, 0, 0, 0)), (67, .getfield 159, (0, 10, 26, 0)), (70, .iconst 1, (0, 0, 0, 0)), (71, .iadd, (0, 0, 0, 0)), (72, .putfield 159, (0, 10, 26, 0)), (75, .iinc 2 1, (0, 0, 0, 0)), (78, .goto (-71), (0, 0, 0, 0)), (81, .return_, (0, 0, 0, 0))]
def op_140 : List (Nat × Instr × tm_X) := [(0, .aload_n 0, (0, 0, 0, 0)), (1, .getfield 59, (2, 10, 25, 0)), (4, .iconst 5, (0, 0, 0, 0)), (5, .iload_n 1, (0, 0, 0, 0)), (6, .imul, (0, 0, 0, 0)), (7, .iload_n 2, (0, 0, 0, 0)), (8, .iadd, (0, 0, 0, 0)), (9, .iaload, (0, 0, 0, 0)), (10, .iconst (-1), (0, 0, 0, 0)), (11, .if_icmp .eq 7, (0, 0, 0, 0)), (14, .iconst 1, (0, 0, 0, 0)), (15, .goto 4, (0, 0, 0, 0)), (18, .iconst 0, (0, 0, 0, 0)), (19, .ireturn, (0, 0, 0, 0))]
def op_141 : List (Nat × Instr × tm_X) := [(0, .aload_n 0, (0, 0, 0, 0)), (1, .getfield 41, (2, 10, 19, 0)), (4, .iconst 5, (0, 0, 0, 0)), (5, .aload_n 0, (0, 0, 0, 0)), (6, .getfield 59, (2, 10, 25, 0)), (9, .iconst 5, (0, 0, 0, 0)), (10, .iload_n 1, (0, 0, 0, 0)), (11, .imul, (0, 0, 0, 0)), (12, .iload_n 2, (0, 0, 0, 0)), (13, .iadd, (0, 0, 0, 0)), (14, .iaload, (0, 0, 0, 0)), (15, .imul, (0, 0, 0, 0)), (16, .iload_n 2, (0, 0, 0, 0)), (17, .iadd, (0, 0, 0, 0)), (18, .iaload, (0, 0, 0, 0)), (19, .ireturn, (0, 0, 0, 0))]
def op_142 : List (Nat × Instr × tm_X) := [(0, .aload_n 0, (0, 0, 0, 0)), (1, .getfield 44, (2, 10, 20, 0)), (4, .aload_n 0, (0, 0, 0, 0)), (5, .getfield 59, (2, 10, 25, 0)), (8, .iconst 5, (0, 0, 0, 0)), (9, .iload_n 1, (0, 0, 0, 0)), (10, .imul, (0, 0, 0, 0)), (11, .iconst 2, (0, 0, 0, 0)), (12, .iadd, (0, 0, 0, 0)), (13, .iaload, (0, 0, 0, 0)), (14, .iaload, (0, 0, 0, 0)), (15, .ireturn, (0, 0, 0, 0))]
def op_143 : List (Nat × Instr × tm_X) := [(0, .aload_n 0, (0, 0, 0, 0)), (1, .iload_n 1, (0, 0, 0, 0)), (2, .iload_n 3, (0, 0, 0, 0)), (3, .invokevirtual 166, (2, 138, 3, 10)), (6, .ifCond .eq 12, (0, 0, 0, 0)), (9, .iload_n 2, (0, 0, 0, 0)), (10, .iconst 0, (0, 0, 0, 0)), (11, .iconst 4, (0, 0, 0, 0)), (12, .invokestatic 83, (1, 117, 3, 0)), (15, .ifCond .ne 5, (0, 0, 0, 0)), (18, .iconst (-1), (0, 0, 0, 0)), (19, .ireturn, (0, 0, 0, 0)), (20, .aload_n 0, (0, 0, 0, 0)), (21, .iload_n 1, (0, 0, 0, 0)), (22, .iload_n 2, (0, 0, 0, 0)), (23, .iload_n 3, (0, 0, 0, 0)), (24, .invokevirtual 162, (2, 137, 4, 10)), (27, .istore 4, (0, 0, 0, 0)), (29, .iload 4, (0, 0, 0, 0)), (31, .iconst (-1), (0, 0, 0, 0)), (32, .if_icmp .ne 5, (0, 0, 0, 0)), (35, .iconst (-1), (0, 0, 0, 0)), (36, .ireturn, (0, 0, 0, 0)), (37, .iload_n 2, (0, 0, 0, 0)), (38, .iconst 3, (0, 0, 0, 0)), (39, .if_icmp .ne 13, (0, 0, 0, 0)), (42, .aload_n 0, (0, 0, 0, 0)), (43, .getfield 47, (2, 10, 21, 0)), (46, .iload 4, (0, 0, 0, 0)), (48, .iaload, (0, 0, 0, 0)), (49, .goto 14, (0, 0, 0, 0)), (52, .aload_n 0, (0, 0, 0, 0)), (53, .getfield 41, (2, 10, 19, 0)), (56, .iconst 5, (0, 0, 0, 0)), (57, .iload 4, (0, 0, 0, 0)), (59, .imul, (0, 0, 0, 0)), (60, .iload_n 2, (0, 0, 0, 0)), (61, .iadd, (0, 0, 0, 0)), (62, .iaload, (0, 0, 0, 0)), (63, .ireturn, (0, 0, 0, 0))]
def op_144 : List (Nat × Instr × tm_X) := [(0, .aload_n 0, (0, 0, 0, 0)), (1, .iload_n 1, (0, 0, 0, 0)), (2, .iload_n 2, (0, 0, 0, 0)), (3, .invokevirtual 166, (2, 138, 3, 10)), (6, .ifCond .ne 5, (0, 0, 0, 0)), (9, .iconst (-1), (0, 0, 0, 0)), (10, .ireturn, (0, 0, 0, 0)), (11, .aload_n 0, (0, 0, 0, 0)), (12, .iload_n 1, (0, 0, 0, 0)), (13, .iconst 2, (0, 0, 0, 0)), (14, .iload_n 2, (0, 0, 0, 0)), (15, .invokevirtual 162, (2, 137, 4, 10)), (18, .istore_n 3, (0, 0, 0, 0)), (19, .iload_n 3, (0, 0, 0, 0)), (20, .iconst (-1), (0, 0, 0, 0)), (21, .if_icmp .ne 7, (0, 0, 0, 0)), (24, .iconst (-1), (0, 0, 0, 0)), (25, .goto 9, (0, 0, 0, 0)), (28, .aload_n 0, (0, 0, 0, 0)), (29, .getfield 44, (2, 10, 20, 0)), (32, .iload_n 3, (0, 0, 0, 0)), (33, .iaload, (0, 0, 0, 0)), (34, .ireturn, (0, 0, 0, 0))]
def op_145 : List (Nat × Instr × tm_X) := [(0, .aload_n 0, (0, 0, 0, 0)), (1, .iload_n 1, (0, 0, 0, 0)), (2, .iload 4, (0, 0, 0, 0)), (4, .invokevirtual 166, (2, 138, 3, 10)), (7, .ifCond .ne 5, (0, 0, 0, 0)), (10, .iconst (-1), (0, 0, 0, 0)), (11, .ireturn, (0, 0, 0, 0)), (12, .aload_n 0, (0, 0, 0, 0)), (13, .iload_n 1, (0, 0, 0, 0)), (14, .iconst 3, (0, 0, 0, 0)), (15, .iload 4, (0, 0, 0, 0)), (17, .invokevirtual 162, (2, 137, 4, 10)), (20, .istore 5, (0, 0, 0, 0)), (22, .iload 5, (0, 0, 0, 0)), (24, .iconst (-1), (0, 0, 0, 0)), (25, .if_icmp .eq 41, (0, 0, 0, 0)), (28, .iload_n 2, (0, 0, 0, 0)), (29, .iconst 0, (0, 0, 0, 0)), (30, .aload_n 0, (0, 0, 0, 0)), (31, .getfield 47, (2, 10, 21, 0)), (34, .iload 5, (0, 0, 0, 0)), (36, .iaload, (0, 0, 0, 0)), (37, .iconst 1, (0, 0, 0, 0)), (38, .isub, (0, 0, 0, 0)), (39, .invokestatic 83, (1, 117, 3, 0)), (42, .ifCond .eq 24, (0, 0, 0, 0)), (45, .iload_n 3, (0, 0, 0, 0)), (46, .iconst 0, (0, 0, 0, 0)), (47, .aload_n 0, (0, 0, 0, 0)), (48, .getfield 53, (2, 10, 23, 0)), (51, .iconst 3, (0, 0, 0, 0)), (52, .iload 5, (0, 0, 0, 0)), (54, .imul, (0, 0, 0, 0)), (55, .iload_n 2, (0, 0, 0, 0)), (56, .iadd, (0, 0, 0, 0)), (57, .iaload, (0, 0, 0, 0)), (58, .iconst 1, (0, 0, 0, 0)), (59, .isub, (0, 0, 0, 0)), (60, .invokestatic 83, (1, 117, 3, 0)), (63, .ifCond .ne 5, (0, 0, 0, 0)), (66, .iconst (-1), (0, 0, 0, 0)), (67, .ireturn, (0, 0, 0, 0)), (68, .aload_n 0, (0, 0, 0, 0)), (69, .getfield 50, (2, 10, 22, 0)), (72, .iconst 3, (0, 0, 0, 0)), (73, .iload 5, (0, 0, 0, 0)), (75, .imul, (0, 0, 0, 0)), (76, .iload_n 2, (0, 0, 0, 0)), (77, .iadd, (0, 0, 0, 0)), (78, .bipush 6, (0, 0, 0, 0)), (80, .imul, (0, 0, 0, 0)), (81, .iload_n 3, (0, 0, 0, 0)), (82, .iadd, (0, 0, 0, 0)), (83, .iaload, (0, 0, 0, 0)), (84, .ireturn, (0, 0, 0, 0))]
def op_146 : List (Nat × Instr × tm_X) := [(0, .aload_n 0, (0, 0, 0, 0)), (1, .iload_n 1, (0, 0, 0, 0)), (2, .invokevirtual 153, (2, 134, 2, 10)), (5, .ifCond .eq 25, (0, 0, 0, 0)), (8, .aload_n 0, (0, 0, 0, 0)), (9, .iload_n 2, (0, 0, 0, 0)), (10, .invokevirtual 153, (2, 134, 2, 10)), (13, .ifCond .eq 17, (0, 0, 0, 0)), (16, .iload_n 1, (0, 0, 0, 0)), (17, .iload_n 2, (0, 0, 0, 0)), (18, .if_icmp .eq 12, (0, 0, 0, 0)), (21, .iload_n 3, (0, 0, 0, 0)), (22, .iconst 0, (0, 0, 0, 0)), (23, .iconst 2, (0, 0, 0, 0)), (24, .invokestatic 83, (1, 117, 3, 0)), (27, .ifCond .ne 5, (0, 0, 0, 0)), (30, .iconst 0, (0, 0, 0, 0)), (31, .ireturn, (0, 0, 0, 0)), (32, .aload_n 0, (0, 0, 0, 0)), (33, .getfield 65, (2, 10, 28, 0)), (36, .bipush 10, (0, 0, 0, 0)), (38, .iload_n 1, (0, 0, 0, 0)), (39, .imul, (0, 0, 0, 0)), (40, .iload_n 2, (0, 0, 0, 0)), (41, .iadd, (0, 0, 0, 0)), (42, .iload_n 3, (0, 0, 0, 0)), (43, .iastore, (0, 0, 0, 0)), (44, .aload_n 0, (0, 0, 0, 0)), (45, .getfield 65, (2, 10, 28, 0)), (48, .bipush 10, (0, 0, 0, 0)), (50, .iload_n 2, (0, 0, 0, 0)), (51, .imul, (0, 0, 0, 0)), (52, .iload_n 1, (0, 0, 0, 0)), (53, .iadd, (0, 0, 0, 0)), (54, .iload_n 3, (0, 0, 0, 0)), (55, .iastore, (0, 0, 0, 0)), (56, .iconst 1, (0, 0, 0, 0)), (57, .ireturn, (0, 0, 0, 0))]
def op_147 : List (Nat × Instr × tm_X) := [(0, .iload_n 1, (0, 0, 0, 0)), (1, .iconst 0, (0, 0, 0, 0)), (2, .bipush 100, (0, 0, 0, 0)), (4, .invokestatic 83, (1, 117, 3, 0)), (7, .ifCond .ne 5, (0, 0, 0, 0)), (10, .iconst 0, (0, 0, 0, 0)), (11, .ireturn, (0, 0, 0, 0)), (12, .aload_n 0, (0, 0, 0, 0)), (13, .iload_n 1, (0, 0, 0, 0)), (14, .putfield 9, (0, 10, 3, 0)), (17, .iconst 1, (0, 0, 0, 0)), (18, .ireturn, (0, 0, 0, 0))]
def op_148 : List (Nat × Instr × tm_X) := [(0, .iload_n 1, (0, 0, 0, 0)), (1, .iconst 0, (0, 0, 0, 0)), (2, .bipush 50, (0, 0, 0, 0)), (4, .invokestatic 83, (1, 117, 3, 0)), (7, .ifCond .ne 5, (0, 0, 0, 0)), (10, .iconst 0, (0, 0, 0, 0)), (11, .ireturn, (0, 0, 0, 0)), (12, .aload_n 0, (0, 0, 0, 0)), (13, .iload_n 1, (0, 0, 0, 0)), (14, .putfield 13, (0, 10, 4, 0)), (17, .iconst 1, (0, 0, 0, 0)), (18, .ireturn, (0, 0, 0, 0))]
def op_149 : List (Nat × Instr × tm_X) := [(0, .aload_n 0, (0, 0, 0, 0)), (1, .getfield 53, (2, 10, 23, 0)), (4, .iconst 3, (0, 0, 0, 0)), (5, .iload_n 1, (0, 0, 0, 0)), (6, .imul, (0, 0, 0, 0)), (7, .iload_n 2, (0, 0, 0, 0)), (8, .iadd, (0, 0, 0, 0)), (9, .iaload, (0, 0, 0, 0)), (10, .istore 5, (0, 0, 0, 0)), (12, .iload 5, (0, 0, 0, 0)), (14, .aload_n 0, (0, 0, 0, 0)), (15, .getfield 53, (2, 10, 23, 0)), (18, .iconst 3, (0, 0, 0, 0)), (19, .iload_n 3, (0, 0, 0, 0)), (20, .imul, (0, 0, 0, 0)), (21, .iload 4, (0, 0, 0, 0)), (23, .iadd, (0, 0, 0, 0)), (24, .iaload, (0, 0, 0, 0)), (25, .if_icmp .eq 5, (0, 0, 0, 0)), (28, .iconst 0, (0, 0, 0, 0)), (29, .ireturn, (0, 0, 0, 0)), (30, .iconst 0, (0, 0, 0, 0)), (31, .istore 6, (0, 0, 0, 0)), (33, .iload 6, (0, 0, 0, 0)), (35, .iload 5, (0, 0, 0, 0)), (37, .if_icmp .ge 47, (0, 0, 0, 0)), (40, .aload_n 0, (0, 0, 0, 0)), (41, .getfield 50, (2, 10, 22, 0)), (44, .iconst 3, (0, 0, 0, 0)), (45, .iload_n 1, (0, 0, 0, 0)), (46, .imul, (0, 0, 0, 0)), (47, .iload_n 2, (0, 0, 0, 0)), (48, .iadd, (0, 0, 0, 0)), (49, .bipush 6, (0, 0, 0, 0)), (51, .imul, (0, 0, 0, 0)), (52, .iload 6, (0, 0, 0, 0)), (54, .iadd, (0, 0, 0, 0)), (55, .iaload, (0, 0, 0, 0)), (56, .aload_n 0, (0, 0, 0, 0)), (57, .getfield 50, (2, 10, 22, 0)), (60, .iconst 3, (0, 0, 0, 0)), (61, .iload_n 3, (0, 0, 0, 0)), (62, .imul, (0, 0, 0, 0)), (63, .iload 4, (0, 0, 0, 0)), (65, .iadd, (0, 0, 0, 0)), (66, .bipush 6, (0, 0, 0, 0)), (68, .imul, (0, 0, 0, 0)), (69, .iload 6, (0, 0, 0, 0)), (71, .iadd, (0, 0, 0, 0)), (72, .iaload, (0, 0, 0, 0)), (73, .if_icmp .eq 5, (0, 0, 0, 0)), (76, .iconst 0, (0, 0, 0, 0)), (77, .ireturn, (0, 0, 0, 0)), (78, .iinc 6 1, (0, 0, 0, 0)), (81, .goto (-48), (0, 0, 0, 0)), (84, .iconst 1, (0, 0, 0, 0)), (85, .ireturn, (0, 0, 0, 0))]
def op_150 : List (Nat × Instr × tm_X) := [(0, .aload_n 0, (0, 0, 0, 0)), (1, .getfield 59, (2, 10, 25, 0)), (4, .iconst 5, (0, 0, 0, 0)), (5, .iload_n 1, (0, 0, 0, 0)), (6, .imul, (0, 0, 0, 0)), (7, .iconst 3, (0, 0, 0, 0)), (8, .iadd, (0, 0, 0, 0)), (9, .iaload, (0, 0, 0, 0)), (10, .istore 4, (0, 0, 0, 0)), (12, .iconst 0, (0, 0, 0, 0)), (13, .istore 5, (0, 0, 0, 0)), (15, .iload 4, (0, 0, 0, 0)), (17, .iconst (-1), (0, 0, 0, 0)), (18, .if_icmp .eq 36, (0, 0, 0, 0)), (21, .iload 5, (0, 0, 0, 0)), (23, .aload_n 0, (0, 0, 0, 0)), (24, .getfield 47, (2, 10, 21, 0)), (27, .iload 4, (0, 0, 0, 0)), (29, .iaload, (0, 0, 0, 0)), (30, .if_icmp .ge 24, (0, 0, 0, 0)), (33, .aload_n 0, (0, 0, 0, 0)), (34, .iload_n 2, (0, 0, 0, 0)), (35, .iload_n 3, (0, 0, 0, 0)), (36, .iload 4, (0, 0, 0, 0)), (38, .iload 5, (0, 0, 0, 0)), (40, .invokevirtual 169, (2, 149, 5, 10)), (43, .ifCond .eq 5, (0, 0, 0, 0)), (46, .iconst 1, (0, 0, 0, 0)), (47, .ireturn, (0, 0, 0, 0)), (48, .iinc 5 1, (0, 0, 0, 0)), (51, .goto (-36), (0, 0, 0, 0)), (54, .iconst 0, (0, 0, 0, 0)), (55, .ireturn, (0, 0, 0, 0))]
def op_151 : List (Nat × Instr × tm_X) := [(0, .aload_n 0, (0, 0, 0, 0)), (1, .getfield 59, (2, 10, 25, 0)), (4, .iconst 5, (0, 0, 0, 0)), (5, .iload_n 1, (0, 0, 0, 0)), (6, .imul, (0, 0, 0, 0)), (7, .iconst 3, (0, 0, 0, 0)), (8, .iadd, (0, 0, 0, 0)), (9, .iaload, (0, 0, 0, 0)), (10, .istore_n 3, (0, 0, 0, 0)), (11, .iconst 0, (0, 0, 0, 0)), (12, .istore 4, (0, 0, 0, 0)), (14, .iconst 0, (0, 0, 0, 0)), (15, .istore 5, (0, 0, 0, 0)), (17, .iload_n 3, (0, 0, 0, 0)), (18, .iconst (-1), (0, 0, 0, 0)), (19, .if_icmp .eq 102, (0, 0, 0, 0)), (22, .iload 5, (0, 0, 0, 0)), (24, .aload_n 0, (0, 0, 0, 0)), (25, .getfield 47, (2, 10, 21, 0)), (28, .iload_n 3, (0, 0, 0, 0)), (29, .iaload, (0, 0, 0, 0)), (30, .if_icmp .ge 91, (0, 0, 0, 0)), (33, .aload_n 0, (0, 0, 0, 0)), (34, .iload_n 2, (0, 0, 0, 0)), (35, .iload_n 3, (0, 0, 0, 0)), (36, .iload 5, (0, 0, 0, 0)), (38, .invokevirtual 173, (2, 150, 4, 10)), (41, .ifCond .ne 6, (0, 0, 0, 0)), (44, .goto 71, (0, 0, 0, 0)), (47, .iconst 0, (0, 0, 0, 0)), (48, .istore 6, (0, 0, 0, 0)), (50, .iconst 0, (0, 0, 0, 0)), (51, .istore 7, (0, 0, 0, 0)), (53, .iload 7, (0, 0, 0, 0)), (55, .aload_n 0, (0, 0, 0, 0)), (56, .getfield 159, (0, 10, 26, 0)), (59, .if_icmp .ge 36, (0, 0, 0, 0)), (62, .iload 6, (0, 0, 0, 0)), (64, .aload_n 0, (0, 0, 0, 0)), (65, .aload_n 0, (0, 0, 0, 0)), (66, .getfield 62, (2, 10, 27, 0)), (69, .iload 7, (0, 0, 0, 0)), (71, .iaload, (0, 0, 0, 0)), (72, .iload_n 3, (0, 0, 0, 0)), (73, .iload 5, (0, 0, 0, 0)), (75, .invokevirtual 173, (2, 150, 4, 10)), (78, .ifCond .eq 7, (0, 0, 0, 0)), (81, .iconst 1, (0, 0, 0, 0)), (82, .goto 4, (0, 0, 0, 0)), (85, .iconst 0, (0, 0, 0, 0)), (86, .iadd, (0, 0, 0, 0)), (87, .istore 6, (0, 0, 0, 0)), (89, .iinc 7 1, (0, 0, 0, 0)), (92, .goto (-39), (0, 0, 0, 0)), (95, .iload 4, (0, 0, 0, 0)), (97, .iload 6, (0, 0, 0, 0)), (99, .iconst 4, (0, 0, 0, 0)), (100, .if_icmp .le 7, (0, 0, 0, 0)), (103, .iconst 0, (0, 0, 0, 0)), (104, .goto 8, (0, 0, 0, 0)), (107, .bipush 12, (0, 0, 0, 0)), (109, .iload 6, (0, 0, 0, 0)), (111, .idiv, (0, 0, 0, 0)), (112, .iadd, (0, 0, 0, 0)), (113, .istore 4, (0, 0, 0, 0)), (115, .iinc 5 1, (0, 0, 0, 0)), (118, .goto (-101), (0, 0, 0, 0)), (121, .iload 4, (0, 0, 0, 0)), (123, .ireturn, (0, 0, 0, 0))]
def op_152 : List (Nat × Instr × tm_X) := [(0, .aload_n 0, (0, 0, 0, 0)), (1, .getfield 65, (2, 10, 28, 0)), (4, .bipush 10, (0, 0, 0, 0)), (6, .iload_n 1, (0, 0, 0, 0)), (7, .imul, (0, 0, 0, 0)), (8, .iload_n 2, (0, 0, 0, 0)), (9, .iadd, (0, 0, 0, 0)), (10, .iaload, (0, 0, 0, 0)), (11, .iconst 2, (0, 0, 0, 0)), (12, .if_icmp .eq 36, (0, 0, 0, 0)), (15, .aload_n 0, (0, 0, 0, 0)), (16, .iload_n 1, (0, 0, 0, 0)), (17, .iconst 4, (0, 0, 0, 0)), (18, .invokevirtual 176, (2, 140, 3, 10)), (21, .ifCond .eq 31, (0, 0, 0, 0)), (24, .aload_n 0, (0, 0, 0, 0)), (25, .iload_n 2, (0, 0, 0, 0)), (26, .iconst 4, (0, 0, 0, 0)), (27, .invokevirtual 176, (2, 140, 3, 10)), (30, .ifCond .eq 22, (0, 0, 0, 0)), (33, .aload_n 0, (0, 0, 0, 0)), (34, .iload_n 1, (0, 0, 0, 0)), (35, .iconst 4, (0, 0, 0, 0)), (36, .invokevirtual 179, (2, 141, 3, 10)), (39, .aload_n 0, (0, 0, 0, 0)), (40, .iload_n 2, (0, 0, 0, 0)), (41, .iconst 4, (0, 0, 0, 0)), (42, .invokevirtual 179, (2, 141, 3, 10)), (45, .if_icmp .eq 7, (0, 0, 0, 0)), (48, .sipush 1000, (0, 0, 0, 0)), (51, .ireturn, (0, 0, 0, 0)), (52, .iconst 0, (0, 0, 0, 0)), (53, .istore_n 3, (0, 0, 0, 0)), (54, .aload_n 0, (0, 0, 0, 0)), (55, .iload_n 1, (0, 0, 0, 0)), (56, .iconst 1, (0, 0, 0, 0)), (57, .invokevirtual 176, (2, 140, 3, 10)), (60, .ifCond .eq 39, (0, 0, 0, 0)), (63, .aload_n 0, (0, 0, 0, 0)), (64, .iload_n 2, (0, 0, 0, 0)), (65, .iconst 1, (0, 0, 0, 0)), (66, .invokevirtual 176, (2, 140, 3, 10)), (69, .ifCond .eq 30, (0, 0, 0, 0)), (72, .aload_n 0, (0, 0, 0, 0)), (73, .iload_n 1, (0, 0, 0, 0)), (74, .iconst 1, (0, 0, 0, 0)), (75, .invokevirtual 179, (2, 141, 3, 10)), (78, .aload_n 0, (0, 0, 0, 0)), (79, .iload_n 2, (0, 0, 0, 0)), (80, .iconst 1, (0, 0, 0, 0)), (81, .invokevirtual 179, (2, 141, 3, 10)), (84, .isub, (0, 0, 0, 0)), (85, .invokestatic 183, (6, 0, 0, 0)), (88, .istore_n 3, (0, 0, 0, 0)), (89, .iload_n 3, (0, 0, 0, 0)), (90, .bipush 9, (0, 0, 0, 0)), (92, .if_icmp .le 7, (0, 0, 0, 0)), (95, .sipush 1000, (0, 0, 0, 0)), (98, .ireturn, (0, 0, 0, 0)), (99, .iload_n 3, (0, 0, 0, 0)), (100, .aload_n 0, (0, 0, 0, 0)), (101, .iload_n 1, (0, 0, 0, 0)), (102, .iconst 0, (0, 0, 0, 0)), (103, .invokevirtual 176, (2, 140, 3, 10)), (106, .ifCond .eq 32, (0, 0, 0, 0)), (109, .aload_n 0, (0, 0, 0, 0)), (110, .iload_n 2, (0, 0, 0, 0)), (111, .iconst 0, (0, 0, 0, 0)), (112, .invokevirtual 176, (2, 140, 3, 10)), (115, .ifCond .eq 23, (0, 0, 0, 0)), (118, .aload_n 0, (0, 0, 0, 0)), (119, .iload_n 1, (0, 0, 0, 0)), (120, .iconst 0, (0, 0, 0, 0)), (121, .invokevirtual 179, (2, 141, 3, 10)), (124, .aload_n 0, (0, 0, 0, 0)), (125, .iload_n 2, (0, 0, 0, 0)), (126, .iconst 0, (0, 0, 0, 0)), (127, .invokevirtual 179, (2, 141, 3, 10)), (130, .if_icmp .eq 8, (0, 0, 0, 0)), (133, .bipush 6, (0, 0, 0, 0)), (135, .goto 4, (0, 0, 0, 0)), (138, .iconst 0, (0, 0, 0, 0)), (139, .iadd, (0, 0, 0, 0)), (140, .istore_n 3, (0, 0, 0, 0)), (141, .iload_n 3, (0, 0, 0, 0)), (142, .aload_n 0, (0, 0, 0, 0)), (143, .iload_n 1, (0, 0, 0, 0)), (144, .iconst 2, (0, 0, 0, 0)), (145, .invokevirtual 176, (2, 140, 3, 10)), (148, .ifCond .eq 44, (0, 0, 0, 0)), (151, .aload_n 0, (0, 0, 0, 0)), (152, .iload_n 2, (0, 0, 0, 0)), (153, .iconst 2, (0, 0, 0, 0)), (154, .invokevirtual 176, (2, 140, 3, 10)), (157, .ifCond .eq 35, (0, 0, 0, 0)), (160, .aload_n 0, (0, 0, 0, 0)), (161, .iload_n 1, (0, 0, 0, 0)), (162, .iconst 2, (0, 0, 0, 0)), (163, .invokevirtual 179, (2, 141, 3, 10)), (166, .aload_n 0, (0, 0, 0, 0)), (167, .iload_n 2, (0, 0, 0, 0)), (168, .invokevirtual 188, (2, 142, 2, 10)), (171, .if_icmp .gt 17, (0, 0, 0, 0)), (174, .aload_n 0, (0, 0, 0, 0)), (175, .iload_n 2, (0, 0, 0, 0)), (176, .iconst 2, (0, 0, 0, 0)), (177, .invokevirtual 179, (2, 141, 3, 10)), (180, .aload_n 0, (0, 0, 0, 0)), (181, .iload_n 1, (0, 0, 0, 0)), (182, .invokevirtual 188, (2, 142, 2, 10)), (185, .if_icmp .le 7, (0, 0, 0, 0)), (188, .iconst 4, (0, 0, 0, 0)), (189, .goto 4, (0, 0, 0, 0)), (192, .iconst 0, (0, 0, 0, 0)), (193, .iadd, (0, 0, 0, 0)), (194, .istore_n 3, (0, 0, 0, 0)), (195, .iload_n 3, (0, 0, 0, 0)), (196, .aload_n 0, (0, 0, 0, 0)), (197, .iload_n 1, (0, 0, 0, 0)), (198, .iload_n 2, (0, 0, 0, 0)), (199, .invokevirtual 191, (2, 151, 3, 10)), (202, .isub, (0, 0, 0, 0)), (203, .ireturn, (0, 0, 0, 0))]
def op_153 : List (Nat × Instr × tm_X) := [(0, .aload_n 0, (0, 0, 0, 0)), (1, .iload_n 1, (0, 0, 0, 0)), (2, .iload_n 3, (0, 0, 0, 0)), (3, .invokevirtual 166, (2, 138, 3, 10)), (6, .ifCond .eq 17, (0, 0, 0, 0)), (9, .aload_n 0, (0, 0, 0, 0)), (10, .iload_n 2, (0, 0, 0, 0)), (11, .iload_n 3, (0, 0, 0, 0)), (12, .invokevirtual 166, (2, 138, 3, 10)), (15, .ifCond .eq 8, (0, 0, 0, 0)), (18, .iload_n 1, (0, 0, 0, 0)), (19, .iload_n 2, (0, 0, 0, 0)), (20, .if_icmp .ne 7, (0, 0, 0, 0)), (23, .sipush (-1000), (0, 0, 0, 0)), (26, .ireturn, (0, 0, 0, 0)), (27, .aload_n 0, (0, 0, 0, 0)), (28, .iload_n 3, (0, 0, 0, 0)), (29, .invokevirtual 194, (2, 139, 2, 10)), (32, .aload_n 0, (0, 0, 0, 0)), (33, .iload_n 1, (0, 0, 0, 0)), (34, .iload_n 2, (0, 0, 0, 0)), (35, .invokevirtual 197, (2, 152, 3, 10)), (38, .ireturn, (0, 0, 0, 0))]
def op_154 : List (Nat × Instr × tm_X) := [(0, .iconst 0, (0, 0, 0, 0)), (1, .istore_n 3, (0, 0, 0, 0)), (2, .iconst 0, (0, 0, 0, 0)), (3, .istore 4, (0, 0, 0, 0)), (5, .iload 4, (0, 0, 0, 0)), (7, .iload_n 1, (0, 0, 0, 0)), (8, .if_icmp .ge 100, (0, 0, 0, 0)), (11, .aload_n 0, (0, 0, 0, 0)), (12, .getfield 65, (2, 10, 28, 0)), (15, .bipush 10, (0, 0, 0, 0)), (17, .aload_n 0, (0, 0, 0, 0)), (18, .getfield 62, (2, 10, 27, 0)), (21, .iload 4, (0, 0, 0, 0)), (23, .iaload, (0, 0, 0, 0)), (24, .imul, (0, 0, 0, 0)), (25, .aload_n 0, (0, 0, 0, 0)), (26, .getfield 62, (2, 10, 27, 0)), (29, .iload_n 1, (0, 0, 0, 0)), (30, .iaload, (0, 0, 0, 0)), (31, .iadd, (0, 0, 0, 0)), (32, .iaload, (0, 0, 0, 0)), (33, .iconst 1, (0, 0, 0, 0)), (34, .if_icmp .ne 7, (0, 0, 0, 0)), (37, .iconst 1, (0, 0, 0, 0)), (38, .goto 4, (0, 0, 0, 0)), (41, .iconst 0, (0, 0, 0, 0)), (42, .istore 5, (0, 0, 0, 0)), (44, .aload_n 0, (0, 0, 0, 0)), (45, .getfield 71, (2, 10, 30, 0)), (48, .iload 4, (0, 0, 0, 0)), (50, .iaload, (0, 0, 0, 0)), (51, .iload_n 2, (0, 0, 0, 0)), (52, .if_icmp .ne 42, (0, 0, 0, 0)), (55, .aload_n 0, (0, 0, 0, 0)), (56, .getfield 68, (2, 10, 29, 0)), (59, .bipush 10, (0, 0, 0, 0)), (61, .iload 4, (0, 0, 0, 0)), (63, .imul, (0, 0, 0, 0)), (64, .iload_n 1, (0, 0, 0, 0)), (65, .iadd, (0, 0, 0, 0)), (66, .iaload, (0, 0, 0, 0)), (67, .sipush 1000, (0, 0, 0, 0)), (70, .if_icmp .ne 6, (0, 0, 0, 0)), (73, .ldc 200, (0, 1000000, 0, 0)), (75, .ireturn, (0, 0, 0, 0)), (76, .iload_n 3, (0, 0, 0, 0)), (77, .aload_n 0, (0, 0, 0, 0)), (78, .getfield 68, (2, 10, 29, 0)), (81, .bipush 10, (0, 0, 0, 0)), (83, .iload 4, (0, 0, 0, 0)), (85, .imul, (0, 0, 0, 0)), (86, .iload_n 1, (0, 0, 0, 0)), (87, .iadd, (0, 0, 0, 0)), (88, .iaload, (0, 0, 0, 0)), (89, .iadd, (0, 0, 0, 0)), (90, .istore_n 3, (0, 0, 0, 0)), (91, .goto 11, (0, 0, 0, 0)), (94, .iload 5, (0, 0, 0, 0)), (96, .ifCond .eq 6, (0, 0, 0, 0)), (99, .ldc 200, (0, 1000000, 0, 0)), (101, .ireturn, (0, 0, 0, 0)), (102, .iinc 4 1, (0, 0, 0, 0)), (105, .goto (-100), (0, 0, 0, 0)), (108, .iload_n 3, (0, 0, 0, 0)), (109, .ireturn, (0, 0, 0, 0))]
def op_155 : List (Nat × Instr × tm_X) := [(0, .iload_n 1, (0, 0, 0, 0)), (1, .aload_n 0, (0, 0, 0, 0)), (2, .getfield 159, (0, 10, 26, 0)), (5, .if_icmp .ne 66, (0, 0, 0, 0)), (8, .aload_n 0, (0, 0, 0, 0)), (9, .getfield 201, (3, 10, 34, 0)), (12, .ifCond .eq 11, (0, 0, 0, 0)), (15, .iload_n 3, (0, 0, 0, 0)), (16, .aload_n 0, (0, 0, 0, 0)), (17, .getfield 205, (0, 10, 32, 0)), (20, .if_icmp .ge 50, (0, 0, 0, 0)), (23, .aload_n 0, (0, 0, 0, 0)), (24, .iconst 1, (0, 0, 0, 0)), (25, .putfield 201, (3, 10, 34, 0)), (28, .aload_n 0, (0, 0, 0, 0)), (29, .iload_n 3, (0, 0, 0, 0)), (30, .putfield 205, (0, 10, 32, 0)), (33, .aload_n 0, (0, 0, 0, 0)), (34, .iload_n 2, (0, 0, 0, 0)), (35, .putfield 208, (0, 10, 33, 0)), (38, .iconst 0, (0, 0, 0, 0)), (39, .istore 4, (0, 0, 0, 0)), (41, .iload 4, (0, 0, 0, 0)), (43, .aload_n 0, (0, 0, 0, 0)), (44, .getfield 159, (0, 10, 26, 0)), (47, .if_icmp .ge 23, (0, 0, 0, 0)), (50, .aload_n 0, (0, 0, 0, 0)), (51, .getfield 74, (2, 10, 31, 0)), (54, .iload 4, (0, 0, 0, 0)), (56, .aload_n 0, (0, 0, 0, 0)), (57, .getfield 71, (2, 10, 30, 0)), (60, .iload 4, (0, 0, 0, 0)), (62, .iaload, (0, 0, 0, 0)), (63, .iastore, (0, 0, 0, 0)), (64, .iinc 4 1, (0, 0, 0, 0)), (67, .goto (-26), (0, 0, 0, 0)), (70, .return_, (0, 0, 0, 0)), (71, .iconst 0, (0, 0, 0, 0)), (72, .istore 4, (0, 0, 0, 0)), (74, .iload 4, (0, 0, 0, 0)), (76, .iload_n 2, (0, 0, 0, 0)), (77, .if_icmp .gt 72, (0, 0, 0, 0)), (80, .aload_n 0, (0, 0, 0, 0)), (81, .iload_n 1, (0, 0, 0, 0)), (82, .iload 4, (0, 0, 0, 0)), (84, .invokevirtual 211, (2, 154, 3, 10)), (87, .istore 5, (0, 0, 0, 0)), (89, .iload 5, (0, 0, 0, 0)), (91, .ldc 200, (0, 1000000, 0, 0)), (93, .if_icmp .ge 50, (0, 0, 0, 0)), (96, .aload_n 0, (0, 0, 0, 0)), (97, .getfield 71, (2, 10, 30, 0)), (100, .iload_n 1, (0, 0, 0, 0)), (101, .iload 4, (0, 0, 0, 0)), (103, .iastore, (0, 0, 0, 0)), (104, .aload_n 0, (0, 0, 0, 0)), (105, .iload_n 1, (0, 0, 0, 0)), (106, .iconst 1, (0, 0, 0, 0)), (107, .iadd, (0, 0, 0, 0)), (108, .iload 4, (0, 0, 0, 0)), (110, .iload_n 2, (0, 0, 0, 0)), (111, .if_icmp .ne 9, (0, 0, 0, 0)), (114, .iload_n 2, (0, 0, 0, 0)), (115, .iconst 1, (0, 0, 0, 0)), (116, .iadd, (0, 0, 0, 0)), (117, .goto 4, (0, 0, 0, 0)), (120, .iload_n 2, (0, 0, 0, 0)), (121, .iload_n 3, (0, 0, 0, 0)), (122, .iload 5, (0, 0, 0, 0)), (124, .iadd, (0, 0, 0, 0)), (125, .iload 4, (0, 0, 0, 0)), (127, .iload_n 2, (0, 0, 0, 0)), (128, .if_icmp .ne 10, (0, 0, 0, 0)), (131, .aload_n 0, (0, 0, 0, 0)), (132, .getfield 9, (0, 10, 3, 0)), (135, .goto 4, (0, 0, 0, 0)), (138, .iconst 0, (0, 0, 0, 0)), (139, .iadd, (0, 0, 0, 0)), (140, .invokevirtual 214, (2, 155, 4, 10)), (143, .iinc 4 1, (0, 0, 0, 0)), (146, .goto (-72), (0, 0, 0, 0)), (149, .return_, (0, 0, 0, 0))]
def op_156 : List (Nat × Instr × tm_X) := [(0, .aload_n 0, (0, 0, 0, 0)), (1, .iload_n 1, (0, 0, 0, 0)), (2, .invokevirtual 194, (2, 139, 2, 10)), (5, .iconst 0, (0, 0, 0, 0)), (6, .istore_n 2, (0, 0, 0, 0)), (7, .iload_n 2, (0, 0, 0, 0)), (8, .aload_n 0, (0, 0, 0, 0)), (9, .getfield 159, (0, 10, 26, 0)), (12, .if_icmp .ge 61, (0, 0, 0, 0)), (15, .iconst 0, (0, 0, 0, 0)), (16, .istore_n 3, (0, 0, 0, 0)), (17, .iload_n 3, (0, 0, 0, 0)), (18, .aload_n 0, (0, 0, 0, 0)), (19, .getfield 159, (0, 10, 26, 0)), (22, .if_icmp .ge 45, (0, 0, 0, 0)), (25, .aload_n 0, (0, 0, 0, 0)), (26, .getfield 68, (2, 10, 29, 0)), (29, .bipush 10, (0, 0, 0, 0)), (31, .iload_n 2, (0, 0, 0, 0)), (32, .imul, (0, 0, 0, 0)), (33, .iload_n 3, (0, 0, 0, 0)), (34, .iadd, (0, 0, 0, 0)), (35, .iload_n 2, (0, 0, 0, 0)), (36, .iload_n 3, (0, 0, 0, 0)), (37, .if_icmp .ne 7, (0, 0, 0, 0)), (40, .iconst 0, (0, 0, 0, 0)), (41, .goto 19, (0, 0, 0, 0)), (44, .aload_n 0, (0, 0, 0, 0)), (45, .aload_n 0, (0, 0, 0, 0)), (46, .getfield 62, (2, 10, 27, 0)), (49, .iload_n 2, (0, 0, 0, 0)), (50, .iaload, (0, 0, 0, 0)), (51, .aload_n 0, (0, 0, 0, 0)), (52, .getfield 62, (2, 10, 27, 0)), (55, .iload_n 3, (0, 0, 0, 0)), (56, .iaload, (0, 0, 0, 0)), (57, .invokevirtual 197, (2, 152, 3, 10)), (60, .iastore, (0, 0, 0, 0)), (61, .iinc 3 1, (0, 0, 0, 0)), (64, .goto (-47), (0, 0, 0, 0)), (67, .iinc 2 1, (0, 0, 0, 0)), (70, .goto (-63), (0, 0, 0, 0)), (73, .aload_n 0, (0, 0, 0, 0)), (74, .iconst 0, (0, 0, 0, 0)), (75, .putfield 201, (3, 10, 34, 0)), (78, .aload_n 0, (0, 0, 0, 0)), (79, .iconst 0, (0, 0, 0, 0)), (80, .putfield 205, (0, 10, 32, 0)), (83, .aload_n 0, (0, 0, 0, 0)), (84, .iconst 0, (0, 0, 0, 0)), (85, .putfield 208, (0, 10, 33, 0)), (88, .aload_n 0, (0, 0, 0, 0)), (89, .iconst 0, (0, 0, 0, 0)), (90, .iconst 0, (0, 0, 0, 0)), (91, .iconst 0, (0, 0, 0, 0)), (92, .invokevirtual 214, (2, 155, 4, 10)), (95, .aload_n 0, (0, 0, 0, 0)), (96, .getfield 201, (3, 10, 34, 0)), (99, .ireturn, (0, 0, 0, 0))]
def op_157 : List (Nat × Instr × tm_X) := [(0, .iconst 0, (0, 0, 0, 0)), (1, .istore_n 2, (0, 0, 0, 0)), (2, .aload_n 0, (0, 0, 0, 0)), (3, .getfield 62, (2, 10, 27, 0)), (6, .iload_n 2, (0, 0, 0, 0)), (7, .iaload, (0, 0, 0, 0)), (8, .iload_n 1, (0, 0, 0, 0)), (9, .if_icmp .eq 9, (0, 0, 0, 0)), (12, .iinc 2 1, (0, 0, 0, 0)), (15, .goto (-13), (0, 0, 0, 0)), (18, .iload_n 2, (0, 0, 0, 0)), (19, .ireturn, (0, 0, 0, 0))]
def op_158 : List (Nat × Instr × tm_X) := [(0, .aload_n 0, (0, 0, 0, 0)), (1, .iload_n 1, (0, 0, 0, 0)), (2, .iload_n 2, (0, 0, 0, 0)), (3, .invokevirtual 166, (2, 138, 3, 10)), (6, .ifCond .eq 11, (0, 0, 0, 0)), (9, .aload_n 0, (0, 0, 0, 0)), (10, .iload_n 2, (0, 0, 0, 0)), (11, .invokevirtual 218, (2, 156, 2, 10)), (14, .ifCond .ne 5, (0, 0, 0, 0)), (17, .iconst (-1), (0, 0, 0, 0)), (18, .ireturn, (0, 0, 0, 0)), (19, .aload_n 0, (0, 0, 0, 0)), (20, .getfield 74, (2, 10, 31, 0)), (23, .aload_n 0, (0, 0, 0, 0)), (24, .iload_n 1, (0, 0, 0, 0)), (25, .invokevirtual 221, (2, 157, 2, 10)), (28, .iaload, (0, 0, 0, 0)), (29, .istore_n 3, (0, 0, 0, 0)), (30, .iconst 0, (0, 0, 0, 0)), (31, .istore 4, (0, 0, 0, 0)), (33, .aload_n 0, (0, 0, 0, 0)), (34, .getfield 74, (2, 10, 31, 0)), (37, .iload 4, (0, 0, 0, 0)), (39, .iaload, (0, 0, 0, 0)), (40, .iload_n 3, (0, 0, 0, 0)), (41, .if_icmp .eq 9, (0, 0, 0, 0)), (44, .iinc 4 1, (0, 0, 0, 0)), (47, .goto (-14), (0, 0, 0, 0)), (50, .aload_n 0, (0, 0, 0, 0)), (51, .getfield 62, (2, 10, 27, 0)), (54, .iload 4, (0, 0, 0, 0)), (56, .iaload, (0, 0, 0, 0)), (57, .ireturn, (0, 0, 0, 0))]
def op_159 : List (Nat × Instr × tm_X) := [(0, .iload_n 1, (0, 0, 0, 0)), (1, .iconst 0, (0, 0, 0, 0)), (2, .aload_n 0, (0, 0, 0, 0)), (3, .getfield 87, (0, 10, 0, 0)), (6, .invokestatic 83, (1, 117, 3, 0)), (9, .ifCond .eq 18, (0, 0, 0, 0)), (12, .aload_n 0, (0, 0, 0, 0)), (13, .iload_n 1, (0, 0, 0, 0)), (14, .invokevirtual 218, (2, 156, 2, 10)), (17, .ifCond .eq 10, (0, 0, 0, 0)), (20, .aload_n 0, (0, 0, 0, 0)), (21, .getfield 205, (0, 10, 32, 0)), (24, .goto 6, (0, 0, 0, 0)), (27, .sipush (-10000), (0, 0, 0, 0)), (30, .ireturn, (0, 0, 0, 0))]
def op_160 : List (Nat × Instr × tm_X) := [(0, .iload_n 1, (0, 0, 0, 0)), (1, .iconst 0, (0, 0, 0, 0)), (2, .aload_n 0, (0, 0, 0, 0)), (3, .getfield 87, (0, 10, 0, 0)), (6, .invokestatic 83, (1, 117, 3, 0)), (9, .ifCond .eq 18, (0, 0, 0, 0)), (12, .aload_n 0, (0, 0, 0, 0)), (13, .iload_n 1, (0, 0, 0, 0)), (14, .invokevirtual 218, (2, 156, 2, 10)), (17, .ifCond .eq 10, (0, 0, 0, 0)), (20, .aload_n 0, (0, 0, 0, 0)), (21, .getfield 208, (0, 10, 33, 0)), (24, .goto 4, (0, 0, 0, 0)), (27, .iconst (-1), (0, 0, 0, 0)), (28, .ireturn, (0, 0, 0, 0))]
def op_161 : List (Nat × Instr × tm_X) := [(0, .iconst (-1), (0, 0, 0, 0)), (1, .istore_n 3, (0, 0, 0, 0)), (2, .iconst 0, (0, 0, 0, 0)), (3, .istore 4, (0, 0, 0, 0)), (5, .iload 4, (0, 0, 0, 0)), (7, .aload_n 0, (0, 0, 0, 0)), (8, .getfield 159, (0, 10, 26, 0)), (11, .if_icmp .ge 77, (0, 0, 0, 0)), (14, .aload_n 0, (0, 0, 0, 0)), (15, .getfield 74, (2, 10, 31, 0)), (18, .iload 4, (0, 0, 0, 0)), (20, .iaload, (0, 0, 0, 0)), (21, .iload_n 1, (0, 0, 0, 0)), (22, .if_icmp .ne 60, (0, 0, 0, 0)), (25, .aload_n 0, (0, 0, 0, 0)), (26, .aload_n 0, (0, 0, 0, 0)), (27, .getfield 62, (2, 10, 27, 0)), (30, .iload 4, (0, 0, 0, 0)), (32, .iaload, (0, 0, 0, 0)), (33, .iload_n 2, (0, 0, 0, 0)), (34, .invokevirtual 176, (2, 140, 3, 10)), (37, .ifCond .eq 45, (0, 0, 0, 0)), (40, .aload_n 0, (0, 0, 0, 0)), (41, .aload_n 0, (0, 0, 0, 0)), (42, .getfield 62, (2, 10, 27, 0)), (45, .iload 4, (0, 0, 0, 0)), (47, .iaload, (0, 0, 0, 0)), (48, .iload_n 2, (0, 0, 0, 0)), (49, .invokevirtual 179, (2, 141, 3, 10)), (52, .istore 5, (0, 0, 0, 0)), (54, .iload_n 3, (0, 0, 0, 0)), (55, .iconst (-1), (0, 0, 0, 0)), (56, .if_icmp .eq 9, (0, 0, 0, 0)), (59, .iload_n 3, (0, 0, 0, 0)), (60, .iload 5, (0, 0, 0, 0)), (62, .if_icmp .ne 8, (0, 0, 0, 0)), (65, .iload 5, (0, 0, 0, 0)), (67, .goto 5, (0, 0, 0, 0)), (70, .bipush (-2), (0, 0, 0, 0)), (72, .istore_n 3, (0, 0, 0, 0)), (73, .iload_n 3, (0, 0, 0, 0)), (74, .bipush (-2), (0, 0, 0, 0)), (76, .if_icmp .ne 6, (0, 0, 0, 0)), (79, .bipush (-2), (0, 0, 0, 0)), (81, .ireturn, (0, 0, 0, 0)), (82, .iinc 4 1, (0, 0, 0, 0)), (85, .goto (-80), (0, 0, 0, 0)), (88, .iload_n 3, (0, 0, 0, 0)), (89, .ireturn, (0, 0, 0, 0))]
def op_162 : List (Nat × Instr × tm_X) := [(0, .iconst (-1), (0, 0, 0, 0)), (1, .istore_n 3, (0, 0, 0, 0)), (2, .iconst 0, (0, 0, 0, 0)), (3, .istore 4, (0, 0, 0, 0)), (5, .iload 4, (0, 0, 0, 0)), (7, .aload_n 0, (0, 0, 0, 0)), (8, .getfield 159, (0, 10, 26, 0)), (11, .if_icmp .ge 97, (0, 0, 0, 0)), (14, .aload_n 0, (0, 0, 0, 0)), (15, .getfield 74, (2, 10, 31, 0)), (18, .iload 4, (0, 0, 0, 0)), (20, .iaload, (0, 0, 0, 0)), (21, .iload_n 1, (0, 0, 0, 0)), (22, .if_icmp .ne 80, (0, 0, 0, 0)), (25, .aload_n 0, (0, 0, 0, 0)), (26, .aload_n 0, (0, 0, 0, 0)), (27, .getfield 62, (2, 10, 27, 0)), (30, .iload 4, (0, 0, 0, 0)), (32, .iaload, (0, 0, 0, 0)), (33, .iconst 2, (0, 0, 0, 0)), (34, .invokevirtual 176, (2, 140, 3, 10)), (37, .ifCond .eq 65, (0, 0, 0, 0)), (40, .iload_n 2, (0, 0, 0, 0)), (41, .ifCond .eq 17, (0, 0, 0, 0)), (44, .aload_n 0, (0, 0, 0, 0)), (45, .aload_n 0, (0, 0, 0, 0)), (46, .getfield 62, (2, 10, 27, 0)), (49, .iload 4, (0, 0, 0, 0)), (51, .iaload, (0, 0, 0, 0)), (52, .invokevirtual 188, (2, 142, 2, 10)), (55, .goto 15, (0, 0, 0, 0)), (58, .aload_n 0, (0, 0, 0, 0)), (59, .aload_n 0, (0, 0, 0, 0)), (60, .getfield 62, (2, 10, 27, 0)), (63, .iload 4, (0, 0, 0, 0)), (65, .iaload, (0, 0, 0, 0)), (66, .iconst 2, (0, 0, 0, 0)), (67, .invokevirtual 179, (2, 141, 3, 10)), (70, .istore 5, (0, 0, 0, 0)), (72, .iload_n 3, (0, 0, 0, 0)), (73, .iconst (-1), (0, 0, 0, 0)), (74, .if_icmp .ne 8, (0, 0, 0, 0)), (77, .iload 5, (0, 0, 0, 0)), (79, .goto 22, (0, 0, 0, 0)), (82, .iload_n 2, (0, 0, 0, 0)), (83, .ifCond .eq 12, (0, 0, 0, 0)), (86, .iload_n 3, (0, 0, 0, 0)), (87, .iload 5, (0, 0, 0, 0)), (89, .invokestatic 224, (8, 0, 0, 0)), (92, .goto 9, (0, 0, 0, 0)), (95, .iload_n 3, (0, 0, 0, 0)), (96, .iload 5, (0, 0, 0, 0)), (98, .invokestatic 227, (7, 0, 0, 0)), (101, .istore_n 3, (0, 0, 0, 0)), (102, .iinc 4 1, (0, 0, 0, 0)), (105, .goto (-100), (0, 0, 0, 0)), (108, .iload_n 3, (0, 0, 0, 0)), (109, .ireturn, (0, 0, 0, 0))]
def op_163 : List (Nat × Instr × tm_X) := [(0, .aload_n 0, (0, 0, 0, 0)), (1, .iload_n 1, (0, 0, 0, 0)), (2, .iload_n 3, (0, 0, 0, 0)), (3, .invokevirtual 166, (2, 138, 3, 10)), (6, .ifCond .eq 11, (0, 0, 0, 0)), (9, .aload_n 0, (0, 0, 0, 0)), (10, .iload_n 3, (0, 0, 0, 0)), (11, .invokevirtual 218, (2, 156, 2, 10)), (14, .ifCond .ne 5, (0, 0, 0, 0)), (17, .iconst (-1), (0, 0, 0, 0)), (18, .ireturn, (0, 0, 0, 0)), (19, .aload_n 0, (0, 0, 0, 0)), (20, .getfield 74, (2, 10, 31, 0)), (23, .aload_n 0, (0, 0, 0, 0)), (24, .iload_n 1, (0, 0, 0, 0)), (25, .invokevirtual 221, (2, 157, 2, 10)), (28, .iaload, (0, 0, 0, 0)), (29, .istore 4, (0, 0, 0, 0)), (31, .iconst 0, (0, 0, 0, 0)), (32, .istore 5, (0, 0, 0, 0)), (34, .iconst 0, (0, 0, 0, 0)), (35, .istore 6, (0, 0, 0, 0)), (37, .iload 6, (0, 0, 0, 0)), (39, .aload_n 0, (0, 0, 0, 0)), (40, .getfield 159, (0, 10, 26, 0)), (43, .if_icmp .ge 31, (0, 0, 0, 0)), (46, .iload 5, (0, 0, 0, 0)), (48, .aload_n 0, (0, 0, 0, 0)), (49, .getfield 74, (2, 10, 31, 0)), (52, .iload 6, (0, 0, 0, 0)), (54, .iaload, (0, 0, 0, 0)), (55, .iload 4, (0, 0, 0, 0)), (57, .if_icmp .ne 7, (0, 0, 0, 0)), (60, .iconst 1, (0, 0, 0, 0)), (61, .goto 4, (0, 0, 0, 0)), (64, .iconst 0, (0, 0, 0, 0)), (65, .iadd, (0, 0, 0, 0)), (66, .istore 5, (0, 0, 0, 0)), (68, .iinc 6 1, (0, 0, 0, 0)), (71, .goto (-34), (0, 0, 0, 0)), (74, .aload_n 0, (0, 0, 0, 0)), (75, .iload 4, (0, 0, 0, 0)), (77, .iconst 0, (0, 0, 0, 0)), (78, .invokevirtual 230, (2, 162, 3, 10)), (81, .aload_n 0, (0, 0, 0, 0)), (82, .iload 4, (0, 0, 0, 0)), (84, .iconst 1, (0, 0, 0, 0)), (85, .invokevirtual 230, (2, 162, 3, 10)), (88, .if_icmp .le 7, (0, 0, 0, 0)), (91, .iconst 1, (0, 0, 0, 0)), (92, .goto 4, (0, 0, 0, 0)), (95, .iconst 0, (0, 0, 0, 0)), (96, .istore 6, (0, 0, 0, 0)), (98, .iload_n 2, (0, 0, 0, 0)), (99, .tableswitch 115 0 6 #[41, 49, 57, 75, 93, 101, 104], (41, 0, 0, 0)), (140, .aload_n 0, (0, 0, 0, 0)), (141, .iload 4, (0, 0, 0, 0)), (143, .iconst 0, (0, 0, 0, 0)), (144, .invokevirtual 234, (2, 161, 3, 10)), (147, .ireturn, (0, 0, 0, 0)), (148, .aload_n 0, (0, 0, 0, 0)), (149, .iload 4, (0, 0, 0, 0)), (151, .iconst 1, (0, 0, 0, 0)), (152, .invokevirtual 234, (2, 161, 3, 10)), (155, .ireturn, (0, 0, 0, 0)), (156, .iload 6, (0, 0, 0, 0)), (158, .ifCond .eq 8, (0, 0, 0, 0)), (161, .bipush (-2), (0, 0, 0, 0)), (163, .goto 10, (0, 0, 0, 0)), (166, .aload_n 0, (0, 0, 0, 0)), (167, .iload 4, (0, 0, 0, 0)), (169, .iconst 0, (0, 0, 0, 0)), (170, .invokevirtual 230, (2, 162, 3, 10)), (173, .ireturn, (0, 0, 0, 0)), (174, .iload 6, (0, 0, 0, 0)), (176, .ifCond .eq 8, (0, 0, 0, 0)), (179, .bipush (-2), (0, 0, 0, 0)), (181, .goto 10, (0, 0, 0, 0)), (184, .aload_n 0, (0, 0, 0, 0)), (185, .iload 4, (0, 0, 0, 0)), (187, .iconst 1, (0, 0, 0, 0)), (188, .invokevirtual 230, (2, 162, 3, 10)), (191, .ireturn, (0, 0, 0, 0)), (192, .aload_n 0, (0, 0, 0, 0)), (193, .iload 4, (0, 0, 0, 0)), (195, .iconst 4, (0, 0, 0, 0)), (196, .invokevirtual 234, (2, 161, 3, 10)), (199, .ireturn, (0, 0, 0, 0)), (200, .iload 5, (0, 0, 0, 0)), (202, .ireturn, (0, 0, 0, 0)), (203, .iload 6, (0, 0, 0, 0)), (205, .ifCond .eq 7, (0, 0, 0, 0)), (208, .iconst 1, (0, 0, 0, 0)), (209, .goto 4, (0, 0, 0, 0)), (212, .iconst 0, (0, 0, 0, 0)), (213, .ireturn, (0, 0, 0, 0)), (214, .iconst (-1), (0, 0, 0, 0)), (215, .ireturn, (0, 0, 0, 0))]
def op_164 : List (Nat × Instr × tm_X) := [(0, .iload_n 1, (0, 0, 0, 0)), (1, .iconst 0, (0, 0, 0, 0)), (2, .bipush 99, (0, 0, 0, 0)), (4, .invokestatic 83, (1, 117, 3, 0)), (7, .ifCond .eq 23, (0, 0, 0, 0)), (10, .iload_n 2, (0, 0, 0, 0)), (11, .iconst 0, (0, 0, 0, 0)), (12, .aload_n 0, (0, 0, 0, 0)), (13, .getfield 87, (0, 10, 0, 0)), (16, .invokestatic 83, (1, 117, 3, 0)), (19, .ifCond .eq 11, (0, 0, 0, 0)), (22, .aload_n 0, (0, 0, 0, 0)), (23, .iload_n 2, (0, 0, 0, 0)), (24, .invokevirtual 218, (2, 156, 2, 10)), (27, .ifCond .ne 5, (0, 0, 0, 0)), (30, .iconst (-1), (0, 0, 0, 0)), (31, .ireturn, (0, 0, 0, 0)), (32, .iconst 0, (0, 0, 0, 0)), (33, .istore_n 3, (0, 0, 0, 0)), (34, .iconst 0, (0, 0, 0, 0)), (35, .istore 4, (0, 0, 0, 0)), (37, .iload 4, (0, 0, 0, 0)), (39, .aload_n 0, (0, 0, 0, 0)), (40, .getfield 208, (0, 10, 33, 0)), (43, .if_icmp .ge 28, (0, 0, 0, 0)), (46, .iload_n 3, (0, 0, 0, 0)), (47, .aload_n 0, (0, 0, 0, 0)), (48, .iload 4, (0, 0, 0, 0)), (50, .iconst 0, (0, 0, 0, 0)), (51, .invokevirtual 234, (2, 161, 3, 10)), (54, .iload_n 1, (0, 0, 0, 0)), (55, .if_icmp .ne 7, (0, 0, 0, 0)), (58, .iconst 1, (0, 0, 0, 0)), (59, .goto 4, (0, 0, 0, 0)), (62, .iconst 0, (0, 0, 0, 0)), (63, .iadd, (0, 0, 0, 0)), (64, .istore_n 3, (0, 0, 0, 0)), (65, .iinc 4 1, (0, 0, 0, 0)), (68, .goto (-31), (0, 0, 0, 0)), (71, .iload_n 3, (0, 0, 0, 0)), (72, .ireturn, (0, 0, 0, 0))]
def op_165 : List (Nat × Instr × tm_X) := [(0, .iconst 0, (0, 0, 0, 0)), (1, .istore_n 2, (0, 0, 0, 0)), (2, .iconst 0, (0, 0, 0, 0)), (3, .istore_n 3, (0, 0, 0, 0)), (4, .iload_n 3, (0, 0, 0, 0)), (5, .iconst 5, (0, 0, 0, 0)), (6, .if_icmp .ge 28, (0, 0, 0, 0)), (9, .iload_n 2, (0, 0, 0, 0)), (10, .aload_n 0, (0, 0, 0, 0)), (11, .iload_n 1, (0, 0, 0, 0)), (12, .iload_n 3, (0, 0, 0, 0)), (13, .invokevirtual 176, (2, 140, 3, 10)), (16, .ifCond .eq 9, (0, 0, 0, 0)), (19, .iconst 1, (0, 0, 0, 0)), (20, .iload_n 3, (0, 0, 0, 0)), (21, .ishl, (0, 0, 0, 0)), (22, .goto 4, (0, 0, 0, 0)), (25, .iconst 0, (0, 0, 0, 0)), (26, .ior, (0, 0, 0, 0)), (27, .istore_n 2, (0, 0, 0, 0)), (28, .iinc 3 1, (0, 0, 0, 0)), (31, .goto (-27), (0, 0, 0, 0)), (34, .iload_n 2, (0, 0, 0, 0)), (35, .ireturn, (0, 0, 0, 0))]
def op_166 : List (Nat × Instr × tm_X) := [(0, .aload_n 0, (0, 0, 0, 0)), (1, .iload_n 1, (0, 0, 0, 0)), (2, .iload_n 2, (0, 0, 0, 0)), (3, .invokevirtual 166, (2, 138, 3, 10)), (6, .ifCond .ne 5, (0, 0, 0, 0)), (9, .iconst 0, (0, 0, 0, 0)), (10, .ireturn, (0, 0, 0, 0)), (11, .aload_n 0, (0, 0, 0, 0)), (12, .iload_n 2, (0, 0, 0, 0)), (13, .invokevirtual 194, (2, 139, 2, 10)), (16, .aload_n 0, (0, 0, 0, 0)), (17, .iload_n 1, (0, 0, 0, 0)), (18, .invokevirtual 237, (2, 165, 2, 10)), (21, .ireturn, (0, 0, 0, 0))]
def op_167 : List (Nat × Instr × tm_X) := [(0, .iload_n 1, (0, 0, 0, 0)), (1, .iload_n 0, (0, 0, 0, 0)), (2, .iconst (-1), (0, 0, 0, 0)), (3, .ixor, (0, 0, 0, 0)), (4, .iand, (0, 0, 0, 0)), (5, .invokestatic 240, (1, 174, 1, 0)), (8, .iconst 2, (0, 0, 0, 0)), (9, .iload_n 0, (0, 0, 0, 0)), (10, .iload_n 1, (0, 0, 0, 0)), (11, .iconst (-1), (0, 0, 0, 0)), (12, .ixor, (0, 0, 0, 0)), (13, .iand, (0, 0, 0, 0)), (14, .invokestatic 240, (1, 174, 1, 0)), (17, .imul, (0, 0, 0, 0)), (18, .iadd, (0, 0, 0, 0)), (19, .ireturn, (0, 0, 0, 0))]
def op_168 : List (Nat × Instr × tm_X) := [(0, .iload 4, (0, 0, 0, 0)), (2, .aload_n 0, (0, 0, 0, 0)), (3, .getfield 13, (0, 10, 4, 0)), (6, .imul, (0, 0, 0, 0)), (7, .istore 5, (0, 0, 0, 0)), (9, .iconst 0, (0, 0, 0, 0)), (10, .istore 6, (0, 0, 0, 0)), (12, .iload 6, (0, 0, 0, 0)), (14, .aload_n 0, (0, 0, 0, 0)), (15, .getfield 159, (0, 10, 26, 0)), (18, .if_icmp .ge 87, (0, 0, 0, 0)), (21, .aload_n 0, (0, 0, 0, 0)), (22, .getfield 77, (2, 10, 35, 0)), (25, .iload 6, (0, 0, 0, 0)), (27, .iaload, (0, 0, 0, 0)), (28, .iload_n 1, (0, 0, 0, 0)), (29, .invokestatic 245, (1, 167, 2, 0)), (32, .istore 7, (0, 0, 0, 0)), (34, .iload 4, (0, 0, 0, 0)), (36, .iconst 1, (0, 0, 0, 0)), (37, .if_icmp .le 22, (0, 0, 0, 0)), (40, .iload 7, (0, 0, 0, 0)), (42, .aload_n 0, (0, 0, 0, 0)), (43, .getfield 77, (2, 10, 35, 0)), (46, .iload 6, (0, 0, 0, 0)), (48, .iaload, (0, 0, 0, 0)), (49, .iload_n 2, (0, 0, 0, 0)), (50, .invokestatic 245, (1, 167, 2, 0)), (53, .invokestatic 224, (8, 0, 0, 0)), (56, .goto 5, (0, 0, 0, 0)), (59, .iload 7, (0, 0, 0, 0)), (61, .istore 7, (0, 0, 0, 0)), (63, .iload 4, (0, 0, 0, 0)), (65, .iconst 2, (0, 0, 0, 0)), (66, .if_icmp .le 22, (0, 0, 0, 0)), (69, .iload 7, (0, 0, 0, 0)), (71, .aload_n 0, (0, 0, 0, 0)), (72, .getfield 77, (2, 10, 35, 0)), (75, .iload 6, (0, 0, 0, 0)), (77, .iaload, (0, 0, 0, 0)), (78, .iload_n 3, (0, 0, 0, 0)), (79, .invokestatic 245, (1, 167, 2, 0)), (82, .invokestatic 224, (8, 0, 0, 0)), (85, .goto 5, (0, 0, 0, 0)), (88, .iload 7, (0, 0, 0, 0)), (90, .istore 7, (0, 0, 0, 0)), (92, .iload 5, (0, 0, 0, 0)), (94, .iload 7, (0, 0, 0, 0)), (96, .iadd, (0, 0, 0, 0)), (97, .istore 5, (0, 0, 0, 0)), (99, .iinc 6 1, (0, 0, 0, 0)), (102, .goto (-90), (0, 0, 0, 0)), (105, .iload 5, (0, 0, 0, 0)), (107, .ireturn, (0, 0, 0, 0))]
def op_169 : List (Nat × Instr × tm_X) := [(0, .aload_n 0, (0, 0, 0, 0)), (1, .iload_n 1, (0, 0, 0, 0)), (2, .iload_n 2, (0, 0, 0, 0)), (3, .iload_n 3, (0, 0, 0, 0)), (4, .iload 4, (0, 0, 0, 0)), (6, .invokevirtual 248, (2, 168, 5, 10)), (9, .istore 5, (0, 0, 0, 0)), (11, .aload_n 0, (0, 0, 0, 0)), (12, .getfield 252, (0, 10, 37, 0)), (15, .ifCond .eq 12, (0, 0, 0, 0)), (18, .iload 5, (0, 0, 0, 0)), (20, .aload_n 0, (0, 0, 0, 0)), (21, .getfield 255, (0, 10, 38, 0)), (24, .if_icmp .ge 36, (0, 0, 0, 0)), (27, .aload_n 0, (0, 0, 0, 0)), (28, .iload 4, (0, 0, 0, 0)), (30, .putfield 252, (0, 10, 37, 0)), (33, .aload_n 0, (0, 0, 0, 0)), (34, .iload 5, (0, 0, 0, 0)), (36, .putfield 255, (0, 10, 38, 0)), (39, .aload_n 0, (0, 0, 0, 0)), (40, .getfield 80, (2, 10, 36, 0)), (43, .iconst 0, (0, 0, 0, 0)), (44, .iload_n 1, (0, 0, 0, 0)), (45, .iastore, (0, 0, 0, 0)), (46, .aload_n 0, (0, 0, 0, 0)), (47, .getfield 80, (2, 10, 36, 0)), (50, .iconst 1, (0, 0, 0, 0)), (51, .iload_n 2, (0, 0, 0, 0)), (52, .iastore, (0, 0, 0, 0)), (53, .aload_n 0, (0, 0, 0, 0)), (54, .getfield 80, (2, 10, 36, 0)), (57, .iconst 2, (0, 0, 0, 0)), (58, .iload_n 3, (0, 0, 0, 0)), (59, .iastore, (0, 0, 0, 0)), (60, .return_, (0, 0, 0, 0))]
def op_170 : List (Nat × Instr × tm_X) := [(0, .aload_n 0, (0, 0, 0, 0)), (1, .iload_n 1, (0, 0, 0, 0)), (2, .invokevirtual 194, (2, 139, 2, 10)), (5, .aload_n 0, (0, 0, 0, 0)), (6, .iconst 0, (0, 0, 0, 0)), (7, .putfield 252, (0, 10, 37, 0)), (10, .aload_n 0, (0, 0, 0, 0)), (11, .iconst 0, (0, 0, 0, 0)), (12, .putfield 255, (0, 10, 38, 0)), (15, .aload_n 0, (0, 0, 0, 0)), (16, .getfield 159, (0, 10, 26, 0)), (19, .ifCond .ne 4, (0, 0, 0, 0)), (22, .return_, (0, 0, 0, 0)), (23, .iconst 0, (0, 0, 0, 0)), (24, .istore_n 2, (0, 0, 0, 0)), (25, .iload_n 2, (0, 0, 0, 0)), (26, .aload_n 0, (0, 0, 0, 0)), (27, .getfield 159, (0, 10, 26, 0)), (30, .if_icmp .ge 25, (0, 0, 0, 0)), (33, .aload_n 0, (0, 0, 0, 0)), (34, .getfield 77, (2, 10, 35, 0)), (37, .iload_n 2, (0, 0, 0, 0)), (38, .aload_n 0, (0, 0, 0, 0)), (39, .aload_n 0, (0, 0, 0, 0)), (40, .getfield 62, (2, 10, 27, 0)), (43, .iload_n 2, (0, 0, 0, 0)), (44, .iaload, (0, 0, 0, 0)), (45, .invokevirtual 237, (2, 165, 2, 10)), (48, .iastore, (0, 0, 0, 0)), (49, .iinc 2 1, (0, 0, 0, 0)), (52, .goto (-27), (0, 0, 0, 0)), (55, .iconst 1, (0, 0, 0, 0)), (56, .istore_n 2, (0, 0, 0, 0)), (57, .iload_n 2, (0, 0, 0, 0)), (58, .bipush 32, (0, 0, 0, 0)), (60, .if_icmp .ge 17, (0, 0, 0, 0)), (63, .aload_n 0, (0, 0, 0, 0)), (64, .iload_n 2, (0, 0, 0, 0)), (65, .iconst 0, (0, 0, 0, 0)), (66, .iconst 0, (0, 0, 0, 0)), (67, .iconst 1, (0, 0, 0, 0)), (68, .invokevirtual 258, (2, 169, 5, 10)), (71, .iinc 2 1, (0, 0, 0, 0)), (74, .goto (-17), (0, 0, 0, 0)), (77, .iconst 1, (0, 0, 0, 0)), (78, .istore_n 2, (0, 0, 0, 0)), (79, .iload_n 2, (0, 0, 0, 0)), (80, .bipush 32, (0, 0, 0, 0)), (82, .if_icmp .ge 33, (0, 0, 0, 0)), (85, .iload_n 2, (0, 0, 0, 0)), (86, .iconst 1, (0, 0, 0, 0)), (87, .iadd, (0, 0, 0, 0)), (88, .istore_n 3, (0, 0, 0, 0)), (89, .iload_n 3, (0, 0, 0, 0)), (90, .bipush 32, (0, 0, 0, 0)), (92, .if_icmp .ge 17, (0, 0, 0, 0)), (95, .aload_n 0, (0, 0, 0, 0)), (96, .iload_n 2, (0, 0, 0, 0)), (97, .iload_n 3, (0, 0, 0, 0)), (98, .iconst 0, (0, 0, 0, 0)), (99, .iconst 2, (0, 0, 0, 0)), (100, .invokevirtual 258, (2, 169, 5, 10)), (103, .iinc 3 1, (0, 0, 0, 0)), (106, .goto (-17), (0, 0, 0, 0)), (109, .iinc 2 1, (0, 0, 0, 0)), (112, .goto (-33), (0, 0, 0, 0)), (115, .iconst 1, (0, 0, 0, 0)), (116, .istore_n 2, (0, 0, 0, 0)), (117, .iload_n 2, (0, 0, 0, 0)), (118, .bipush 32, (0, 0, 0, 0)), (120, .if_icmp .ge 52, (0, 0, 0, 0)), (123, .iload_n 2, (0, 0, 0, 0)), (124, .iconst 1, (0, 0, 0, 0)), (125, .iadd, (0, 0, 0, 0)), (126, .istore_n 3, (0, 0, 0, 0)), (127, .iload_n 3, (0, 0, 0, 0)), (128, .bipush 32, (0, 0, 0, 0)), (130, .if_icmp .ge 36, (0, 0, 0, 0)), (133, .iload_n 3, (0, 0, 0, 0)), (134, .iconst 1, (0, 0, 0, 0)), (135, .iadd, (0, 0, 0, 0)), (136, .istore 4, (0, 0, 0, 0)), (138, .iload 4, (0, 0, 0, 0)), (140, .bipush 32, (0, 0, 0, 0)), (142, .if_icmp .ge 18, (0, 0, 0, 0)), (145, .aload_n 0, (0, 0, 0, 0)), (146, .iload_n 2, (0, 0, 0, 0)), (147, .iload_n 3, (0, 0, 0, 0)), (148, .iload 4, (0, 0, 0, 0)), (150, .iconst 3, (0, 0, 0, 0)), (151, .invokevirtual 258, (2, 169, 5, 10)), (154, .iinc 4 1, (0, 0, 0, 0)), (157, .goto (-19), (0, 0, 0, 0)), (160, .iinc 3 1, (0, 0, 0, 0)), (163, .goto (-36), (0, 0, 0, 0)), (166, .iinc 2 1, (0, 0, 0, 0)), (169, .goto (-52), (0, 0, 0, 0)), (172, .return_, (0, 0, 0, 0))]
def op_171 : List (Nat × Instr × tm_X) := [(0, .iload_n 2, (0, 0, 0, 0)), (1, .iconst 0, (0, 0, 0, 0)), (2, .aload_n 0, (0, 0, 0, 0)), (3, .getfield 87, (0, 10, 0, 0)), (6, .invokestatic 83, (1, 117, 3, 0)), (9, .ifCond .ne 5, (0, 0, 0, 0)), (12, .iconst (-1), (0, 0, 0, 0)), (13, .ireturn, (0, 0, 0, 0)), (14, .aload_n 0, (0, 0, 0, 0)), (15, .iload_n 2, (0, 0, 0, 0)), (16, .invokevirtual 262, (2, 170, 2, 10)), (19, .iload_n 1, (0, 0, 0, 0)), (20, .iconst 0, (0, 0, 0, 0)), (21, .aload_n 0, (0, 0, 0, 0)), (22, .getfield 252, (0, 10, 37, 0)), (25, .iconst 1, (0, 0, 0, 0)), (26, .isub, (0, 0, 0, 0)), (27, .invokestatic 83, (1, 117, 3, 0)), (30, .ifCond .eq 12, (0, 0, 0, 0)), (33, .aload_n 0, (0, 0, 0, 0)), (34, .getfield 80, (2, 10, 36, 0)), (37, .iload_n 1, (0, 0, 0, 0)), (38, .iaload, (0, 0, 0, 0)), (39, .goto 4, (0, 0, 0, 0)), (42, .iconst (-1), (0, 0, 0, 0)), (43, .ireturn, (0, 0, 0, 0))]
def op_172 : List (Nat × Instr × tm_X) := [(0, .iload_n 1, (0, 0, 0, 0)), (1, .iconst 0, (0, 0, 0, 0)), (2, .aload_n 0, (0, 0, 0, 0)), (3, .getfield 87, (0, 10, 0, 0)), (6, .invokestatic 83, (1, 117, 3, 0)), (9, .ifCond .ne 5, (0, 0, 0, 0)), (12, .iconst (-1), (0, 0, 0, 0)), (13, .ireturn, (0, 0, 0, 0)), (14, .aload_n 0, (0, 0, 0, 0)), (15, .iload_n 1, (0, 0, 0, 0)), (16, .invokevirtual 262, (2, 170, 2, 10)), (19, .aload_n 0, (0, 0, 0, 0)), (20, .getfield 255, (0, 10, 38, 0)), (23, .ireturn, (0, 0, 0, 0))]
def op_173 : List (Nat × Instr × tm_X) := [(0, .iconst 0, (0, 0, 0, 0)), (1, .istore_n 2, (0, 0, 0, 0)), (2, .iconst 0, (0, 0, 0, 0)), (3, .istore_n 3, (0, 0, 0, 0)), (4, .iconst 0, (0, 0, 0, 0)), (5, .istore 4, (0, 0, 0, 0)), (7, .iload 4, (0, 0, 0, 0)), (9, .aload_n 0, (0, 0, 0, 0)), (10, .getfield 142, (0, 10, 1, 0)), (13, .if_icmp .ge 75, (0, 0, 0, 0)), (16, .iconst 0, (0, 0, 0, 0)), (17, .istore 5, (0, 0, 0, 0)), (19, .iload 5, (0, 0, 0, 0)), (21, .iload 4, (0, 0, 0, 0)), (23, .if_icmp .ge 59, (0, 0, 0, 0)), (26, .iload_n 2, (0, 0, 0, 0)), (27, .aload_n 0, (0, 0, 0, 0)), (28, .getfield 65, (2, 10, 28, 0)), (31, .bipush 10, (0, 0, 0, 0)), (33, .iload 4, (0, 0, 0, 0)), (35, .imul, (0, 0, 0, 0)), (36, .iload 5, (0, 0, 0, 0)), (38, .iadd, (0, 0, 0, 0)), (39, .iaload, (0, 0, 0, 0)), (40, .iconst 1, (0, 0, 0, 0)), (41, .if_icmp .ne 7, (0, 0, 0, 0)), (44, .iconst 1, (0, 0, 0, 0)), (45, .goto 4, (0, 0, 0, 0)), (48, .iconst 0, (0, 0, 0, 0)), (49, .iadd, (0, 0, 0, 0)), (50, .istore_n 2, (0, 0, 0, 0)), (51, .iload_n 3, (0, 0, 0, 0)), (52, .aload_n 0, (0, 0, 0, 0)), (53, .getfield 65, (2, 10, 28, 0)), (56, .bipush 10, (0, 0, 0, 0)), (58, .iload 4, (0, 0, 0, 0)), (60, .imul, (0, 0, 0, 0)), (61, .iload 5, (0, 0, 0, 0)), (63, .iadd, (0, 0, 0, 0)), (64, .iaload, (0, 0, 0, 0)), (65, .iconst 2, (0, 0, 0, 0)), (66, .if_icmp .ne 7, (0, 0, 0, 0)), (69, .iconst 1, (0, 0, 0, 0)), (70, .goto 4, (0, 0, 0, 0)), (73, .iconst 0, (0, 0, 0, 0)), (74, .iadd, (0, 0, 0, 0)), (75, .istore_n 3, (0, 0, 0, 0)), (76, .iinc 5 1, (0, 0, 0, 0)), (79, .goto (-60), (0, 0, 0, 0)), (82, .iinc 4 1, (0, 0, 0, 0)), (85, .goto (-78), (0, 0, 0, 0)), (88, .iload_n 1, (0, 0, 0, 0)), (89, .tableswitch 63 0 5 #[39, 44, 49, 54, 59, 61], (39, 0, 0, 0)), (128, .aload_n 0, (0, 0, 0, 0)), (129, .getfield 87, (0, 10, 0, 0)), (132, .ireturn, (0, 0, 0, 0)), (133, .aload_n 0, (0, 0, 0, 0)), (134, .getfield 142, (0, 10, 1, 0)), (137, .ireturn, (0, 0, 0, 0)), (138, .aload_n 0, (0, 0, 0, 0)), (139, .getfield 156, (0, 10, 2, 0)), (142, .ireturn, (0, 0, 0, 0)), (143, .aload_n 0, (0, 0, 0, 0)), (144, .getfield 94, (0, 10, 6, 0)), (147, .ireturn, (0, 0, 0, 0)), (148, .iload_n 2, (0, 0, 0, 0)), (149, .ireturn, (0, 0, 0, 0)), (150, .iload_n 3, (0, 0, 0, 0)), (151, .ireturn, (0, 0, 0, 0)), (152, .iconst (-1), (0, 0, 0, 0)), (153, .ireturn, (0, 0, 0, 0))]
def op_174 : List (Nat × Instr × tm_X) := [(0, .iload_n 0, (0, 0, 0, 0)), (1, .iload_n 0, (0, 0, 0, 0)), (2, .iconst 1, (0, 0, 0, 0)), (3, .iushr, (0, 0, 0, 0)), (4, .ldc_w 265, (0, 1431655765, 0, 0)), (7, .iand, (0, 0, 0, 0)), (8, .isub, (0, 0, 0, 0)), (9, .istore_n 0, (0, 0, 0, 0)), (10, .iload_n 0, (0, 0, 0, 0)), (11, .ldc_w 266, (0, 858993459, 0, 0)), (14, .iand, (0, 0, 0, 0)), (15, .iload_n 0, (0, 0, 0, 0)), (16, .iconst 2, (0, 0, 0, 0)), (17, .iushr, (0, 0, 0, 0)), (18, .ldc_w 266, (0, 858993459, 0, 0)), (21, .iand, (0, 0, 0, 0)), (22, .iadd, (0, 0, 0, 0)), (23, .istore_n 0, (0, 0, 0, 0)), (24, .iload_n 0, (0, 0, 0, 0)), (25, .iload_n 0, (0, 0, 0, 0)), (26, .iconst 4, (0, 0, 0, 0)), (27, .iushr, (0, 0, 0, 0)), (28, .iadd, (0, 0, 0, 0)), (29, .ldc_w 267, (0, 252645135, 0, 0)), (32, .iand, (0, 0, 0, 0)), (33, .istore_n 0, (0, 0, 0, 0)), (34, .iload_n 0, (0, 0, 0, 0)), (35, .iload_n 0, (0, 0, 0, 0)), (36, .bipush 8, (0, 0, 0, 0)), (38, .iushr, (0, 0, 0, 0)), (39, .iadd, (0, 0, 0, 0)), (40, .istore_n 0, (0, 0, 0, 0)), (41, .iload_n 0, (0, 0, 0, 0)), (42, .iload_n 0, (0, 0, 0, 0)), (43, .bipush 16, (0, 0, 0, 0)), (45, .iushr, (0, 0, 0, 0)), (46, .iadd, (0, 0, 0, 0)), (47, .istore_n 0, (0, 0, 0, 0)), (48, .iload_n 0, (0, 0, 0, 0)), (49, .bipush 63, (0, 0, 0, 0)), (51, .iand, (0, 0, 0, 0)), (52, .ireturn, (0, 0, 0, 0))]
def op_175 : List (Nat × Instr × tm_X) := [(0, .new 7, (0, 9, 13, 0)), (3, .dup, (0, 0, 0, 0)), (4, .invokespecial 9, (3, 85, 1, 0)), (7, .astore_n 1, (0, 0, 0, 0)), (8, .new 10, (0, 10, 39, 0)), (11, .dup, (0, 0, 0, 0)), (12, .invokespecial 12, (3, 116, 1, 0)), (15, .astore_n 2, (0, 0, 0, 0)), (16, .iconst 0, (0, 0, 0, 0)), (17, .istore_n 3, (0, 0, 0, 0)), (18, .iload_n 3, (0, 0, 0, 0)), (19, .aload_n 0, (0, 0, 0, 0)), (20, .arraylength, (0, 0, 0, 0)), (21, .bipush 6, (0, 0, 0, 0)), (23, .isub, (0, 0, 0, 0)), (24, .if_icmp .gt 841, (0, 0, 0, 0)), (27, .aload_n 0, (0, 0, 0, 0)), (28, .iload_n 3, (0, 0, 0, 0)), (29, .iaload, (0, 0, 0, 0)), (30, .bipush 31, (0, 0, 0, 0)), (32, .iand, (0, 0, 0, 0)), (33, .tableswitch 826 0 22 #[107, 130, 193, 216, 229, 242, 265, 298, 341, 364, 387, 430, 463, 516, 559, 592, 615, 638, 681, 714, 747, 780, 803], (107, 0, 0, 0)), (140, .aload_n 1, (0, 0, 0, 0)), (141, .aload_n 0, (0, 0, 0, 0)), (142, .iload_n 3, (0, 0, 0, 0)), (143, .iconst 1, (0, 0, 0, 0)), (144, .iadd, (0, 0, 0, 0)), (145, .iaload, (0, 0, 0, 0)), (146, .invokevirtual 13, (2, 86, 2, 9)), (149, .aload_n 2, (0, 0, 0, 0)), (150, .aload_n 0, (0, 0, 0, 0)), (151, .iload_n 3, (0, 0, 0, 0)), (152, .iconst 1, (0, 0, 0, 0)), (153, .iadd, (0, 0, 0, 0)), (154, .iaload, (0, 0, 0, 0)), (155, .invokevirtual 17, (2, 118, 2, 10)), (158, .if_icmp .eq 701, (0, 0, 0, 0)), (161, .iconst 0, (0, 0, 0, 0)), (162, .ireturn, (0, 0, 0, 0)), (163, .aload_n 1, (0, 0, 0, 0)), (164, .aload_n 0, (0, 0, 0, 0)), (165, .iload_n 3, (0, 0, 0, 0)), (166, .iconst 1, (0, 0, 0, 0)), (167, .iadd, (0, 0, 0, 0)), (168, .iaload, (0, 0, 0, 0)), (169, .aload_n 0, (0, 0, 0, 0)), (170, .iload_n 3, (0, 0, 0, 0)), (171, .iconst 2, (0, 0, 0, 0)), (172, .iadd, (0, 0, 0, 0)), (173, .iaload, (0, 0, 0, 0)), (174, .aload_n 0, (0, 0, 0, 0)), (175, .iload_n 3, (0, 0, 0, 0)), (176, .iconst 3, (0, 0, 0, 0)), (177, .iadd, (0, 0, 0, 0)), (178, .iaload, (0, 0, 0, 0)), (179, .aload_n 0, (0, 0, 0, 0)), (180, .iload_n 3, (0, 0, 0, 0)), (181, .iconst 4, (0, 0, 0, 0)), (182, .iadd, (0, 0, 0, 0)), (183, .iaload, (0, 0, 0, 0)), (184, .aload_n 0, (0, 0, 0, 0)), (185, .iload_n 3, (0, 0, 0, 0)), (186, .iconst 5, (0, 0, 0, 0)), (187, .iadd, (0, 0, 0, 0)), (188, .iaload, (0, 0, 0, 0)), (189, .invokevirtual 18, (2, 87, 6, 9)), (192, .aload_n 2, (0, 0, 0, 0)), (193, .aload_n 0, (0, 0, 0, 0)), (194, .iload_n 3, (0, 0, 0, 0)), (195, .iconst 1, (0, 0, 0, 0)), (196, .iadd, (0, 0, 0, 0)), (197, .iaload, (0, 0, 0, 0)), (198, .aload_n 0, (0, 0, 0, 0)), (199, .iload_n 3, (0, 0, 0, 0)), (200, .iconst 2, (0, 0, 0, 0)), (201, .iadd, (0, 0, 0, 0)), (202, .iaload, (0, 0, 0, 0)), (203, .aload_n 0, (0, 0, 0, 0)), (204, .iload_n 3, (0, 0, 0, 0)), (205, .iconst 3, (0, 0, 0, 0)), (206, .iadd, (0, 0, 0, 0)), (207, .iaload, (0, 0, 0, 0)), (208, .aload_n 0, (0, 0, 0, 0)), (209, .iload_n 3, (0, 0, 0, 0)), (210, .iconst 4, (0, 0, 0, 0)), (211, .iadd, (0, 0, 0, 0)), (212, .iaload, (0, 0, 0, 0)), (213, .aload_n 0, (0, 0, 0, 0)), (214, .iload_n 3, (0, 0, 0, 0)), (215, .iconst 5, (0, 0, 0, 0)), (216, .iadd, (0, 0, 0, 0)), (217, .iaload, (0, 0, 0, 0)), (218, .invokevirtual 22, (2, 120, 6, 10)), (221, .if_icmp .eq 638, (0, 0, 0, 0)), (224, .iconst 0, (0, 0, 0, 0)), (225, .ireturn, (0, 0, 0, 0)), (226, .aload_n 1, (0, 0, 0, 0)), (227, .aload_n 0, (0, 0, 0, 0)), (228, .iload_n 3, (0, 0, 0, 0)), (229, .iconst 1, (0, 0, 0, 0)), (230, .iadd, (0, 0, 0, 0)), (231, .iaload, (0, 0, 0, 0)), (232, .invokevirtual 23, (2, 88, 2, 9)), (235, .aload_n 2, (0, 0, 0, 0)), (236, .aload_n 0, (0, 0, 0, 0)), (237, .iload_n 3, (0, 0, 0, 0)), (238, .iconst 1, (0, 0, 0, 0)), (239, .iadd, (0, 0, 0, 0)), (240, .iaload, (0, 0, 0, 0)), (241, .invokevirtual 27, (2, 121, 2, 10)), (244, .if_icmp .eq 615, (0, 0, 0, 0)), (247, .iconst 0, (0, 0, 0, 0)), (248, .ireturn, (0, 0, 0, 0)), (249, .aload_n 1, (0, 0, 0, 0)), (250, .invokevirtual 28, (2, 89, 1, 9)), (253, .aload_n 2, (0, 0, 0, 0)), (254, .invokevirtual 32, (2, 131, 1, 10)), (257, .if_icmp .eq 602, (0, 0, 0, 0)), (260, .iconst 0, (0, 0, 0, 0)), (261, .ireturn, (0, 0, 0, 0)), (262, .aload_n 1, (0, 0, 0, 0)), (263, .invokevirtual 33, (2, 90, 1, 9)), (266, .aload_n 2, (0, 0, 0, 0)), (267, .invokevirtual 36, (2, 133, 1, 10)), (270, .if_icmp .eq 589, (0, 0, 0, 0)), (273, .iconst 0, (0, 0, 0, 0)), (274, .ireturn, (0, 0, 0, 0)), (275, .aload_n 1, (0, 0, 0, 0)), (276, .aload_n 0, (0, 0, 0, 0)), (277, .iload_n 3, (0, 0, 0, 0)), (278, .iconst 1, (0, 0, 0, 0)), (279, .iadd, (0, 0, 0, 0)), (280, .iaload, (0, 0, 0, 0)), (281, .invokevirtual 37, (2, 91, 2, 9)), (284, .aload_n 2, (0, 0, 0, 0)), (285, .aload_n 0, (0, 0, 0, 0)), (286, .iload_n 3, (0, 0, 0, 0)), (287, .iconst 1, (0, 0, 0, 0)), (288, .iadd, (0, 0, 0, 0)), (289, .iaload, (0, 0, 0, 0)), (290, .invokevirtual 40, (2, 135, 2, 10)), (293, .if_icmp .eq 566, (0, 0, 0, 0)), (296, .iconst 0, (0, 0, 0, 0)), (297, .ireturn, (0, 0, 0, 0)), (298, .aload_n 1, (0, 0, 0, 0)), (299, .aload_n 0, (0, 0, 0, 0)), (300, .iload_n 3, (0, 0, 0, 0)), (301, .iconst 1, (0, 0, 0, 0)), (302, .iadd, (0, 0, 0, 0)), (303, .iaload, (0, 0, 0, 0)), (304, .aload_n 0, (0, 0, 0, 0)), (305, .iload_n 3, (0, 0, 0, 0)), (306, .iconst 2, (0, 0, 0, 0)), (307, .iadd, (0, 0, 0, 0)), (308, .iaload, (0, 0, 0, 0)), (309, .invokevirtual 41, (2, 92, 3, 9)), (312, .aload_n 2, (0, 0, 0, 0)), (313, .aload_n 0, (0, 0, 0, 0)), (314, .iload_n 3, (0, 0, 0, 0)), (315, .iconst 1, (0, 0, 0, 0)), (316, .iadd, (0, 0, 0, 0)), (317, .iaload, (0, 0, 0, 0)), (318, .aload_n 0, (0, 0, 0, 0)), (319, .iload_n 3, (0, 0, 0, 0)), (320, .iconst 2, (0, 0, 0, 0)), (321, .iadd, (0, 0, 0, 0)), (322, .iaload, (0, 0, 0, 0)), (323, .invokevirtual 45, (2, 136, 3, 10)), (326, .if_icmp .eq 533, (0, 0, 0, 0)), (329, .iconst 0, (0, 0, 0, 0)), (330, .ireturn, (0, 0, 0, 0)), (331, .aload_n 1, (0, 0, 0, 0)), (332, .aload_n 0, (0, 0, 0, 0)), (333, .iload_n 3, (0, 0, 0, 0)), (334, .iconst 1, (0, 0, 0, 0)), (335, .iadd, (0, 0, 0, 0)), (336, .iaload, (0, 0, 0, 0)), (337, .aload_n 0, (0, 0, 0, 0)), (338, .iload_n 3, (0, 0, 0, 0)), (339, .iconst 2, (0, 0, 0, 0)), (340, .iadd, (0, 0, 0, 0)), (341, .iaload, (0, 0, 0, 0)), (342, .aload_n 0, (0, 0, 0, 0)), (343, .iload_n 3, (0, 0, 0, 0)), (344, .iconst 3, (0, 0, 0, 0)), (345, .iadd, (0, 0, 0, 0)), (346, .iaload, (0, 0, 0, 0)), (347, .invokevirtual 46, (2, 93, 4, 9)), (350, .aload_n 2, (0, 0, 0, 0)), (351, .aload_n 0, (0, 0, 0, 0)), (352, .iload_n 3, (0, 0, 0, 0)), (353, .iconst 1, (0, 0, 0, 0)), (354, .iadd, (0, 0, 0, 0)), (355, .iaload, (0, 0, 0, 0)), (356, .aload_n 0, (0, 0, 0, 0)), (357, .iload_n 3, (0, 0, 0, 0)), (358, .iconst 2, (0, 0, 0, 0)), (359, .iadd, (0, 0, 0, 0)), (360, .iaload, (0, 0, 0, 0)), (361, .aload_n 0, (0, 0, 0, 0)), (362, .iload_n 3, (0, 0, 0, 0)), (363, .iconst 3, (0, 0, 0, 0)), (364, .iadd, (0, 0, 0, 0)), (365, .iaload, (0, 0, 0, 0)), (366, .invokevirtual 50, (2, 146, 4, 10)), (369, .if_icmp .eq 490, (0, 0, 0, 0)), (372, .iconst 0, (0, 0, 0, 0)), (373, .ireturn, (0, 0, 0, 0)), (374, .aload_n 1, (0, 0, 0, 0)), (375, .aload_n 0, (0, 0, 0, 0)), (376, .iload_n 3, (0, 0, 0, 0)), (377, .iconst 1, (0, 0, 0, 0)), (378, .iadd, (0, 0, 0, 0)), (379, .iaload, (0, 0, 0, 0)), (380, .invokevirtual 51, (2, 94, 2, 9)), (383, .aload_n 2, (0, 0, 0, 0)), (384, .aload_n 0, (0, 0, 0, 0)), (385, .iload_n 3, (0, 0, 0, 0)), (386, .iconst 1, (0, 0, 0, 0)), (387, .iadd, (0, 0, 0, 0)), (388, .iaload, (0, 0, 0, 0)), (389, .invokevirtual 54, (2, 147, 2, 10)), (392, .if_icmp .eq 467, (0, 0, 0, 0)), (395, .iconst 0, (0, 0, 0, 0)), (396, .ireturn, (0, 0, 0, 0)), (397, .aload_n 1, (0, 0, 0, 0)), (398, .aload_n 0, (0, 0, 0, 0)), (399, .iload_n 3, (0, 0, 0, 0)), (400, .iconst 1, (0, 0, 0, 0)), (401, .iadd, (0, 0, 0, 0)), (402, .iaload, (0, 0, 0, 0)), (403, .invokevirtual 55, (2, 95, 2, 9)), (406, .aload_n 2, (0, 0, 0, 0)), (407, .aload_n 0, (0, 0, 0, 0)), (408, .iload_n 3, (0, 0, 0, 0)), (409, .iconst 1, (0, 0, 0, 0)), (410, .iadd, (0, 0, 0, 0)), (411, .iaload, (0, 0, 0, 0)), (412, .invokevirtual 58, (2, 148, 2, 10)), (415, .if_icmp .eq 444, (0, 0, 0, 0)), (418, .iconst 0, (0, 0, 0, 0)), (419, .ireturn, (0, 0, 0, 0)), (420, .aload_n 1, (0, 0, 0, 0)), (421, .aload_n 0, (0, 0, 0, 0)), (422, .iload_n 3, (0, 0, 0, 0)), (423, .iconst 1, (0, 0, 0, 0)), (424, .iadd, (0, 0, 0, 0)), (425, .iaload, (0, 0, 0, 0)), (426, .aload_n 0, (0, 0, 0, 0)), (427, .iload_n 3, (0, 0, 0, 0)), (428, .iconst 2, (0, 0, 0, 0)), (429, .iadd, (0, 0, 0, 0)), (430, .iaload, (0, 0, 0, 0)), (431, .aload_n 0, (0, 0, 0, 0)), (432, .iload_n 3, (0, 0, 0, 0)), (433, .iconst 3, (0, 0, 0, 0)), (434, .iadd, (0, 0, 0, 0)), (435, .iaload, (0, 0, 0, 0)), (436, .invokevirtual 59, (2, 96, 4, 9)), (439, .aload_n 2, (0, 0, 0, 0)), (440, .aload_n 0, (0, 0, 0, 0)), (441, .iload_n 3, (0, 0, 0, 0)), (442, .iconst 1, (0, 0, 0, 0)), (443, .iadd, (0, 0, 0, 0)), (444, .iaload, (0, 0, 0, 0)), (445, .aload_n 0, (0, 0, 0, 0)), (446, .iload_n 3, (0, 0, 0, 0)), (447, .iconst 2, (0, 0, 0, 0)), (448, .iadd, (0, 0, 0, 0)), (449, .iaload, (0, 0, 0, 0)), (450, .aload_n 0, (0, 0, 0, 0)), (451, .iload_n 3, (0, 0, 0, 0)), (452, .iconst 3, (0, 0, 0, 0)), (453, .iadd, (0, 0, 0, 0)), (454, .iaload, (0, 0, 0, 0)), (455, .invokevirtual 63, (2, 143, 4, 10)), (458, .if_icmp .eq 401, (0, 0, 0, 0)), (461, .iconst 0, (0, 0, 0, 0)), (462, .ireturn, (0, 0, 0, 0)), (463, .aload_n 1, (0, 0, 0, 0)), (464, .aload_n 0, (0, 0, 0, 0)), (465, .iload_n 3, (0, 0, 0, 0)), (466, .iconst 1, (0, 0, 0, 0)), (467, .iadd, (0, 0, 0, 0)), (468, .iaload, (0, 0, 0, 0)), (469, .aload_n 0, (0, 0, 0, 0)), (470, .iload_n 3, (0, 0, 0, 0)), (471, .iconst 2, (0, 0, 0, 0)), (472, .iadd, (0, 0, 0, 0)), (473, .iaload, (0, 0, 0, 0)), (474, .invokevirtual 64, (2, 97, 3, 9)), (477, .aload_n 2, (0, 0, 0, 0)), (478, .aload_n 0, (0, 0, 0, 0)), (479, .iload_n 3, (0, 0, 0, 0)), (480, .iconst 1, (0, 0, 0, 0)), (481, .iadd, (0, 0, 0, 0)), (482, .iaload, (0, 0, 0, 0)), (483, .aload_n 0, (0, 0, 0, 0)), (484, .iload_n 3, (0, 0, 0, 0)), (485, .iconst 2, (0, 0, 0, 0)), (486, .iadd, (0, 0, 0, 0)), (487, .iaload, (0, 0, 0, 0)), (488, .invokevirtual 68, (2, 144, 3, 10)), (491, .if_icmp .eq 368, (0, 0, 0, 0)), (494, .iconst 0, (0, 0, 0, 0)), (495, .ireturn, (0, 0, 0, 0)), (496, .aload_n 1, (0, 0, 0, 0)), (497, .aload_n 0, (0, 0, 0, 0)), (498, .iload_n 3, (0, 0, 0, 0)), (499, .iconst 1, (0, 0, 0, 0)), (500, .iadd, (0, 0, 0, 0)), (501, .iaload, (0, 0, 0, 0)), (502, .aload_n 0, (0, 0, 0, 0)), (503, .iload_n 3, (0, 0, 0, 0)), (504, .iconst 2, (0, 0, 0, 0)), (505, .iadd, (0, 0, 0, 0)), (506, .iaload, (0, 0, 0, 0)), (507, .aload_n 0, (0, 0, 0, 0)), (508, .iload_n 3, (0, 0, 0, 0)), (509, .iconst 3, (0, 0, 0, 0)), (510, .iadd, (0, 0, 0, 0)), (511, .iaload, (0, 0, 0, 0)), (512, .aload_n 0, (0, 0, 0, 0)), (513, .iload_n 3, (0, 0, 0, 0)), (514, .iconst 4, (0, 0, 0, 0)), (515, .iadd, (0, 0, 0, 0)), (516, .iaload, (0, 0, 0, 0)), (517, .invokevirtual 69, (2, 98, 5, 9)), (520, .aload_n 2, (0, 0, 0, 0)), (521, .aload_n 0, (0, 0, 0, 0)), (522, .iload_n 3, (0, 0, 0, 0)), (523, .iconst 1, (0, 0, 0, 0)), (524, .iadd, (0, 0, 0, 0)), (525, .iaload, (0, 0, 0, 0)), (526, .aload_n 0, (0, 0, 0, 0)), (527, .iload_n 3, (0, 0, 0, 0)), (528, .iconst 2, (0, 0, 0, 0)), (529, .iadd, (0, 0, 0, 0)), (530, .iaload, (0, 0, 0, 0)), (531, .aload_n 0, (0, 0, 0, 0)), (532, .iload_n 3, (0, 0, 0, 0)), (533, .iconst 3, (0, 0, 0, 0)), (534, .iadd, (0, 0, 0, 0)), (535, .iaload, (0, 0, 0, 0)), (536, .aload_n 0, (0, 0, 0, 0)), (537, .iload_n 3, (0, 0, 0, 0)), (538, .iconst 4, (0, 0, 0, 0)), (539, .iadd, (0, 0, 0, 0)), (540, .iaload, (0, 0, 0, 0)), (541, .invokevirtual 73, (2, 145, 5, 10)), (544, .if_icmp .eq 315, (0, 0, 0, 0)), (547, .iconst 0, (0, 0, 0, 0)), (548, .ireturn, (0, 0, 0, 0)), (549, .aload_n 1, (0, 0, 0, 0)), (550, .aload_n 0, (0, 0, 0, 0)), (551, .iload_n 3, (0, 0, 0, 0)), (552, .iconst 1, (0, 0, 0, 0)), (553, .iadd, (0, 0, 0, 0)), (554, .iaload, (0, 0, 0, 0)), (555, .aload_n 0, (0, 0, 0, 0)), (556, .iload_n 3, (0, 0, 0, 0)), (557, .iconst 2, (0, 0, 0, 0)), (558, .iadd, (0, 0, 0, 0)), (559, .iaload, (0, 0, 0, 0)), (560, .aload_n 0, (0, 0, 0, 0)), (561, .iload_n 3, (0, 0, 0, 0)), (562, .iconst 3, (0, 0, 0, 0)), (563, .iadd, (0, 0, 0, 0)), (564, .iaload, (0, 0, 0, 0)), (565, .invokevirtual 74, (2, 99, 4, 9)), (568, .aload_n 2, (0, 0, 0, 0)), (569, .aload_n 0, (0, 0, 0, 0)), (570, .iload_n 3, (0, 0, 0, 0)), (571, .iconst 1, (0, 0, 0, 0)), (572, .iadd, (0, 0, 0, 0)), (573, .iaload, (0, 0, 0, 0)), (574, .aload_n 0, (0, 0, 0, 0)), (575, .iload_n 3, (0, 0, 0, 0)), (576, .iconst 2, (0, 0, 0, 0)), (577, .iadd, (0, 0, 0, 0)), (578, .iaload, (0, 0, 0, 0)), (579, .aload_n 0, (0, 0, 0, 0)), (580, .iload_n 3, (0, 0, 0, 0)), (581, .iconst 3, (0, 0, 0, 0)), (582, .iadd, (0, 0, 0, 0)), (583, .iaload, (0, 0, 0, 0)), (584, .invokevirtual 77, (2, 153, 4, 10)), (587, .if_icmp .eq 272, (0, 0, 0, 0)), (590, .iconst 0, (0, 0, 0, 0)), (591, .ireturn, (0, 0, 0, 0)), (592, .aload_n 1, (0, 0, 0, 0)), (593, .aload_n 0, (0, 0, 0, 0)), (594, .iload_n 3, (0, 0, 0, 0)), (595, .iconst 1, (0, 0, 0, 0)), (596, .iadd, (0, 0, 0, 0)), (597, .iaload, (0, 0, 0, 0)), (598, .aload_n 0, (0, 0, 0, 0)), (599, .iload_n 3, (0, 0, 0, 0)), (600, .iconst 2, (0, 0, 0, 0)), (601, .iadd, (0, 0, 0, 0)), (602, .iaload, (0, 0, 0, 0)), (603, .invokevirtual 78, (2, 100, 3, 9)), (606, .aload_n 2, (0, 0, 0, 0)), (607, .aload_n 0, (0, 0, 0, 0)), (608, .iload_n 3, (0, 0, 0, 0)), (609, .iconst 1, (0, 0, 0, 0)), (610, .iadd, (0, 0, 0, 0)), (611, .iaload, (0, 0, 0, 0)), (612, .aload_n 0, (0, 0, 0, 0)), (613, .iload_n 3, (0, 0, 0, 0)), (614, .iconst 2, (0, 0, 0, 0)), (615, .iadd, (0, 0, 0, 0)), (616, .iaload, (0, 0, 0, 0)), (617, .invokevirtual 81, (2, 158, 3, 10)), (620, .if_icmp .eq 239, (0, 0, 0, 0)), (623, .iconst 0, (0, 0, 0, 0)), (624, .ireturn, (0, 0, 0, 0)), (625, .aload_n 1, (0, 0, 0, 0)), (626, .aload_n 0, (0, 0, 0, 0)), (627, .iload_n 3, (0, 0, 0, 0)), (628, .iconst 1, (0, 0, 0, 0)), (629, .iadd, (0, 0, 0, 0)), (630, .iaload, (0, 0, 0, 0)), (631, .invokevirtual 82, (2, 101, 2, 9)), (634, .aload_n 2, (0, 0, 0, 0)), (635, .aload_n 0, (0, 0, 0, 0)), (636, .iload_n 3, (0, 0, 0, 0)), (637, .iconst 1, (0, 0, 0, 0)), (638, .iadd, (0, 0, 0, 0)), (639, .iaload, (0, 0, 0, 0)), (640, .invokevirtual 85, (2, 159, 2, 10)), (643, .if_icmp .eq 216, (0, 0, 0, 0)), (646, .iconst 0, (0, 0, 0, 0)), (647, .ireturn, (0, 0, 0, 0)), (648, .aload_n 1, (0, 0, 0, 0)), (649, .aload_n 0, (0, 0, 0, 0)), (650, .iload_n 3, (0, 0, 0, 0)), (651, .iconst 1, (0, 0, 0, 0)), (652, .iadd, (0, 0, 0, 0)), (653, .iaload, (0, 0, 0, 0)), (654, .invokevirtual 86, (2, 102, 2, 9)), (657, .aload_n 2, (0, 0, 0, 0)), (658, .aload_n 0, (0, 0, 0, 0)), (659, .iload_n 3, (0, 0, 0, 0)), (660, .iconst 1, (0, 0, 0, 0)), (661, .iadd, (0, 0, 0, 0)), (662, .iaload, (0, 0, 0, 0)), (663, .invokevirtual 89, (2, 160, 2, 10)), (666, .if_icmp .eq 193, (0, 0, 0, 0)), (669, .iconst 0, (0, 0, 0, 0)), (670, .ireturn, (0, 0, 0, 0)), (671, .aload_n 1, (0, 0, 0, 0)), (672, .aload_n 0, (0, 0, 0, 0)), (673, .iload_n 3, (0, 0, 0, 0)), (674, .iconst 1, (0, 0, 0, 0)), (675, .iadd, (0, 0, 0, 0)), (676, .iaload, (0, 0, 0, 0)), (677, .aload_n 0, (0, 0, 0, 0)), (678, .iload_n 3, (0, 0, 0, 0)), (679, .iconst 2, (0, 0, 0, 0)), (680, .iadd, (0, 0, 0, 0)), (681, .iaload, (0, 0, 0, 0)), (682, .aload_n 0, (0, 0, 0, 0)), (683, .iload_n 3, (0, 0, 0, 0)), (684, .iconst 3, (0, 0, 0, 0)), (685, .iadd, (0, 0, 0, 0)), (686, .iaload, (0, 0, 0, 0)), (687, .invokevirtual 90, (2, 103, 4, 9)), (690, .aload_n 2, (0, 0, 0, 0)), (691, .aload_n 0, (0, 0, 0, 0)), (692, .iload_n 3, (0, 0, 0, 0)), (693, .iconst 1, (0, 0, 0, 0)), (694, .iadd, (0, 0, 0, 0)), (695, .iaload, (0, 0, 0, 0)), (696, .aload_n 0, (0, 0, 0, 0)), (697, .iload_n 3, (0, 0, 0, 0)), (698, .iconst 2, (0, 0, 0, 0)), (699, .iadd, (0, 0, 0, 0)), (700, .iaload, (0, 0, 0, 0)), (701, .aload_n 0, (0, 0, 0, 0)), (702, .iload_n 3, (0, 0, 0, 0)), (703, .iconst 3, (0, 0, 0, 0)), (704, .iadd, (0, 0, 0, 0)), (705, .iaload, (0, 0, 0, 0)), (706, .invokevirtual 93, (2, 163, 4, 10)), (709, .if_icmp .eq 150, (0, 0, 0, 0)), (712, .iconst 0, (0, 0, 0, 0)), (713, .ireturn, (0, 0, 0, 0)), (714, .aload_n 1, (0, 0, 0, 0)), (715, .aload_n 0, (0, 0, 0, 0)), (716, .iload_n 3, (0, 0, 0, 0)), (717, .iconst 1, (0, 0, 0, 0)), (718, .iadd, (0, 0, 0, 0)), (719, .iaload, (0, 0, 0, 0)), (720, .aload_n 0, (0, 0, 0, 0)), (721, .iload_n 3, (0, 0, 0, 0)), (722, .iconst 2, (0, 0, 0, 0)), (723, .iadd, (0, 0, 0, 0)), (724, .iaload, (0, 0, 0, 0)), (725, .invokevirtual 94, (2, 104, 3, 9)), (728, .aload_n 2, (0, 0, 0, 0)), (729, .aload_n 0, (0, 0, 0, 0)), (730, .iload_n 3, (0, 0, 0, 0)), (731, .iconst 1, (0, 0, 0, 0)), (732, .iadd, (0, 0, 0, 0)), (733, .iaload, (0, 0, 0, 0)), (734, .aload_n 0, (0, 0, 0, 0)), (735, .iload_n 3, (0, 0, 0, 0)), (736, .iconst 2, (0, 0, 0, 0)), (737, .iadd, (0, 0, 0, 0)), (738, .iaload, (0, 0, 0, 0)), (739, .invokevirtual 97, (2, 164, 3, 10)), (742, .if_icmp .eq 117, (0, 0, 0, 0)), (745, .iconst 0, (0, 0, 0, 0)), (746, .ireturn, (0, 0, 0, 0)), (747, .aload_n 1, (0, 0, 0, 0)), (748, .aload_n 0, (0, 0, 0, 0)), (749, .iload_n 3, (0, 0, 0, 0)), (750, .iconst 1, (0, 0, 0, 0)), (751, .iadd, (0, 0, 0, 0)), (752, .iaload, (0, 0, 0, 0)), (753, .aload_n 0, (0, 0, 0, 0)), (754, .iload_n 3, (0, 0, 0, 0)), (755, .iconst 2, (0, 0, 0, 0)), (756, .iadd, (0, 0, 0, 0)), (757, .iaload, (0, 0, 0, 0)), (758, .invokevirtual 98, (2, 105, 3, 9)), (761, .aload_n 2, (0, 0, 0, 0)), (762, .aload_n 0, (0, 0, 0, 0)), (763, .iload_n 3, (0, 0, 0, 0)), (764, .iconst 1, (0, 0, 0, 0)), (765, .iadd, (0, 0, 0, 0)), (766, .iaload, (0, 0, 0, 0)), (767, .aload_n 0, (0, 0, 0, 0)), (768, .iload_n 3, (0, 0, 0, 0)), (769, .iconst 2, (0, 0, 0, 0)), (770, .iadd, (0, 0, 0, 0)), (771, .iaload, (0, 0, 0, 0)), (772, .invokevirtual 101, (2, 166, 3, 10)), (775, .if_icmp .eq 84, (0, 0, 0, 0)), (778, .iconst 0, (0, 0, 0, 0)), (779, .ireturn, (0, 0, 0, 0)), (780, .aload_n 1, (0, 0, 0, 0)), (781, .aload_n 0, (0, 0, 0, 0)), (782, .iload_n 3, (0, 0, 0, 0)), (783, .iconst 1, (0, 0, 0, 0)), (784, .iadd, (0, 0, 0, 0)), (785, .iaload, (0, 0, 0, 0)), (786, .aload_n 0, (0, 0, 0, 0)), (787, .iload_n 3, (0, 0, 0, 0)), (788, .iconst 2, (0, 0, 0, 0)), (789, .iadd, (0, 0, 0, 0)), (790, .iaload, (0, 0, 0, 0)), (791, .invokevirtual 102, (2, 106, 3, 9)), (794, .aload_n 2, (0, 0, 0, 0)), (795, .aload_n 0, (0, 0, 0, 0)), (796, .iload_n 3, (0, 0, 0, 0)), (797, .iconst 1, (0, 0, 0, 0)), (798, .iadd, (0, 0, 0, 0)), (799, .iaload, (0, 0, 0, 0)), (800, .aload_n 0, (0, 0, 0, 0)), (801, .iload_n 3, (0, 0, 0, 0)), (802, .iconst 2, (0, 0, 0, 0)), (803, .iadd, (0, 0, 0, 0)), (804, .iaload, (0, 0, 0, 0)), (805, .invokevirtual 105, (2, 171, 3, 10)), (808, .if_icmp .eq 51, (0, 0, 0, 0)), (811, .iconst 0, (0, 0, 0, 0)), (812, .ireturn, (0, 0, 0, 0)), (813, .aload_n 1, (0, 0, 0, 0)), (814, .aload_n 0, (0, 0, 0, 0)), (815, .iload_n 3, (0, 0, 0, 0)), (816, .iconst 1, (0, 0, 0, 0)), (817, .iadd, (0, 0, 0, 0)), (818, .iaload, (0, 0, 0, 0)), (819, .invokevirtual 106, (2, 107, 2, 9)), (822, .aload_n 2, (0, 0, 0, 0)), (823, .aload_n 0, (0, 0, 0, 0)), (824, .iload_n 3, (0, 0, 0, 0)), (825, .iconst 1, (0, 0, 0, 0)), (826, .iadd, (0, 0, 0, 0)), (827, .iaload, (0, 0, 0, 0)), (828, .invokevirtual 109, (2, 172, 2, 10)), (831, .if_icmp .eq 28, (0, 0, 0, 0)), (834, .iconst 0, (0, 0, 0, 0)), (835, .ireturn, (0, 0, 0, 0)), (836, .aload_n 1, (0, 0, 0, 0)), (837, .aload_n 0, (0, 0, 0, 0)), (838, .iload_n 3, (0, 0, 0, 0)), (839, .iconst 1, (0, 0, 0, 0)), (840, .iadd, (0, 0, 0, 0)), (841, .iaload, (0, 0, 0, 0)), (842, .invokevirtual 110, (2, 108, 2, 9)), (845, .aload_n 2, (0, 0, 0, 0)), (846, .aload_n 0, (0, 0, 0, 0)), (847, .iload_n 3, (0, 0, 0, 0)), (848, .iconst 1, (0, 0, 0, 0)), (849, .iadd, (0, 0, 0, 0)), (850, .iaload, (0, 0, 0, 0)), (851, .invokevirtual 113, (2, 173, 2, 10)), (854, .if_icmp .eq 5, (0, 0, 0, 0)), (857, .iconst 0, (0, 0, 0, 0)), (858, .ireturn, (0, 0, 0, 0)), (859, .iinc 3 6, (0, 0, 0, 0)), (862, .goto (-844), (0, 0, 0, 0)), (865, .iconst 1, (0, 0, 0, 0)), (866, .ireturn, (0, 0, 0, 0))]
def tm_all : List (List (Nat × Instr × tm_X) × Nat × Nat × List Nat) := [(op_0, 1, 0, [2]), (op_1, 1, 0, [2]), (op_2, 1, 1, [2]), (op_3, 2, 4, [2, 0]), (op_4, 2, 1, [2, 0]), (op_5, 1, 1, [2]), (op_6, 2, 1, [2, 0]), (op_7, 5, 1, [2, 0, 0]), (op_8, 3, 4, [2, 0]), (op_9, 3, 0, [2, 0, 0]), (op_10, 3, 0, [2, 0, 0]), (op_11, 3, 0, [2, 0]), (op_12, 4, 0, [2, 2, 0]), (op_13, 1, 0, [2]), (op_14, 3, 0, [2, 2, 0]), (op_15, 7, 0, [2, 2]), (op_16, 3, 0, [2, 0]), (op_17, 4, 0, [2, 0]), (op_18, 5, 0, [2, 0]), (op_19, 7, 4, [2, 0, 0, 0, 0]), (op_20, 2, 1, [2, 0]), (op_21, 1, 1, [2]), (op_22, 3, 0, [2]), (op_23, 5, 0, [2, 2, 0, 0]), (op_24, 1, 1, [0]), (op_25, 10, 0, [2, 0, 2, 0]), (op_26, 6, 1, [0, 0, 2]), (op_27, 5, 0, [2, 2]), (op_28, 12, 2, [2, 0]), (op_29, 1, 4, [2]), (op_30, 1, 1, [2]), (op_31, 2, 1, [2, 0]), (op_32, 3, 1, [2]), (op_33, 4, 1, [2, 0]), (op_34, 1, 0, [2]), (op_35, 2, 4, [0, 0]), (op_36, 4, 0, [2, 0, 0, 0]), (op_37, 3, 1, [2, 0, 0]), (op_38, 5, 1, [2, 0]), (op_39, 2, 0, [2]), (op_40, 2, 0, [2]), (op_41, 3, 0, [2, 2]), (op_42, 1, 1, [2]), (op_43, 2, 3, [2, 0]), (op_44, 4, 1, [2, 0, 0]), (op_45, 3, 1, [2, 0]), (op_46, 3, 1, [2, 0]), (op_47, 4, 1, [2, 0]), (op_48, 1, 0, [2]), (op_49, 1, 1, [2]), (op_50, 1, 1, [2]), (op_51, 2, 4, [2, 0]), (op_52, 2, 4, [2, 0]), (op_53, 4, 1, [2, 0, 2]), (op_54, 4, 0, [2, 0, 0, 2]), (op_55, 4, 0, [2, 0, 0, 0]), (op_56, 5, 0, [2, 0, 0, 2]), (op_57, 2, 0, [2, 2]), (op_58, 5, 0, [2, 0, 2]), (op_59, 1, 0, [2]), (op_60, 5, 0, [2, 2, 2]), (op_61, 4, 1, [2, 0, 0]), (op_62, 2, 1, [2, 0]), (op_63, 7, 1, [2, 2, 0, 0]), (op_64, 3, 4, [2, 2, 0]), (op_65, 2, 1, [2, 2]), (op_66, 2, 4, [2, 2]), (op_67, 7, 1, [2, 2, 2]), (op_68, 1, 0, [2]), (op_69, 2, 1, [0, 0]), (op_70, 3, 1, [0]), (op_71, 1, 1, [2]), (op_72, 4, 0, [2, 0]), (op_73, 2, 4, [2, 0]), (op_74, 3, 1, [2]), (op_75, 1, 1, [2]), (op_76, 2, 0, [2]), (op_77, 2, 4, [2]), (op_78, 2, 1, [2]), (op_79, 3, 4, [2, 0]), (op_80, 3, 4, [2]), (op_81, 4, 1, [2]), (op_82, 3, 4, [2]), (op_83, 4, 1, [2]), (op_84, 5, 0, [2, 0, 0, 0, 2]), (op_85, 1, 0, [2]), (op_86, 2, 1, [2, 0]), (op_87, 7, 1, [2, 0, 0, 0, 0, 0]), (op_88, 2, 4, [2, 0]), (op_89, 1, 1, [2]), (op_90, 2, 1, [2]), (op_91, 2, 4, [2, 0]), (op_92, 3, 4, [2, 0, 0]), (op_93, 4, 4, [2, 0, 0, 0]), (op_94, 2, 4, [2, 0]), (op_95, 2, 4, [2, 0]), (op_96, 4, 1, [2, 0, 0, 0]), (op_97, 3, 1, [2, 0, 0]), (op_98, 6, 1, [2, 0, 0, 0, 0]), (op_99, 4, 1, [2, 0, 0, 0]), (op_100, 3, 1, [2, 0, 0]), (op_101, 2, 1, [2, 0]), (op_102, 2, 1, [2, 0]), (op_103, 5, 1, [2, 0, 0, 0]), (op_104, 5, 1, [2, 0, 0]), (op_105, 3, 1, [2, 0, 0]), (op_106, 3, 1, [2, 0, 0]), (op_107, 2, 1, [2, 0]), (op_108, 2, 1, [2, 0]), (op_109, 2, 4, [2, 0]), (op_110, 2, 4, [2, 0]), (op_111, 2, 4, [2, 0]), (op_112, 6, 1, [2, 0, 0]), (op_113, 4, 1, [2, 0]), (op_114, 5, 1, [2, 0]), (op_115, 2, 4, [2, 0]), (op_116, 1, 0, [2]), (op_117, 3, 4, [0, 0, 0]), (op_118, 2, 1, [2, 0]), (op_119, 7, 1, [0, 0, 0, 0, 0, 0]), (op_120, 9, 1, [2, 0, 0, 0, 0, 0]), (op_121, 2, 4, [2, 0]), (op_122, 2, 1, [2, 0]), (op_123, 1, 4, [0]), (op_124, 1, 4, [0]), (op_125, 4, 1, [2, 0]), (op_126, 1, 1, [0]), (op_127, 5, 1, [2, 0]), (op_128, 4, 4, [2, 0, 0]), (op_129, 5, 1, [2, 0]), (op_130, 3, 1, [2, 0]), (op_131, 3, 1, [2]), (op_132, 4, 0, [2, 0]), (op_133, 1, 1, [2]), (op_134, 2, 4, [2, 0]), (op_135, 2, 4, [2, 0]), (op_136, 4, 4, [2, 0, 0]), (op_137, 6, 1, [2, 0, 0, 0]), (op_138, 3, 4, [2, 0, 0]), (op_139, 4, 0, [2, 0]), (op_140, 3, 4, [2, 0, 0]), (op_141, 3, 1, [2, 0, 0]), (op_142, 2, 1, [2, 0]), (op_143, 5, 1, [2, 0, 0, 0]), (op_144, 4, 1, [2, 0, 0]), (op_145, 6, 1, [2, 0, 0, 0, 0]), (op_146, 4, 4, [2, 0, 0, 0]), (op_147, 2, 4, [2, 0]), (op_148, 2, 4, [2, 0]), (op_149, 7, 4, [2, 0, 0, 0, 0]), (op_150, 6, 4, [2, 0, 0, 0]), (op_151, 8, 1, [2, 0, 0]), (op_152, 4, 1, [2, 0, 0]), (op_153, 4, 1, [2, 0, 0, 0]), (op_154, 6, 1, [2, 0, 0]), (op_155, 6, 0, [2, 0, 0, 0]), (op_156, 4, 4, [2, 0]), (op_157, 3, 1, [2, 0]), (op_158, 5, 1, [2, 0, 0]), (op_159, 2, 1, [2, 0]), (op_160, 2, 1, [2, 0]), (op_161, 6, 1, [2, 0, 0]), (op_162, 6, 1, [2, 0, 0]), (op_163, 7, 1, [2, 0, 0, 0]), (op_164, 5, 1, [2, 0, 0]), (op_165, 4, 1, [2, 0]), (op_166, 3, 1, [2, 0, 0]), (op_167, 2, 1, [0, 0]), (op_168, 8, 1, [2, 0, 0, 0, 0]), (op_169, 6, 0, [2, 0, 0, 0, 0]), (op_170, 5, 0, [2, 0]), (op_171, 3, 1, [2, 0, 0]), (op_172, 2, 1, [2, 0]), (op_173, 6, 1, [2, 0]), (op_174, 1, 1, [0]), (op_175, 4, 4, [2])]
end
section
def tm_op (j pc : Nat) : Option (Instr × tm_X) := (tm_all[j]?).bind (fun q => q.1.lookup pc)
def tm_ml (j : Nat) : Nat := ((tm_all[j]?).map (fun q => q.2.1)).getD 0
def tm_rk (j : Nat) : Nat := ((tm_all[j]?).map (fun q => q.2.2.1)).getD 0
def tm_ak (j : Nat) : List Nat := ((tm_all[j]?).map (fun q => q.2.2.2)).getD []
/-- a value's kind: 0 int, 1 long, 2 a reference -/
def tm_vk (v : Value) : Nat := match v with
  | .int _ => 0
  | .long _ => 1
  | .ref _ => 2
  | .null => 2
  | _ => 9
/-- may the receiver be called so: 1 static, 2 by its class, 3 a constructor -/
def tm_rcv (t c : Nat) (as : List Value) (h : tm_H) : Bool := match t, as with
  | 1, _ => true
  | 2, .ref a :: _ => decide (h.1.2.2 a = (0, c))
  | 3, .ref _ :: _ => true
  | _, _ => false
/-- the members of Math, in one step: 6 abs, 7 max, 8 min, 9 min of longs -/
def tm_mp (t : Nat) (st : List Value) : Option (List Value) := match t, st with
  | 6, .int x :: r => if (r.map Value.category).sum ≤ 8 then some (.int (if 0 ≤ x then x else 0 - x) :: r) else none
  | 7, .int y :: .int x :: r => if (r.map Value.category).sum ≤ 8 then some (.int (if x < y then y else x) :: r) else none
  | 8, .int y :: .int x :: r => if (r.map Value.category).sum ≤ 8 then some (.int (if y < x then y else x) :: r) else none
  | 9, .long y :: .long x :: r => if (r.map Value.category).sum ≤ 8 then some (.long (if y < x then y else x) :: r) else none
  | _, _ => none
def tm_run : Nat → Nat → Nat → Nat → tm_Lo → List Value → tm_H → Option (Option Value × tm_H)
  | 0, _, _, _, _, _, _ => none
  | n + 1, d, j, pc, ls, st, h => (tm_op j pc).bind fun o =>
      if tm_isRet o.1 = true then (tm_ret o.1 (tm_rk j) st).map (fun v => (v, h))
      else if tm_isInv o.1 = true then
        if d = 0 then none
        else if o.2.1 = 4 then (tm_oi st).bind fun st' => tm_run n d j (pc + 3) ls st' h
        else if o.2.1 = 5 then (tm_cp st h).bind fun q => tm_run n d j (pc + 3) ls q.1 q.2
        else if 6 ≤ o.2.1 then (tm_mp o.2.1 st).bind fun st' => tm_run n d j (pc + 3) ls st' h
        else if o.2.2.2.1 ≤ st.length ∧ (st.take o.2.2.2.1).reverse.map tm_vk = tm_ak o.2.2.1 ∧ tm_rcv o.2.1 o.2.2.2.2 (st.take o.2.2.2.1).reverse h = true ∧ ((st.drop o.2.2.2.1).map Value.category).sum ≤ 8 then
          (tm_run n (d - 1) o.2.2.1 0 (tm_ent (tm_ml o.2.2.1) (st.take o.2.2.2.1).reverse) [] h).bind fun q => tm_run n d j (pc + 3) ls (q.1.toList ++ st.drop o.2.2.2.1) q.2
        else none
      else (tm_h o.1 o.2 pc ls st h).bind fun q => tm_run n d j q.1 q.2.1 q.2.2.1 q.2.2.2
theorem tm_mono1 : ∀ (n d j pc : Nat) (ls : tm_Lo) (st : List Value) (h : tm_H) (q : Option Value × tm_H), tm_run n d j pc ls st h = some q → tm_run (n + 1) d j pc ls st h = some q
  | 0, _, _, _, _, _, _, _ => fun e => by cases e
  | n + 1, d, j, pc, ls, st, h, q => fun e => by
    rw [tm_run] at e
    rw [tm_run]
    cases ho : tm_op j pc with
    | none => rw [ho] at e; cases e
    | some o =>
      rw [ho] at e
      simp only [Option.bind_some] at e ⊢
      by_cases h1 : tm_isRet o.1 = true
      · rw [if_pos h1] at e ⊢; exact e
      · rw [if_neg h1] at e ⊢
        by_cases h2 : tm_isInv o.1 = true
        · rw [if_pos h2] at e ⊢
          by_cases h3 : d = 0
          · rw [if_pos h3] at e; cases e
          · rw [if_neg h3] at e ⊢
            by_cases h4 : o.2.1 = 4
            · rw [if_pos h4] at e ⊢
              obtain ⟨w, e1, e2⟩ := Option.bind_eq_some_iff.mp e
              rw [e1]
              exact tm_mono1 n _ _ _ _ _ _ _ e2
            · rw [if_neg h4] at e ⊢
              by_cases h5 : o.2.1 = 5
              · rw [if_pos h5] at e ⊢
                obtain ⟨w, e1, e2⟩ := Option.bind_eq_some_iff.mp e
                rw [e1]
                exact tm_mono1 n _ _ _ _ _ _ _ e2
              · rw [if_neg h5] at e ⊢
                by_cases h7 : 6 ≤ o.2.1
                · rw [if_pos h7] at e ⊢
                  obtain ⟨w, e1, e2⟩ := Option.bind_eq_some_iff.mp e
                  rw [e1]
                  exact tm_mono1 n _ _ _ _ _ _ _ e2
                rw [if_neg h7] at e ⊢
                by_cases h6 : o.2.2.2.1 ≤ st.length ∧ (st.take o.2.2.2.1).reverse.map tm_vk = tm_ak o.2.2.1 ∧ tm_rcv o.2.1 o.2.2.2.2 (st.take o.2.2.2.1).reverse h = true ∧ ((st.drop o.2.2.2.1).map Value.category).sum ≤ 8
                · rw [if_pos h6] at e ⊢
                  obtain ⟨w, e1, e2⟩ := Option.bind_eq_some_iff.mp e
                  rw [tm_mono1 n _ _ _ _ _ _ _ e1]
                  exact tm_mono1 n _ _ _ _ _ _ _ e2
                · rw [if_neg h6] at e; cases e
        · rw [if_neg h2] at e ⊢
          obtain ⟨w, e1, e2⟩ := Option.bind_eq_some_iff.mp e
          rw [e1]
          exact tm_mono1 n _ _ _ _ _ _ _ e2
theorem tm_mono {n m d j pc : Nat} {ls : tm_Lo} {st : List Value} {h : tm_H} {q : Option Value × tm_H} (hm : n ≤ m) (e : tm_run n d j pc ls st h = some q) : tm_run m d j pc ls st h = some q := by
  induction hm with
  | refl => exact e
  | step _ ih => exact tm_mono1 _ _ _ _ _ _ _ _ ih
/-- from here the method comes to its end, with an answer and a heap of which K holds -/
def tm_A (d j pc : Nat) (ls : tm_Lo) (st : List Value) (h : tm_H) (K : Option Value → tm_H → Prop) : Prop := ∃ n q, tm_run n d j pc ls st h = some q ∧ K q.1 q.2
/-- a whole method -/
def tm_R (d j : Nat) (as : List Value) (h : tm_H) (K : Option Value → tm_H → Prop) : Prop := tm_A d j 0 (tm_ent (tm_ml j) as) [] h K
theorem tm_A_mono {d j pc : Nat} {ls : tm_Lo} {st : List Value} {h : tm_H} {K K' : Option Value → tm_H → Prop} (hk : ∀ r h', K r h' → K' r h') (e : tm_A d j pc ls st h K) : tm_A d j pc ls st h K' := by
  obtain ⟨n, q, e1, e2⟩ := e
  exact ⟨n, q, e1, hk _ _ e2⟩
theorem tm_A_det {d j pc : Nat} {ls : tm_Lo} {st : List Value} {h : tm_H} {r : Option Value} {h' : tm_H} (hs : ∀ K : Option Value → tm_H → Prop, K r h' → tm_A d j pc ls st h K) (K : Option Value → tm_H → Prop) : tm_A d j pc ls st h K ↔ K r h' := by
  refine ⟨fun e => ?_, hs K⟩
  obtain ⟨n, q, e1, e2⟩ := e
  obtain ⟨m, p, f1, f2, f3⟩ := hs (fun a b => a = r ∧ b = h') ⟨rfl, rfl⟩
  have g1 := tm_mono (Nat.le_max_left n m) e1
  have g2 := tm_mono (Nat.le_max_right n m) f1
  have g3 : q = p := Option.some.inj (g1.symm.trans g2)
  rw [g3, f2, f3] at e2
  exact e2
section TMA
variable {d j pc : Nat} {ls : tm_Lo} {st : List Value} {h : tm_H} {K : Option Value → tm_H → Prop} {i : Instr} {x : tm_X}
theorem tm_A_h (ho : tm_op j pc = some (i, x)) (h1 : tm_isRet i = false) (h2 : tm_isInv i = false) : tm_A d j pc ls st h K ↔ ∃ q, tm_h i x pc ls st h = some q ∧ tm_A d j q.1 q.2.1 q.2.2.1 q.2.2.2 K := by
  constructor
  · rintro ⟨n, q, e1, e2⟩
    cases n with
    | zero => cases e1
    | succ n =>
      rw [tm_run, ho] at e1
      simp only [Option.bind_some, h1, h2, Bool.false_eq_true, if_false] at e1
      obtain ⟨w, f1, f2⟩ := Option.bind_eq_some_iff.mp e1
      exact ⟨w, f1, n, q, f2, e2⟩
  · rintro ⟨w, f1, n, q, f2, e2⟩
    refine ⟨n + 1, q, ?_, e2⟩
    rw [tm_run, ho]
    simp only [Option.bind_some, h1, h2, Bool.false_eq_true, if_false, f1]
    exact f2
theorem tm_A_r (ho : tm_op j pc = some (i, x)) (h1 : tm_isRet i = true) : tm_A d j pc ls st h K ↔ ∃ v, tm_ret i (tm_rk j) st = some v ∧ K v h := by
  constructor
  · rintro ⟨n, q, e1, e2⟩
    cases n with
    | zero => cases e1
    | succ n =>
      rw [tm_run, ho] at e1
      simp only [Option.bind_some, h1, if_true] at e1
      obtain ⟨w, f1, f2⟩ := Option.map_eq_some_iff.mp e1
      subst f2
      exact ⟨w, f1, e2⟩
  · rintro ⟨v, f1, f2⟩
    refine ⟨1, (v, h), ?_, f2⟩
    rw [tm_run, ho]
    simp only [Option.bind_some, h1, if_true, f1, Option.map_some]
theorem tm_A_i (ho : tm_op j pc = some (i, x)) (h1 : tm_isRet i = false) (h2 : tm_isInv i = true) (h4 : x.1 ≠ 4) (h5 : x.1 ≠ 5) (h6 : ¬ 6 ≤ x.1) : tm_A (d + 1) j pc ls st h K ↔ (x.2.2.1 ≤ st.length ∧ (st.take x.2.2.1).reverse.map tm_vk = tm_ak x.2.1 ∧ tm_rcv x.1 x.2.2.2 (st.take x.2.2.1).reverse h = true ∧ ((st.drop x.2.2.1).map Value.category).sum ≤ 8) ∧ tm_R d x.2.1 (st.take x.2.2.1).reverse h (fun r h' => tm_A (d + 1) j (pc + 3) ls (r.toList ++ st.drop x.2.2.1) h' K) := by
  constructor
  · rintro ⟨n, q, e1, e2⟩
    cases n with
    | zero => cases e1
    | succ n =>
      rw [tm_run, ho] at e1
      simp only [Option.bind_some, h1, h2, Bool.false_eq_true, if_false, if_true, h4, h5, h6, Nat.add_one_ne_zero, Nat.add_sub_cancel] at e1
      split at e1
      next hc =>
        obtain ⟨w, f1, f2⟩ := Option.bind_eq_some_iff.mp e1
        exact ⟨hc, n, w, f1, n, q, f2, e2⟩
      next => cases e1
  · rintro ⟨hc, n, w, f1, m, q, f2, e2⟩
    refine ⟨max n m + 1, q, ?_, e2⟩
    rw [tm_run, ho]
    simp only [Option.bind_some, h1, h2, Bool.false_eq_true, if_false, if_true, h4, h5, h6, Nat.add_one_ne_zero, Nat.add_sub_cancel, hc]
    rw [tm_mono (Nat.le_max_left n m) f1]
    simp only [Option.bind_some]
    simp only [true_and, and_self, if_true]
    exact tm_mono (Nat.le_max_right n m) f2
theorem tm_A_oi (ho : tm_op j pc = some (i, x)) (h1 : tm_isRet i = false) (h2 : tm_isInv i = true) (h4 : x.1 = 4) : tm_A (d + 1) j pc ls st h K ↔ ∃ st', tm_oi st = some st' ∧ tm_A (d + 1) j (pc + 3) ls st' h K := by
  constructor
  · rintro ⟨n, q, e1, e2⟩
    cases n with
    | zero => cases e1
    | succ n =>
      rw [tm_run, ho] at e1
      simp only [Option.bind_some, h1, h2, Bool.false_eq_true, if_false, if_true, h4, Nat.add_one_ne_zero] at e1
      obtain ⟨w, f1, f2⟩ := Option.bind_eq_some_iff.mp e1
      exact ⟨w, f1, n, q, f2, e2⟩
  · rintro ⟨w, f1, n, q, f2, e2⟩
    refine ⟨n + 1, q, ?_, e2⟩
    rw [tm_run, ho]
    simp only [Option.bind_some, h1, h2, Bool.false_eq_true, if_false, if_true, h4, Nat.add_one_ne_zero, f1]
    exact f2
theorem tm_A_cp (ho : tm_op j pc = some (i, x)) (h1 : tm_isRet i = false) (h2 : tm_isInv i = true) (h4 : x.1 = 5) : tm_A (d + 1) j pc ls st h K ↔ ∃ w, tm_cp st h = some w ∧ tm_A (d + 1) j (pc + 3) ls w.1 w.2 K := by
  constructor
  · rintro ⟨n, q, e1, e2⟩
    cases n with
    | zero => cases e1
    | succ n =>
      rw [tm_run, ho] at e1
      simp only [Option.bind_some, h1, h2, Bool.false_eq_true, if_false, if_true, h4, Nat.add_one_ne_zero, Nat.reduceEqDiff] at e1
      obtain ⟨w, f1, f2⟩ := Option.bind_eq_some_iff.mp e1
      exact ⟨w, f1, n, q, f2, e2⟩
  · rintro ⟨w, f1, n, q, f2, e2⟩
    refine ⟨n + 1, q, ?_, e2⟩
    rw [tm_run, ho]
    simp only [Option.bind_some, h1, h2, Bool.false_eq_true, if_false, if_true, h4, Nat.add_one_ne_zero, f1, Nat.reduceEqDiff]
    exact f2
theorem tm_A_mp (ho : tm_op j pc = some (i, x)) (h1 : tm_isRet i = false) (h2 : tm_isInv i = true) (h4 : x.1 ≠ 4) (h5 : x.1 ≠ 5) (h6 : 6 ≤ x.1) : tm_A (d + 1) j pc ls st h K ↔ ∃ st', tm_mp x.1 st = some st' ∧ tm_A (d + 1) j (pc + 3) ls st' h K := by
  constructor
  · rintro ⟨n, q, e1, e2⟩
    cases n with
    | zero => cases e1
    | succ n =>
      rw [tm_run, ho] at e1
      simp only [Option.bind_some, h1, h2, Bool.false_eq_true, if_false, if_true, h4, h5, h6, Nat.add_one_ne_zero] at e1
      obtain ⟨w, f1, f2⟩ := Option.bind_eq_some_iff.mp e1
      exact ⟨w, f1, n, q, f2, e2⟩
  · rintro ⟨w, f1, n, q, f2, e2⟩
    refine ⟨n + 1, q, ?_, e2⟩
    rw [tm_run, ho]
    simp only [Option.bind_some, h1, h2, Bool.false_eq_true, if_false, if_true, h4, h5, h6, Nat.add_one_ne_zero, f1]
    exact f2
end TMA
end
section
def tm_cs (st : List Value) : Prop := (st.map Value.category).sum ≤ 8
theorem tm_rf_some (a : Nat) : tm_rf (some a) = .ref a := rfl
theorem tm_rf_none : tm_rf none = .null := rfl
section TMR
variable {d j pc : Nat} {ls : tm_Lo} {st : List Value} {K : Option Value → tm_H → Prop} {i : Instr} {x : tm_X}
theorem tm_s {h h' : tm_H} {pc' : Nat} {ls' : tm_Lo} {st' : List Value} (ho : tm_op j pc = some (i, x)) (h1 : tm_isRet i = false) (h2 : tm_isInv i = false) (e : tm_h i x pc ls st h = some (pc', ls', st', h')) : tm_A d j pc ls st h K ↔ tm_A d j pc' ls' st' h' K := by
  rw [tm_A_h ho h1 h2, e]
  simp only [Option.some.injEq, exists_eq_left']
theorem tm_c {h h' : tm_H} {pc' : Nat} {ls' : tm_Lo} {st' : List Value} {cc : Prop} [Decidable cc] (ho : tm_op j pc = some (i, x)) (h1 : tm_isRet i = false) (h2 : tm_isInv i = false) (e : tm_h i x pc ls st h = if cc then some (pc', ls', st', h') else none) : tm_A d j pc ls st h K ↔ cc ∧ tm_A d j pc' ls' st' h' K := by
  rw [tm_A_h ho h1 h2, e]
  by_cases hc : cc
  · simp only [hc, if_true, Option.some.injEq, exists_eq_left', true_and]
  · simp only [hc, if_false, false_and, reduceCtorEq, exists_false]
theorem tm_b {h : tm_H} {t f : Nat} {ls' : tm_Lo} {st' : List Value} {b : Bool} {cc : Prop} [Decidable cc] (ho : tm_op j pc = some (i, x)) (h1 : tm_isRet i = false) (h2 : tm_isInv i = false) (e : tm_h i x pc ls st h = some (if b = true then t else f, ls', st', h)) (hb : b = decide cc) : tm_A d j pc ls st h K ↔ if cc then tm_A d j t ls' st' h K else tm_A d j f ls' st' h K := by
  rw [tm_A_h ho h1 h2, e]
  simp only [Option.some.injEq, exists_eq_left']
  subst hb
  by_cases hc : cc
  · simp only [hc, decide_true, if_true]
  · simp only [hc, decide_false, if_false, Bool.false_eq_true]
theorem tm_ic {h : tm_H} {n : Int} {v : Int32} (ho : tm_op j pc = some (.iconst n, x)) (hv : Int32.ofInt n = v) : tm_A d j pc ls st h K ↔ tm_A d j (pc + 1) ls (.int v :: st) h K := by
  subst hv
  exact tm_s ho rfl rfl rfl
theorem tm_bp {h : tm_H} {n : Int} {v : Int32} (ho : tm_op j pc = some (.bipush n, x)) (hv : (Int8.ofInt n).toInt32 = v) : tm_A d j pc ls st h K ↔ tm_A d j (pc + 2) ls (.int v :: st) h K := by
  subst hv
  exact tm_s ho rfl rfl rfl
theorem tm_sp {h : tm_H} {n : Int} {v : Int32} (ho : tm_op j pc = some (.sipush n, x)) (hv : (Int16.ofInt n).toInt32 = v) : tm_A d j pc ls st h K ↔ tm_A d j (pc + 3) ls (.int v :: st) h K := by
  subst hv
  exact tm_s ho rfl rfl rfl
variable {G : tm_G} {I : Nat → Nat → Int32} {J : Nat → Nat → Int64} {R : Nat → Nat → Option Nat} {a c k w z : Nat}
theorem tm_getI (ho : tm_op j pc = some (.getfield w, (0, c, k, z))) : tm_A d j pc ls (.ref a :: st) (G, I, J, R) K ↔ G.2.2 a = (0, c) ∧ tm_A d j (pc + 3) ls (.int (I a k) :: st) (G, I, J, R) K :=
  tm_c ho rfl rfl (by show Option.map _ (ite _ _ _) = _; split <;> rfl)
theorem tm_getZ (ho : tm_op j pc = some (.getfield w, (3, c, k, z))) : tm_A d j pc ls (.ref a :: st) (G, I, J, R) K ↔ G.2.2 a = (0, c) ∧ tm_A d j (pc + 3) ls (.int (I a k) :: st) (G, I, J, R) K :=
  tm_c ho rfl rfl (by show Option.map _ (ite _ _ _) = _; split <;> rfl)
theorem tm_getJ (ho : tm_op j pc = some (.getfield w, (1, c, k, z))) : tm_A d j pc ls (.ref a :: st) (G, I, J, R) K ↔ G.2.2 a = (0, c) ∧ tm_A d j (pc + 3) ls (.long (J a k) :: st) (G, I, J, R) K :=
  tm_c ho rfl rfl (by show Option.map _ (ite _ _ _) = _; split <;> rfl)
theorem tm_getR (ho : tm_op j pc = some (.getfield w, (2, c, k, z))) : tm_A d j pc ls (.ref a :: st) (G, I, J, R) K ↔ G.2.2 a = (0, c) ∧ tm_A d j (pc + 3) ls (tm_rf (R a k) :: st) (G, I, J, R) K :=
  tm_c ho rfl rfl (by show Option.map _ (ite _ _ _) = _; split <;> rfl)
theorem tm_putI {v : Int32} (ho : tm_op j pc = some (.putfield w, (0, c, k, z))) : tm_A d j pc ls (.int v :: .ref a :: st) (G, I, J, R) K ↔ G.2.2 a = (0, c) ∧ tm_A d j (pc + 3) ls st (G, up2 I a k v, J, R) K :=
  tm_c ho rfl rfl (by show Option.map _ (ite _ _ _) = _; split <;> rfl)
theorem tm_putZ {v : Int32} (ho : tm_op j pc = some (.putfield w, (3, c, k, z))) : tm_A d j pc ls (.int v :: .ref a :: st) (G, I, J, R) K ↔ (G.2.2 a = (0, c) ∧ (v = 0 ∨ v = 1)) ∧ tm_A d j (pc + 3) ls st (G, up2 I a k v, J, R) K :=
  tm_c ho rfl rfl (by show Option.map _ (ite _ _ _) = _; split <;> rfl)
theorem tm_putJ {v : Int64} (ho : tm_op j pc = some (.putfield w, (1, c, k, z))) : tm_A d j pc ls (.long v :: .ref a :: st) (G, I, J, R) K ↔ G.2.2 a = (0, c) ∧ tm_A d j (pc + 3) ls st (G, I, up2 J a k v, R) K :=
  tm_c ho rfl rfl (by show Option.map _ (ite _ _ _) = _; split <;> rfl)
theorem tm_putR {v : Nat} (ho : tm_op j pc = some (.putfield w, (2, c, k, z))) : tm_A d j pc ls (.ref v :: .ref a :: st) (G, I, J, R) K ↔ G.2.2 a = (0, c) ∧ tm_A d j (pc + 3) ls st (G, I, J, up2 R a k (some v)) K :=
  tm_c ho rfl rfl (by show Option.map _ (ite _ _ _) = _; split <;> rfl)
theorem tm_iald {v : Int32} (ho : tm_op j pc = some (.iaload, x)) : tm_A d j pc ls (.int v :: .ref a :: st) (G, I, J, R) K ↔ ((G.2.2 a).1 = 1 ∧ tm_in v (G.2.2 a).2) ∧ tm_A d j (pc + 1) ls (.int (I a (tm_ix v)) :: st) (G, I, J, R) K :=
  tm_c ho rfl rfl (by show Option.map _ (ite _ _ _) = _; split <;> rfl)
theorem tm_cald {v : Int32} (ho : tm_op j pc = some (.caload, x)) : tm_A d j pc ls (.int v :: .ref a :: st) (G, I, J, R) K ↔ ((G.2.2 a).1 = 6 ∧ tm_in v (G.2.2 a).2) ∧ tm_A d j (pc + 1) ls (.int (I a (tm_ix v)) :: st) (G, I, J, R) K :=
  tm_c ho rfl rfl (by show Option.map _ (ite _ _ _) = _; split <;> rfl)
theorem tm_lald {v : Int32} (ho : tm_op j pc = some (.laload, x)) : tm_A d j pc ls (.int v :: .ref a :: st) (G, I, J, R) K ↔ ((G.2.2 a).1 = 2 ∧ tm_in v (G.2.2 a).2) ∧ tm_A d j (pc + 1) ls (.long (J a (tm_ix v)) :: st) (G, I, J, R) K :=
  tm_c ho rfl rfl (by show Option.map _ (ite _ _ _) = _; split <;> rfl)
theorem tm_aald {v : Int32} (ho : tm_op j pc = some (.aaload, x)) : tm_A d j pc ls (.int v :: .ref a :: st) (G, I, J, R) K ↔ (((G.2.2 a).1 = 3 ∨ (G.2.2 a).1 = 4 ∨ (G.2.2 a).1 = 5) ∧ tm_in v (G.2.2 a).2) ∧ tm_A d j (pc + 1) ls (tm_rf (R a (tm_ix v)) :: st) (G, I, J, R) K :=
  tm_c ho rfl rfl (by show Option.map _ (ite _ _ _) = _; split <;> rfl)
theorem tm_alen (ho : tm_op j pc = some (.arraylength, x)) : tm_A d j pc ls (.ref a :: st) (G, I, J, R) K ↔ (G.2.2 a).1 = 1 ∧ tm_A d j (pc + 1) ls (.int (Int32.ofNat (G.2.2 a).2) :: st) (G, I, J, R) K :=
  tm_c ho rfl rfl (by show Option.map _ (ite _ _ _) = _; split <;> rfl)
theorem tm_iast {v u : Int32} (ho : tm_op j pc = some (.iastore, x)) : tm_A d j pc ls (.int u :: .int v :: .ref a :: st) (G, I, J, R) K ↔ (3 ≤ a ∧ (G.2.2 a).1 = 1 ∧ tm_in v (G.2.2 a).2) ∧ tm_A d j (pc + 1) ls st (G, up2 I a (tm_ix v) u, J, R) K :=
  tm_c ho rfl rfl (by show Option.map _ (ite _ _ _) = _; split <;> rfl)
theorem tm_last {v : Int32} {u : Int64} (ho : tm_op j pc = some (.lastore, x)) : tm_A d j pc ls (.long u :: .int v :: .ref a :: st) (G, I, J, R) K ↔ (3 ≤ a ∧ (G.2.2 a).1 = 2 ∧ tm_in v (G.2.2 a).2) ∧ tm_A d j (pc + 1) ls st (G, I, up2 J a (tm_ix v) u, R) K :=
  tm_c ho rfl rfl (by show Option.map _ (ite _ _ _) = _; split <;> rfl)
theorem tm_aast {v : Int32} {u : Nat} (ho : tm_op j pc = some (.aastore, x)) : tm_A d j pc ls (.ref u :: .int v :: .ref a :: st) (G, I, J, R) K ↔ (3 ≤ a ∧ (((G.2.2 a).1 = 4 ∧ G.2.2 u = (0, 8)) ∨ ((G.2.2 a).1 = 5 ∧ G.2.2 u = (0, 0))) ∧ tm_in v (G.2.2 a).2) ∧ tm_A d j (pc + 1) ls st (G, I, J, up2 R a (tm_ix v) (some u)) K :=
  tm_c ho rfl rfl (by show Option.map _ (ite _ _ _) = _; split <;> rfl)
theorem tm_new (ho : tm_op j pc = some (.new w, (z, c, k, x.1))) : tm_A d j pc ls st (G, I, J, R) K ↔ tm_A d j (pc + 3) ls (.ref G.1 :: st) (tm_nw (0, c) k (G, I, J, R)) K :=
  tm_s ho rfl rfl rfl
theorem tm_newa {t : ArrayType} {v : Int32} (ho : tm_op j pc = some (.newarray t, x)) : tm_A d j pc ls (.int v :: st) (G, I, J, R) K ↔ (¬ v < 0 ∧ (tm_ix v) ≤ 100000) ∧ tm_A d j (pc + 2) ls (.ref G.1 :: st) (tm_nw (x.1, (tm_ix v)) (tm_ix v) (G, I, J, R)) K :=
  tm_c ho rfl rfl (by show Option.map _ (ite _ _ _) = _; split <;> rfl)
theorem tm_anew {v : Int32} (ho : tm_op j pc = some (.anewarray w, x)) : tm_A d j pc ls (.int v :: st) (G, I, J, R) K ↔ (¬ v < 0 ∧ (tm_ix v) ≤ 100000) ∧ tm_A d j (pc + 3) ls (.ref G.1 :: st) (tm_nw (x.1, (tm_ix v)) (tm_ix v) (G, I, J, R)) K :=
  tm_c ho rfl rfl (by show Option.map _ (ite _ _ _) = _; split <;> rfl)
theorem tm_mnew {v u : Int32} (ho : tm_op j pc = some (.multianewarray w z, x)) : tm_A d j pc ls (.int v :: .int u :: st) (G, I, J, R) K ↔ (¬ u < 0 ∧ ¬ v < 0 ∧ (tm_ix u) ≤ 1000 ∧ (tm_ix v) ≤ 1000) ∧ tm_A d j (pc + 4) ls (.ref G.1 :: st) (tm_mn (tm_ix u) (tm_ix v) (G, I, J, R)) K :=
  tm_c ho rfl rfl (by show Option.map _ (ite _ _ _) = _; split <;> rfl)
theorem tm_idv {v u : Int32} {h : tm_H} (ho : tm_op j pc = some (.idiv, x)) : tm_A d j pc ls (.int v :: .int u :: st) h K ↔ ¬ v = 0 ∧ tm_A d j (pc + 1) ls (.int (u / v) :: st) h K :=
  tm_c ho rfl rfl (by show Option.map _ (Option.map _ (Option.map _ (ite _ _ _))) = _; by_cases q : v = 0 <;> simp [q])
theorem tm_irm {v u : Int32} {h : tm_H} (ho : tm_op j pc = some (.irem, x)) : tm_A d j pc ls (.int v :: .int u :: st) h K ↔ ¬ v = 0 ∧ tm_A d j (pc + 1) ls (.int (u - u / v * v) :: st) h K :=
  tm_c ho rfl rfl (by show Option.map _ (Option.map _ (Option.map _ (ite _ _ _))) = _; by_cases q : v = 0 <;> simp [q])
theorem tm_reti {h : tm_H} {v : Int32} (ho : tm_op j pc = some (.ireturn, x)) (hk : tm_rk j = 1) : tm_A d j pc ls [.int v] h K ↔ K (some (.int v)) h := by
  rw [tm_A_r ho rfl, hk]
  simp [tm_ret]
theorem tm_retz {h : tm_H} {v : Int32} (ho : tm_op j pc = some (.ireturn, x)) (hk : tm_rk j = 4) : tm_A d j pc ls [.int v] h K ↔ (v = 0 ∨ v = 1) ∧ K (some (.int v)) h := by
  rw [tm_A_r ho rfl, hk]
  by_cases q : v = 0 ∨ v = 1 <;> simp [tm_ret, q]
theorem tm_retj {h : tm_H} {v : Int64} (ho : tm_op j pc = some (.lreturn, x)) (hk : tm_rk j = 2) : tm_A d j pc ls [.long v] h K ↔ K (some (.long v)) h := by
  rw [tm_A_r ho rfl, hk]
  simp [tm_ret]
theorem tm_reta {h : tm_H} (ho : tm_op j pc = some (.areturn, x)) (hk : tm_rk j = 3) : tm_A d j pc ls [.ref a] h K ↔ K (some (.ref a)) h := by
  rw [tm_A_r ho rfl, hk]
  simp [tm_ret]
theorem tm_retn {h : tm_H} (ho : tm_op j pc = some (.areturn, x)) (hk : tm_rk j = 3) : tm_A d j pc ls [.null] h K ↔ K (some .null) h := by
  rw [tm_A_r ho rfl, hk]
  simp [tm_ret]
theorem tm_retv {h : tm_H} (ho : tm_op j pc = some (.return_, x)) (hk : tm_rk j = 0) : tm_A d j pc ls [] h K ↔ K none h := by
  rw [tm_A_r ho rfl, hk]
  simp [tm_ret]
theorem tm_call {h : tm_H} {t n : Nat} {as : List Value} (ho : tm_op j pc = some (i, (t, k, n, c))) (h1 : tm_isRet i = false) (h2 : tm_isInv i = true) (h4 : t ≠ 4) (h5 : t ≠ 5) (h6 : ¬ 6 ≤ t) (hn : as.length = n) (hk : as.map tm_vk = tm_ak k) : tm_A (d + 1) j pc ls (as.reverse ++ st) h K ↔ (tm_rcv t c as h = true ∧ tm_cs st) ∧ tm_R d k as h (fun r h' => tm_A (d + 1) j (pc + 3) ls (r.toList ++ st) h' K) := by
  rw [tm_A_i ho h1 h2 h4 h5 h6]
  have e1 : (as.reverse ++ st).take n = as.reverse := by rw [← hn, ← List.length_reverse]; exact List.take_left
  have e2 : (as.reverse ++ st).drop n = st := by rw [← hn, ← List.length_reverse]; exact List.drop_left
  simp only [e1, e2, List.reverse_reverse, tm_cs, List.length_append, List.length_reverse, hn, hk, Nat.le_add_right, true_and]
theorem tm_callS {h : tm_H} {n : Nat} {as : List Value} (ho : tm_op j pc = some (i, (1, k, n, c))) (h1 : tm_isRet i = false) (h2 : tm_isInv i = true) (hn : as.length = n) (hk : as.map tm_vk = tm_ak k) : tm_A (d + 1) j pc ls (as.reverse ++ st) h K ↔ tm_cs st ∧ tm_R d k as h (fun r h' => tm_A (d + 1) j (pc + 3) ls (r.toList ++ st) h' K) := by
  rw [tm_call ho h1 h2 (by decide) (by decide) (by decide) hn hk]
  simp [tm_rcv]
theorem tm_callV {h : tm_H} {n : Nat} {as : List Value} (ho : tm_op j pc = some (i, (2, k, n, c))) (h1 : tm_isRet i = false) (h2 : tm_isInv i = true) (hn : (Value.ref a :: as).length = n) (hk : (Value.ref a :: as).map tm_vk = tm_ak k) : tm_A (d + 1) j pc ls ((Value.ref a :: as).reverse ++ st) h K ↔ (h.1.2.2 a = (0, c) ∧ tm_cs st) ∧ tm_R d k (.ref a :: as) h (fun r h' => tm_A (d + 1) j (pc + 3) ls (r.toList ++ st) h' K) := by
  rw [tm_call ho h1 h2 (by decide) (by decide) (by decide) hn hk]
  simp [tm_rcv]
theorem tm_callI {h : tm_H} {n : Nat} {as : List Value} (ho : tm_op j pc = some (i, (3, k, n, c))) (h1 : tm_isRet i = false) (h2 : tm_isInv i = true) (hn : (Value.ref a :: as).length = n) (hk : (Value.ref a :: as).map tm_vk = tm_ak k) : tm_A (d + 1) j pc ls ((Value.ref a :: as).reverse ++ st) h K ↔ tm_cs st ∧ tm_R d k (.ref a :: as) h (fun r h' => tm_A (d + 1) j (pc + 3) ls (r.toList ++ st) h' K) := by
  rw [tm_call ho h1 h2 (by decide) (by decide) (by decide) hn hk]
  simp [tm_rcv]
theorem tm_obj {h : tm_H} (ho : tm_op j pc = some (i, (4, k, w, c))) (h1 : tm_isRet i = false) (h2 : tm_isInv i = true) : tm_A (d + 1) j pc ls (.ref a :: st) h K ↔ tm_cs st ∧ tm_A (d + 1) j (pc + 3) ls st h K := by
  rw [tm_A_oi ho h1 h2 rfl]
  by_cases q : (st.map Value.category).sum ≤ 8 <;> simp [tm_oi, tm_cs, q]
theorem tm_abs {h : tm_H} {v : Int32} (ho : tm_op j pc = some (i, (6, k, w, c))) (h1 : tm_isRet i = false) (h2 : tm_isInv i = true) : tm_A (d + 1) j pc ls (.int v :: st) h K ↔ tm_cs st ∧ tm_A (d + 1) j (pc + 3) ls (.int (if 0 ≤ v then v else 0 - v) :: st) h K := by
  rw [tm_A_mp ho h1 h2 (by simp) (by simp) (by simp)]
  by_cases q : (st.map Value.category).sum ≤ 8 <;> simp [tm_mp, tm_cs, q]
theorem tm_max {h : tm_H} {u v : Int32} (ho : tm_op j pc = some (i, (7, k, w, c))) (h1 : tm_isRet i = false) (h2 : tm_isInv i = true) : tm_A (d + 1) j pc ls (.int u :: .int v :: st) h K ↔ tm_cs st ∧ tm_A (d + 1) j (pc + 3) ls (.int (if v < u then u else v) :: st) h K := by
  rw [tm_A_mp ho h1 h2 (by simp) (by simp) (by simp)]
  by_cases q : (st.map Value.category).sum ≤ 8 <;> simp [tm_mp, tm_cs, q]
theorem tm_min {h : tm_H} {u v : Int32} (ho : tm_op j pc = some (i, (8, k, w, c))) (h1 : tm_isRet i = false) (h2 : tm_isInv i = true) : tm_A (d + 1) j pc ls (.int u :: .int v :: st) h K ↔ tm_cs st ∧ tm_A (d + 1) j (pc + 3) ls (.int (if u < v then u else v) :: st) h K := by
  rw [tm_A_mp ho h1 h2 (by simp) (by simp) (by simp)]
  by_cases q : (st.map Value.category).sum ≤ 8 <;> simp [tm_mp, tm_cs, q]
theorem tm_mnj {h : tm_H} {u v : Int64} (ho : tm_op j pc = some (i, (9, k, w, c))) (h1 : tm_isRet i = false) (h2 : tm_isInv i = true) : tm_A (d + 1) j pc ls (.long u :: .long v :: st) h K ↔ tm_cs st ∧ tm_A (d + 1) j (pc + 3) ls (.long (if u < v then u else v) :: st) h K := by
  rw [tm_A_mp ho h1 h2 (by simp) (by simp) (by simp)]
  by_cases q : (st.map Value.category).sum ≤ 8 <;> simp [tm_mp, tm_cs, q]
end TMR
end
section
/-! The small machine is true to the real one. First: the locals, and the instructions that don't look at the heap. -/
def ts_v (ad : Nat → Nat) (v : Value) : Value := match v with
  | .ref k => .ref (ad k)
  | w => w
theorem ts_v_cat (ad : Nat → Nat) (v : Value) : (ts_v ad v).category = v.category := by cases v <;> rfl
def ts_L (ad : Nat → Nat) (nL : Nat) (LL : List Nat) (ls : tm_Lo) (la : Array Slot) : Prop :=
  ls.length = nL ∧ la.size = nL ∧ lv_wf la ∧ (∀ (i : Nat) (v : Value), ls[i]? = some (some v) → la[i]? = some (.val (ts_v ad v))) ∧ ∀ (i : Nat) (v : Value), ls[i]? = some (some v) → v.category = 2 → i ∈ LL
def ts_as (ad : Nat → Nat) (ls : tm_Lo) : List (Nat × Value) := (List.range ls.length).filterMap (fun i => (ls[i]?.join).map (fun v => (i, ts_v ad v)))
theorem ts_as_mem {ad : Nat → Nat} {ls : tm_Lo} {q : Nat × Value} : q ∈ ts_as ad ls ↔ ∃ (i : Nat) (v : Value), ls[i]? = some (some v) ∧ q = (i, ts_v ad v) := by
  unfold ts_as
  rw [List.mem_filterMap]
  constructor
  · rintro ⟨i, hi, e⟩
    obtain ⟨v, e1, e2⟩ := Option.map_eq_some_iff.mp e
    cases h : ls[i]? with
    | none => rw [h] at e1; cases e1
    | some o =>
      rw [h] at e1
      cases o with
      | none => cases e1
      | some w => cases e1; exact ⟨i, v, h, e2.symm⟩
  · rintro ⟨i, v, e1, rfl⟩
    refine ⟨i, List.mem_range.mpr (List.getElem?_eq_some_iff.mp e1).1, ?_⟩
    rw [e1]
    rfl
theorem ts_L.has {ad : Nat → Nat} {nL : Nat} {LL : List Nat} {ls : tm_Lo} {la : Array Slot} (h : ts_L ad nL LL ls la) : lv_has la nL (ts_as ad ls) := by
  refine ⟨h.2.1, h.2.2.1, fun q hq => ?_⟩
  obtain ⟨i, v, e1, rfl⟩ := ts_as_mem.mp hq
  exact h.2.2.2.1 i v e1
theorem ts_L.get {ad : Nat → Nat} {nL : Nat} {LL : List Nat} {ls : tm_Lo} {la : Array Slot} (h : ts_L ad nL LL ls la) {i : Nat} {v : Value} (e : ls[i]? = some (some v)) : la[i]? = some (.val (ts_v ad v)) := h.2.2.2.1 i v e
theorem ts_L.set1 {ad : Nat → Nat} {nL : Nat} {LL : List Nat} {ls : tm_Lo} {la la' : Array Slot} {i : Nat} {v : Value} (h : ts_L ad nL LL ls la) (hi : i < nL) (hc : v.category = 1) (hk : ∀ k, k + 1 = i → k ∉ LL)
    (h' : lv_has la' nL ((i, ts_v ad v) :: (ts_as ad ls).filter (fun q => !(q.1 == i) && !(q.1 + 1 == i && q.2.category == 2)))) : ts_L ad nL LL (ls.set i (some v)) la' := by
  refine ⟨by rw [List.length_set]; exact h.1, h'.1, h'.2.1, fun k w e => ?_, fun k w e hw => ?_⟩
  · by_cases hki : k = i
    · subst hki
      rw [List.getElem?_set_self (by rw [h.1]; exact hi)] at e
      cases e
      exact h'.2.2 _ List.mem_cons_self
    · rw [List.getElem?_set_ne (Ne.symm hki)] at e
      refine h'.2.2 (k, ts_v ad w) (List.mem_cons_of_mem _ (List.mem_filter.mpr ⟨ts_as_mem.mpr ⟨k, w, e, rfl⟩, ?_⟩))
      by_cases h2 : w.category = 2
      · have hn : ¬ k + 1 = i := fun z => hk k z (h.2.2.2.2 k w e h2)
        simp [hki, hn]
      · simp [hki, ts_v_cat, h2]
  · by_cases hki : k = i
    · subst hki
      rw [List.getElem?_set_self (by rw [h.1]; exact hi)] at e
      cases e
      omega
    · rw [List.getElem?_set_ne (Ne.symm hki)] at e
      exact h.2.2.2.2 k w e hw
theorem ts_L.set2 {ad : Nat → Nat} {nL : Nat} {LL : List Nat} {ls : tm_Lo} {la la' : Array Slot} {i : Nat} {v : Value} (h : ts_L ad nL LL ls la) (hi : i + 1 < nL) (hL : i ∈ LL) (hk : ∀ k, k + 1 = i → k ∉ LL)
    (h' : lv_has la' nL ((i, ts_v ad v) :: (ts_as ad ls).filter (fun q => !(q.1 == i) && (!(q.1 == i + 1) && !(q.1 + 1 == i && q.2.category == 2))))) : ts_L ad nL LL ((ls.set i (some v)).set (i + 1) none) la' := by
  refine ⟨by rw [List.length_set, List.length_set]; exact h.1, h'.1, h'.2.1, fun k w e => ?_, fun k w e hw => ?_⟩
  · by_cases hk1 : k = i + 1
    · subst hk1
      rw [List.getElem?_set_self (by rw [List.length_set, h.1]; exact hi)] at e
      cases e
    · rw [List.getElem?_set_ne (Ne.symm hk1)] at e
      by_cases hki : k = i
      · subst hki
        rw [List.getElem?_set_self (by rw [h.1]; omega)] at e
        cases e
        exact h'.2.2 _ List.mem_cons_self
      · rw [List.getElem?_set_ne (Ne.symm hki)] at e
        refine h'.2.2 (k, ts_v ad w) (List.mem_cons_of_mem _ (List.mem_filter.mpr ⟨ts_as_mem.mpr ⟨k, w, e, rfl⟩, ?_⟩))
        by_cases h2 : w.category = 2
        · have hn : ¬ k + 1 = i := fun z => hk k z (h.2.2.2.2 k w e h2)
          simp [hki, hn, hk1]
        · simp [hki, ts_v_cat, h2, hk1]
  · by_cases hk1 : k = i + 1
    · subst hk1
      rw [List.getElem?_set_self (by rw [List.length_set, h.1]; exact hi)] at e
      cases e
    · rw [List.getElem?_set_ne (Ne.symm hk1)] at e
      by_cases hki : k = i
      · subst hki; exact hL
      · rw [List.getElem?_set_ne (Ne.symm hki)] at e
        exact h.2.2.2.2 k w e hw
/-- what an instruction's own numbers must keep to -/
def ts_lk (LL : List Nat) (k : Nat) : Bool := decide (k = 0 ∨ k - 1 ∉ LL)
def ts_ck (LL : List Nat) (pc : Nat) (i : Instr) : Bool := match i with
  | .istore k => ts_lk LL k
  | .istore_n k => ts_lk LL (k : Nat)
  | .astore k => ts_lk LL k
  | .astore_n k => ts_lk LL (k : Nat)
  | .iinc k _ => ts_lk LL k
  | .lstore k => ts_lk LL k && decide (k ∈ LL)
  | .lstore_n k => ts_lk LL (k : Nat) && decide ((k : Nat) ∈ LL)
  | .goto o => decide (0 ≤ (pc : Int) + o)
  | .if_icmp _ o => decide (0 ≤ (pc : Int) + o)
  | .ifCond _ o => decide (0 ≤ (pc : Int) + o)
  | .ifnull o => decide (0 ≤ (pc : Int) + o)
  | .ifnonnull o => decide (0 ≤ (pc : Int) + o)
  | .tableswitch d lo hi offs => decide (0 ≤ (pc : Int) + d) && decide (offs.toList.length = (hi - lo + 1).toNat) && offs.toList.all (fun o => decide (0 ≤ (pc : Int) + o))
  | _ => true
/-- an instruction's length -/
def ts_ln (i : Instr) (x : tm_X) : Nat := match i with
  | .bipush _ => 2
  | .sipush _ => 3
  | .ldc _ => 2
  | .ldc_w _ => 3
  | .ldc2_w _ => 3
  | .iload _ => 2
  | .lload _ => 2
  | .aload _ => 2
  | .istore _ => 2
  | .lstore _ => 2
  | .astore _ => 2
  | .iinc _ _ => 3
  | .goto _ => 3
  | .if_icmp _ _ => 3
  | .ifCond _ _ => 3
  | .ifnull _ => 3
  | .ifnonnull _ => 3
  | .tableswitch _ _ _ _ => x.1
  | .getfield _ => 3
  | .putfield _ => 3
  | .getstatic _ => 3
  | .new _ => 3
  | .newarray _ => 2
  | .anewarray _ => 3
  | .multianewarray _ _ => 4
  | .invokestatic _ => 3
  | .invokevirtual _ => 3
  | .invokespecial _ => 3
  | _ => 1
theorem ts_lk_spec {LL : List Nat} {k : Nat} (h : ts_lk LL k = true) : ∀ q, q + 1 = k → q ∉ LL := by
  intro q hq
  unfold ts_lk at h
  rw [decide_eq_true_eq] at h
  rcases h with h | h
  · omega
  · have : q = k - 1 := by omega
    rw [this]; exact h
theorem ts_tg {pc : Nat} {o : Int} (h : 0 ≤ (pc : Int) + o) : (pc : Int) + o = ((tm_tg pc o : Nat) : Int) := by
  unfold tm_tg
  omega
section TSQ
variable {p : Program} {l : Launch} {e : Env} {R : Room} {s : State} {m : MethodId} {args : Array Value} {below : List Frame} {meth : Method} {c : Code} {H : Heap} {locs : List Loc} {cells slots : Nat} {Q : State → Prop}
variable {cc : ByteArray} {pc pc' nL : Nat} {ls ls' : tm_Lo} {st st' : List Value} {la : Array Slot} {ad : Nat → Nat} {LL : List Nat} {x : tm_X} {own : String}
theorem ts_inv_ld {v : Option Value} {n : Nat} (h : tm_ld pc n ls st v = some (pc', ls', st')) : ∃ w, v = some w ∧ pc' = pc + n ∧ ls' = ls ∧ st' = w :: st := by
  obtain ⟨w, e1, e2⟩ := Option.map_eq_some_iff.mp h
  cases e2
  exact ⟨w, e1, rfl, rfl, rfl⟩
theorem ts_inv_ldI {k : Nat} {w : Value} (h : tm_ldI ls k = some w) : ∃ v, w = .int v ∧ ls[k]? = some (some (.int v)) := by
  unfold tm_ldI at h
  split at h
  next v hv => cases h; exact ⟨v, rfl, hv⟩
  next => cases h
theorem ts_inv_ldJ {k : Nat} {w : Value} (h : tm_ldJ ls k = some w) : ∃ v, w = .long v ∧ ls[k]? = some (some (.long v)) := by
  unfold tm_ldJ at h
  split at h
  next v hv => cases h; exact ⟨v, rfl, hv⟩
  next => cases h
theorem ts_inv_ldA {k : Nat} {w : Value} (h : tm_ldA ls k = some w) : (∃ v, w = .ref v ∧ ls[k]? = some (some (.ref v))) ∨ (w = .null ∧ ls[k]? = some (some .null)) := by
  unfold tm_ldA at h
  split at h
  next v hv => cases h; exact Or.inl ⟨v, rfl, hv⟩
  next hv => cases h; exact Or.inr ⟨rfl, hv⟩
  next => cases h
theorem ts_inv_st {q : Option (tm_Lo × List Value)} {n : Nat} (h : tm_st pc n q = some (pc', ls', st')) : q = some (ls', st') ∧ pc' = pc + n := by
  obtain ⟨w, e1, e2⟩ := Option.map_eq_some_iff.mp h
  cases e2
  exact ⟨e1, rfl⟩
theorem ts_inv_stI {k : Nat} (h : tm_stI ls k st = some (ls', st')) : ∃ v, st = .int v :: st' ∧ k < ls.length ∧ ls' = ls.set k (some (.int v)) := by
  unfold tm_stI at h
  split at h
  next v r =>
    split at h
    next hk => cases h; exact ⟨v, rfl, hk, rfl⟩
    next => cases h
  next => cases h
theorem ts_inv_stJ {k : Nat} (h : tm_stJ ls k st = some (ls', st')) : ∃ v, st = .long v :: st' ∧ k + 1 < ls.length ∧ ls' = (ls.set k (some (.long v))).set (k + 1) none := by
  unfold tm_stJ at h
  split at h
  next v r =>
    split at h
    next hk => cases h; exact ⟨v, rfl, hk, rfl⟩
    next => cases h
  next => cases h
theorem ts_inv_stA {k : Nat} (h : tm_stA ls k st = some (ls', st')) : (∃ v, st = .ref v :: st' ∧ k < ls.length ∧ ls' = ls.set k (some (.ref v))) ∨ (st = .null :: st' ∧ k < ls.length ∧ ls' = ls.set k (some .null)) := by
  unfold tm_stA at h
  split at h
  next v r =>
    split at h
    next hk => cases h; exact Or.inl ⟨v, rfl, hk, rfl⟩
    next => cases h
  next r =>
    split at h
    next hk => cases h; exact Or.inr ⟨rfl, hk, rfl⟩
    next => cases h
  next => cases h
theorem ts_inv_sk {q : Option (List Value)} {n : Nat} (h : tm_sk pc n ls q = some (pc', ls', st')) : q = some st' ∧ pc' = pc + n ∧ ls' = ls := by
  obtain ⟨w, e1, e2⟩ := Option.map_eq_some_iff.mp h
  cases e2
  exact ⟨e1, rfl, rfl⟩
theorem ts_inv_jp {q : Option (Nat × List Value)} (h : tm_jp ls q = some (pc', ls', st')) : q = some (pc', st') ∧ ls' = ls := by
  obtain ⟨w, e1, e2⟩ := Option.map_eq_some_iff.mp h
  cases e2
  exact ⟨e1, rfl⟩
theorem ts_inv_bin {f : Int32 → Int32 → Option Int32} (h : tm_bin f st = some st') : ∃ a b r z, st = .int b :: .int a :: r ∧ f a b = some z ∧ st' = .int z :: r := by
  unfold tm_bin at h
  split at h
  next y z r =>
    obtain ⟨w, e1, e2⟩ := Option.map_eq_some_iff.mp h
    exact ⟨_, _, _, w, rfl, e1, e2.symm⟩
  next => cases h
theorem ts_inv_br2 {f : Int32 → Int32 → Bool} {t g : Nat} (h : tm_br2 f t g st = some (pc', st')) : ∃ a b, st = .int b :: .int a :: st' ∧ pc' = if f a b then t else g := by
  unfold tm_br2 at h
  split at h
  next y z r => cases h; exact ⟨_, _, rfl, rfl⟩
  next => cases h
theorem ts_inv_br1 {f : Int32 → Bool} {t g : Nat} (h : tm_br1 f t g st = some (pc', st')) : ∃ a, st = .int a :: st' ∧ pc' = if f a then t else g := by
  unfold tm_br1 at h
  split at h
  next y r => cases h; exact ⟨_, rfl, rfl⟩
  next => cases h
theorem ts_inv_brN {t g : Nat} (h : tm_brN t g st = some (pc', st')) : (st = .null :: st' ∧ pc' = t) ∨ ∃ a, st = .ref a :: st' ∧ pc' = g := by
  unfold tm_brN at h
  split at h
  next r => cases h; exact Or.inl ⟨rfl, rfl⟩
  next a r => cases h; exact Or.inr ⟨a, rfl, rfl⟩
  next => cases h
end TSQ
end
section
section TSP
variable {p : Program} {l : Launch} {e : Env} {R : Room} {s : State} {m : MethodId} {args : Array Value} {below : List Frame} {meth : Method} {c : Code} {H : Heap} {locs : List Loc} {cells slots : Nat} {Q : State → Prop}
/-- the words that an instruction without the heap needs -/
def ts_wq (own : String) (i : Instr) (x : tm_X) : List Jvm.Cond := match i with
  | .ldc k => [.constant own k (Int32.ofNat x.2.1)]
  | .ldc_w k => [.constant own k (Int32.ofNat x.2.1)]
  | .ldc2_w k => [.constantLong own k (Int64.ofNat x.2.1)]
  | _ => []
set_option maxHeartbeats 4000000 in
theorem ts_q {cc : ByteArray} {pc pc' nL : Nat} {ls ls' : tm_Lo} {st st' : List Value} {la : Array Slot} {ad : Nat → Nat} {LL : List Nat} {x : tm_X} {own : String} {i : Instr} (hx : p.tables.exec = Jvm.exec) (hb : c.code = cc) (hown : s.vm.findClass own = some m.cls) (hw : ∀ w ∈ ts_wq own i x, w.before args s = true) (hd : decode cc pc = .ok (i, ts_ln i x)) (hk : ts_ck LL pc i = true) (hl : ts_L ad nL LL ls la) (hq : tm_q i x pc ls st = some (pc', ls', st'))
    (kk : ∀ la', ts_L ad nL LL ls' la' → W p l e R s m args below meth c H locs cells slots Q (F0 m pc' la' (st'.map (ts_v ad)))) : W p l e R s m args below meth c H locs cells slots Q (F0 m pc la (st.map (ts_v ad))) := by
  cases i with
  | iconst n =>
    cases hq
    exact lv_iconst hx hb hd rfl (kk _ hl)
  | bipush n =>
    cases hq
    exact lv_bipush hx hb hd rfl (kk _ hl)
  | sipush n =>
    cases hq
    exact lv_sipush hx hb hd rfl (kk _ hl)
  | lconst n =>
    cases hq
    exact lv_lconst hx hb hd rfl (kk _ hl)
  | ldc k =>
    cases hq
    exact lv_ldc hx hb hown (hw _ List.mem_cons_self) hd (kk _ hl)
  | ldc_w k =>
    cases hq
    exact lv_ldcw hx hb hown (hw _ List.mem_cons_self) hd (kk _ hl)
  | ldc2_w k =>
    cases hq
    exact lv_ldc2 hx hb hown (hw _ List.mem_cons_self) hd (kk _ hl)
  | aconst_null =>
    cases hq
    exact lv_null hx hb hd (kk _ hl)
  | iload k =>
    obtain ⟨w, e1, rfl, rfl, rfl⟩ := ts_inv_ld hq
    obtain ⟨v, rfl, e2⟩ := ts_inv_ldI e1
    exact lv_iload hx hb hd (hl.get e2) (kk _ hl)
  | iload_n k =>
    obtain ⟨w, e1, rfl, rfl, rfl⟩ := ts_inv_ld hq
    obtain ⟨v, rfl, e2⟩ := ts_inv_ldI e1
    exact lv_iload_n hx hb hd rfl (hl.get e2) (kk _ hl)
  | lload k =>
    obtain ⟨w, e1, rfl, rfl, rfl⟩ := ts_inv_ld hq
    obtain ⟨v, rfl, e2⟩ := ts_inv_ldJ e1
    exact lv_lload hx hb hd (hl.get e2) (kk _ hl)
  | lload_n k =>
    obtain ⟨w, e1, rfl, rfl, rfl⟩ := ts_inv_ld hq
    obtain ⟨v, rfl, e2⟩ := ts_inv_ldJ e1
    exact lv_lload_n hx hb hd rfl (hl.get e2) (kk _ hl)
  | aload k =>
    obtain ⟨w, e1, rfl, rfl, rfl⟩ := ts_inv_ld hq
    rcases ts_inv_ldA e1 with ⟨v, rfl, e2⟩ | ⟨rfl, e2⟩
    · exact lv_aload hx hb hd (hl.get e2) (kk _ hl)
    · exact lv_aloadN hx hb hd (hl.get e2) (kk _ hl)
  | aload_n k =>
    obtain ⟨w, e1, rfl, rfl, rfl⟩ := ts_inv_ld hq
    rcases ts_inv_ldA e1 with ⟨v, rfl, e2⟩ | ⟨rfl, e2⟩
    · exact lv_aload_n hx hb hd rfl (hl.get e2) (kk _ hl)
    · exact lv_aload_nN hx hb hd rfl (hl.get e2) (kk _ hl)
  | istore k =>
    obtain ⟨e1, rfl⟩ := ts_inv_st hq
    obtain ⟨v, rfl, e2, rfl⟩ := ts_inv_stI e1
    rw [hl.1] at e2
    exact lv_istore hx hb hd hl.has e2 rfl (fun la' h' => kk la' (hl.set1 (v := .int v) e2 rfl (ts_lk_spec hk) h'))
  | istore_n k =>
    obtain ⟨e1, rfl⟩ := ts_inv_st hq
    obtain ⟨v, rfl, e2, rfl⟩ := ts_inv_stI e1
    rw [hl.1] at e2
    exact lv_istore_n hx hb hd rfl hl.has e2 rfl (fun la' h' => kk la' (hl.set1 (v := .int v) e2 rfl (ts_lk_spec hk) h'))
  | lstore k =>
    obtain ⟨e1, rfl⟩ := ts_inv_st hq
    obtain ⟨v, rfl, e2, rfl⟩ := ts_inv_stJ e1
    rw [hl.1] at e2
    simp only [ts_ck, Bool.and_eq_true, decide_eq_true_eq] at hk
    exact lv_lstore hx hb hd hl.has e2 rfl (fun la' h' => kk la' (hl.set2 (v := .long v) e2 hk.2 (ts_lk_spec hk.1) h'))
  | lstore_n k =>
    obtain ⟨e1, rfl⟩ := ts_inv_st hq
    obtain ⟨v, rfl, e2, rfl⟩ := ts_inv_stJ e1
    rw [hl.1] at e2
    simp only [ts_ck, Bool.and_eq_true, decide_eq_true_eq] at hk
    exact lv_lstore_n hx hb hd rfl hl.has e2 rfl (fun la' h' => kk la' (hl.set2 (v := .long v) e2 hk.2 (ts_lk_spec hk.1) h'))
  | astore k =>
    obtain ⟨e1, rfl⟩ := ts_inv_st hq
    rcases ts_inv_stA e1 with ⟨v, rfl, e2, rfl⟩ | ⟨rfl, e2, rfl⟩
    · rw [hl.1] at e2
      exact lv_astore hx hb hd hl.has e2 rfl (fun la' h' => kk la' (hl.set1 (v := .ref v) e2 rfl (ts_lk_spec hk) h'))
    · rw [hl.1] at e2
      exact lv_astoreN hx hb hd hl.has e2 rfl (fun la' h' => kk la' (hl.set1 (v := .null) e2 rfl (ts_lk_spec hk) h'))
  | astore_n k =>
    obtain ⟨e1, rfl⟩ := ts_inv_st hq
    rcases ts_inv_stA e1 with ⟨v, rfl, e2, rfl⟩ | ⟨rfl, e2, rfl⟩
    · rw [hl.1] at e2
      exact lv_astore_n hx hb hd rfl hl.has e2 rfl (fun la' h' => kk la' (hl.set1 (v := .ref v) e2 rfl (ts_lk_spec hk) h'))
    · rw [hl.1] at e2
      exact lv_astore_nN hx hb hd rfl hl.has e2 rfl (fun la' h' => kk la' (hl.set1 (v := .null) e2 rfl (ts_lk_spec hk) h'))
  | iinc k n =>
    obtain ⟨w, e1, e2⟩ := Option.map_eq_some_iff.mp hq
    cases e2
    unfold tm_inc at e1
    split at e1
    next v hv =>
      cases e1
      have e2 : k < nL := by rw [← hl.1]; exact (List.getElem?_eq_some_iff.mp hv).1
      obtain ⟨j9, hj9⟩ := List.getElem?_of_mem (ts_as_mem.mpr ⟨k, .int v, hv, rfl⟩ : (k, ts_v ad (.int v)) ∈ ts_as ad ls)
      exact lv_iinc hx hb hd hl.has hj9 rfl e2 rfl (fun la' h' => kk la' (hl.set1 (v := .int (v + Int32.ofInt n)) e2 rfl (ts_lk_spec hk) h'))
    next => cases e1
  | iadd =>
    obtain ⟨e1, rfl, rfl⟩ := ts_inv_sk hq
    obtain ⟨a, b, r, z, rfl, e2, rfl⟩ := ts_inv_bin e1
    cases e2
    exact lv_iadd hx hb hd (kk _ hl)
  | isub =>
    obtain ⟨e1, rfl, rfl⟩ := ts_inv_sk hq
    obtain ⟨a, b, r, z, rfl, e2, rfl⟩ := ts_inv_bin e1
    cases e2
    exact lv_isub hx hb hd (kk _ hl)
  | imul =>
    obtain ⟨e1, rfl, rfl⟩ := ts_inv_sk hq
    obtain ⟨a, b, r, z, rfl, e2, rfl⟩ := ts_inv_bin e1
    cases e2
    exact lv_imul hx hb hd (kk _ hl)
  | iand =>
    obtain ⟨e1, rfl, rfl⟩ := ts_inv_sk hq
    obtain ⟨a, b, r, z, rfl, e2, rfl⟩ := ts_inv_bin e1
    cases e2
    exact lv_iand hx hb hd (kk _ hl)
  | ior =>
    obtain ⟨e1, rfl, rfl⟩ := ts_inv_sk hq
    obtain ⟨a, b, r, z, rfl, e2, rfl⟩ := ts_inv_bin e1
    cases e2
    exact lv_ior hx hb hd (kk _ hl)
  | ixor =>
    obtain ⟨e1, rfl, rfl⟩ := ts_inv_sk hq
    obtain ⟨a, b, r, z, rfl, e2, rfl⟩ := ts_inv_bin e1
    cases e2
    exact lv_ixor hx hb hd (kk _ hl)
  | ishl =>
    obtain ⟨e1, rfl, rfl⟩ := ts_inv_sk hq
    obtain ⟨a, b, r, z, rfl, e2, rfl⟩ := ts_inv_bin e1
    cases e2
    exact lv_ishl hx hb hd (kk _ hl)
  | ishr =>
    obtain ⟨e1, rfl, rfl⟩ := ts_inv_sk hq
    obtain ⟨a, b, r, z, rfl, e2, rfl⟩ := ts_inv_bin e1
    cases e2
    exact lv_ishr hx hb hd (kk _ hl)
  | iushr =>
    obtain ⟨e1, rfl, rfl⟩ := ts_inv_sk hq
    obtain ⟨a, b, r, z, rfl, e2, rfl⟩ := ts_inv_bin e1
    cases e2
    exact lv_iushr hx hb hd rfl (kk _ hl)
  | idiv =>
    obtain ⟨e1, rfl, rfl⟩ := ts_inv_sk hq
    obtain ⟨a, b, r, z, rfl, e2, rfl⟩ := ts_inv_bin e1
    split at e2
    next => cases e2
    next hne =>
      cases e2
      exact lv_idiv hx hb hd hne (kk _ hl)
  | irem =>
    obtain ⟨e1, rfl, rfl⟩ := ts_inv_sk hq
    obtain ⟨a, b, r, z, rfl, e2, rfl⟩ := ts_inv_bin e1
    split at e2
    next => cases e2
    next hne =>
      cases e2
      exact lv_irem hx hb hd hne (kk _ hl)
  | ineg =>
    obtain ⟨e1, rfl, rfl⟩ := ts_inv_sk hq
    unfold tm_ineg at e1
    split at e1
    next =>
      cases e1
      exact lv_ineg hx hb hd (kk _ hl)
    next => cases e1
  | ladd =>
    obtain ⟨e1, rfl, rfl⟩ := ts_inv_sk hq
    unfold tm_ladd at e1
    split at e1
    next =>
      cases e1
      exact lv_ladd hx hb hd (kk _ hl)
    next => cases e1
  | lshl =>
    obtain ⟨e1, rfl, rfl⟩ := ts_inv_sk hq
    unfold tm_lsh at e1
    split at e1
    next =>
      cases e1
      exact lv_lshl hx hb hd rfl (kk _ hl)
    next => cases e1
  | lshr =>
    obtain ⟨e1, rfl, rfl⟩ := ts_inv_sk hq
    unfold tm_lsh at e1
    split at e1
    next =>
      cases e1
      exact lv_lshr hx hb hd rfl (kk _ hl)
    next => cases e1
  | lcmp =>
    obtain ⟨e1, rfl, rfl⟩ := ts_inv_sk hq
    unfold tm_lcmp at e1
    split at e1
    next =>
      cases e1
      exact W.lcmp hx hb hd (kk _ hl)
    next => cases e1
  | i2l =>
    obtain ⟨e1, rfl, rfl⟩ := ts_inv_sk hq
    unfold tm_i2l at e1
    split at e1
    next =>
      cases e1
      exact lv_i2l hx hb hd rfl (kk _ hl)
    next => cases e1
  | l2i =>
    obtain ⟨e1, rfl, rfl⟩ := ts_inv_sk hq
    unfold tm_l2i at e1
    split at e1
    next =>
      cases e1
      exact lv_l2i hx hb hd rfl (kk _ hl)
    next => cases e1
  | dup =>
    obtain ⟨e1, rfl, rfl⟩ := ts_inv_sk hq
    unfold tm_cat2 at e1
    split at e1
    next v r =>
      split at e1
      next hc => cases e1; exact lv_dup hx hb hd (by rw [ts_v_cat]; exact hc) (kk _ hl)
      next => cases e1
    next => cases e1
  | dup2 =>
    obtain ⟨e1, rfl, rfl⟩ := ts_inv_sk hq
    unfold tm_dp2 at e1
    split at e1
    next v w r =>
      split at e1
      next hc => cases e1; exact lv_dup2_11 hx hb hd (by rw [ts_v_cat]; exact hc.1) (by rw [ts_v_cat]; exact hc.2) (kk _ hl)
      next => cases e1
    next => cases e1
  | pop =>
    obtain ⟨e1, rfl, rfl⟩ := ts_inv_sk hq
    unfold tm_pop at e1
    split at e1
    next v r =>
      split at e1
      next hc => cases e1; exact lv_pop hx hb hd (by rw [ts_v_cat]; exact hc) (kk _ hl)
      next => cases e1
    next => cases e1
  | goto o =>
    cases hq
    exact lv_goto hx hb hd (ts_tg (by simpa [ts_ck] using hk)) (kk _ hl)
  | if_icmp cd o =>
    obtain ⟨e1, rfl⟩ := ts_inv_jp hq
    obtain ⟨a, b, rfl, rfl⟩ := ts_inv_br2 e1
    have ht := ts_tg (pc := pc) (o := o) (by simpa [ts_ck] using hk)
    cases cd
    · exact lv_icmp_eq hx hb hd ht (fun hc => by have := kk _ hl; simp only [tm_cmp, hc, decide_true, if_true, not_true, not_false_eq_true, decide_false, Bool.false_eq_true, if_false] at this; exact this) (fun hc => by have := kk _ hl; simp only [tm_cmp, hc, decide_false, if_false, Bool.false_eq_true, not_true, not_false_eq_true, decide_true, if_true] at this; exact this)
    · exact lv_icmp_ne hx hb hd ht (fun hc => by have := kk _ hl; simp only [tm_cmp, hc, decide_true, if_true, not_true, not_false_eq_true, decide_false, Bool.false_eq_true, if_false] at this; exact this) (fun hc => by have := kk _ hl; simp only [tm_cmp, hc, decide_false, if_false, Bool.false_eq_true, not_true, not_false_eq_true, decide_true, if_true] at this; exact this)
    · exact lv_icmp_lt hx hb hd ht (fun hc => by have := kk _ hl; simp only [tm_cmp, hc, decide_true, if_true, not_true, not_false_eq_true, decide_false, Bool.false_eq_true, if_false] at this; exact this) (fun hc => by have := kk _ hl; simp only [tm_cmp, hc, decide_false, if_false, Bool.false_eq_true, not_true, not_false_eq_true, decide_true, if_true] at this; exact this)
    · exact lv_icmp_ge hx hb hd ht (fun hc => by have := kk _ hl; simp only [tm_cmp, hc, decide_true, if_true, not_true, not_false_eq_true, decide_false, Bool.false_eq_true, if_false] at this; exact this) (fun hc => by have := kk _ hl; simp only [tm_cmp, hc, decide_false, if_false, Bool.false_eq_true, not_true, not_false_eq_true, decide_true, if_true] at this; exact this)
    · exact lv_icmp_gt hx hb hd ht (fun hc => by have := kk _ hl; simp only [tm_cmp, hc, decide_true, if_true, not_true, not_false_eq_true, decide_false, Bool.false_eq_true, if_false] at this; exact this) (fun hc => by have := kk _ hl; simp only [tm_cmp, hc, decide_false, if_false, Bool.false_eq_true, not_true, not_false_eq_true, decide_true, if_true] at this; exact this)
    · exact lv_icmp_le hx hb hd ht (fun hc => by have := kk _ hl; simp only [tm_cmp, hc, decide_true, if_true, not_true, not_false_eq_true, decide_false, Bool.false_eq_true, if_false] at this; exact this) (fun hc => by have := kk _ hl; simp only [tm_cmp, hc, decide_false, if_false, Bool.false_eq_true, not_true, not_false_eq_true, decide_true, if_true] at this; exact this)
  | ifCond cd o =>
    obtain ⟨e1, rfl⟩ := ts_inv_jp hq
    obtain ⟨a, rfl, rfl⟩ := ts_inv_br1 e1
    have ht := ts_tg (pc := pc) (o := o) (by simpa [ts_ck] using hk)
    cases cd
    · exact lv_if_eq hx hb hd ht (fun hc => by have := kk _ hl; simp only [tm_cmp, hc, decide_true, if_true, not_true, not_false_eq_true, decide_false, Bool.false_eq_true, if_false] at this; exact this) (fun hc => by have := kk _ hl; simp only [tm_cmp, hc, decide_false, if_false, Bool.false_eq_true, not_true, not_false_eq_true, decide_true, if_true] at this; exact this)
    · exact lv_if_ne hx hb hd ht (fun hc => by have := kk _ hl; simp only [tm_cmp, hc, decide_true, if_true, not_true, not_false_eq_true, decide_false, Bool.false_eq_true, if_false] at this; exact this) (fun hc => by have := kk _ hl; simp only [tm_cmp, hc, decide_false, if_false, Bool.false_eq_true, not_true, not_false_eq_true, decide_true, if_true] at this; exact this)
    · exact lv_if_lt hx hb hd ht (fun hc => by have := kk _ hl; simp only [tm_cmp, hc, decide_true, if_true, not_true, not_false_eq_true, decide_false, Bool.false_eq_true, if_false] at this; exact this) (fun hc => by have := kk _ hl; simp only [tm_cmp, hc, decide_false, if_false, Bool.false_eq_true, not_true, not_false_eq_true, decide_true, if_true] at this; exact this)
    · exact lv_if_ge hx hb hd ht (fun hc => by have := kk _ hl; simp only [tm_cmp, hc, decide_true, if_true, not_true, not_false_eq_true, decide_false, Bool.false_eq_true, if_false] at this; exact this) (fun hc => by have := kk _ hl; simp only [tm_cmp, hc, decide_false, if_false, Bool.false_eq_true, not_true, not_false_eq_true, decide_true, if_true] at this; exact this)
    · exact lv_if_gt hx hb hd ht (fun hc => by have := kk _ hl; simp only [tm_cmp, hc, decide_true, if_true, not_true, not_false_eq_true, decide_false, Bool.false_eq_true, if_false] at this; exact this) (fun hc => by have := kk _ hl; simp only [tm_cmp, hc, decide_false, if_false, Bool.false_eq_true, not_true, not_false_eq_true, decide_true, if_true] at this; exact this)
    · exact lv_if_le hx hb hd ht (fun hc => by have := kk _ hl; simp only [tm_cmp, hc, decide_true, if_true, not_true, not_false_eq_true, decide_false, Bool.false_eq_true, if_false] at this; exact this) (fun hc => by have := kk _ hl; simp only [tm_cmp, hc, decide_false, if_false, Bool.false_eq_true, not_true, not_false_eq_true, decide_true, if_true] at this; exact this)
  | ifnull o =>
    obtain ⟨e1, rfl⟩ := ts_inv_jp hq
    have ht := ts_tg (pc := pc) (o := o) (by simpa [ts_ck] using hk)
    rcases ts_inv_brN e1 with ⟨rfl, rfl⟩ | ⟨a, rfl, rfl⟩
    · exact lv_ifnullN hx hb hd ht (kk _ hl)
    · exact lv_ifnull hx hb hd (kk _ hl)
  | ifnonnull o =>
    obtain ⟨e1, rfl⟩ := ts_inv_jp hq
    have ht := ts_tg (pc := pc) (o := o) (by simpa [ts_ck] using hk)
    rcases ts_inv_brN e1 with ⟨rfl, rfl⟩ | ⟨a, rfl, rfl⟩
    · exact lv_ifnonnullN hx hb hd (kk _ hl)
    · exact lv_ifnonnull hx hb hd ht (kk _ hl)
  | tableswitch d lo hi offs =>
    have hq2 : tm_sw (tm_tsw d lo hi offs pc) ls st = some (pc', ls', st') := hq
    unfold tm_sw at hq2
    split at hq2
    next z r =>
      cases hq2
      have hk2 := hk
      simp only [ts_ck, Bool.and_eq_true, decide_eq_true_eq, List.all_eq_true] at hk2
      obtain ⟨⟨h1, h2⟩, h3⟩ := hk2
      by_cases hc : z.toInt < lo ∨ hi < z.toInt
      · refine lv_tableOut hx hb hd hc (ts_tg h1) ?_
        have := kk _ hl
        simp only [tm_tsw, hc, if_true] at this
        exact this
      · have hn1 : ¬ z.toInt < lo := fun q => hc (Or.inl q)
        have hn2 : ¬ hi < z.toInt := fun q => hc (Or.inr q)
        have hi9 : (z.toInt - lo).toNat < offs.toList.length := by rw [h2]; omega
        have hg : offs[(z.toInt - lo).toNat]? = some (offs.toList.getD (z.toInt - lo).toNat 0) := by
          rw [← Array.getElem?_toList, List.getD_eq_getElem?_getD, List.getElem?_eq_getElem hi9]
          rfl
        refine lv_tableIn hx hb hd hn1 hn2 hg (ts_tg (h3 _ ?_)) ?_
        · rw [List.getD_eq_getElem?_getD, List.getElem?_eq_getElem hi9]
          exact List.getElem_mem hi9
        · have := kk _ hl
          simp only [tm_tsw, hc, if_false] at this
          exact this
    next => cases hq2
  | _ => cases (show (none : Option (Nat × tm_Lo × List Value)) = some _ from hq)
end TSP
end
section
/-! The heap of the small machine, and the real one. -/
def ts_kd (t : FieldType) : Nat := match t with
  | .int => 0
  | .long => 1
  | .boolean => 3
  | .object _ => 2
  | .array _ => 2
  | _ => 9
def ts_N (ci : Nat) : Nat := ((ts_cl[ci]?).map (fun q => q.2.2)).getD 0
def ts_fs (ad : Nat → Nat) (ci k : Nat) (h : tm_H) : List Value := (List.range (ts_N ci)).map (fun f => ts_v ad (tm_fv (ts_kd (ts_ty ci f)) k f h))
def ts_e (ad : Nat → Nat) (cA : Nat → ClassId) (h : tm_H) (k : Nat) : va_E :=
  if (h.1.2.2 k).1 = 0 then .inr ((h.1.2.2 k).2, ts_fs ad (h.1.2.2 k).2 k h)
  else if (h.1.2.2 k).1 = 1 then .inl (cA 1, (h.1.2.2 k).2, .inl (h.2.1 k))
  else if (h.1.2.2 k).1 = 2 then .inl (cA 2, (h.1.2.2 k).2, .inr (.inl (h.2.2.1 k)))
  else .inl (cA (h.1.2.2 k).1, (h.1.2.2 k).2, .inr (.inr (.inr (.inr (fun i => (h.2.2.2 k i).map ad)))))
def ts_tys (cA : Nat → ClassId) : List (ClassId × FieldType) := [(cA 1, .int), (cA 2, .long), (cA 3, .array .int), (cA 4, .object "TidingsDesk$Telling"), (cA 5, .object "TidingsDesk$Facts"), (cA 6, .char)]
/-- the three arrays that were there before: read only -/
def ts_S (ad : Nat → Nat) (b0 : Nat) (h : tm_H) (U : State) (H : Heap) (k : Nat) : Prop :=
  ad k < b0 ∧ ((h.1.2.2 k).1 = 1 ∨ (h.1.2.2 k).1 = 6) ∧ ∃ cell : Cell, H[ad k]? = some cell ∧ U.isArrayOf cell (if (h.1.2.2 k).1 = 1 then .int else .char) ∧ cell.vm ≠ .unknown ∧ (h.1.2.2 k).2 ≤ cell.slots.size ∧ cell.slots.size.toInt32 = Int32.ofNat (h.1.2.2 k).2 ∧ ∀ i, i < (h.1.2.2 k).2 → cell.slots[i]? = some (.int (h.2.1 k i))
def ts_R (b0 : Nat) (ad : Nat → Nat) (D : va_G) (cA : Nat → ClassId) (h : tm_H) (U : State) (H : Heap) : Prop :=
  3 ≤ h.1.1 ∧ H.size + 3 = b0 + h.1.1 ∧ (∀ k, h.1.1 ≤ k → (h.1.2.2 k).1 = 99) ∧ (∀ k, 3 ≤ k → k < h.1.1 → (h.1.2.2 k).1 ≠ 6 ∧ va_at D ts_cl (ad k, ts_e ad cA h k) H) ∧ ∀ k, k < 3 → ts_S ad b0 h U H k
theorem ts_e_congr {ad : Nat → Nat} {cA : Nat → ClassId} {h h' : tm_H} {k : Nat} (e0 : h'.1.2.2 k = h.1.2.2 k) (e1 : h'.2.1 k = h.2.1 k) (e2 : h'.2.2.1 k = h.2.2.1 k) (e3 : h'.2.2.2 k = h.2.2.2 k) : ts_e ad cA h' k = ts_e ad cA h k := by
  unfold ts_e ts_fs tm_fv
  rw [e0, e1, e2, e3]
theorem ts_S_congr {ad : Nat → Nat} {b0 : Nat} {h h' : tm_H} {U : State} {H H1 : Heap} {k : Nat} (e0 : h'.1.2.2 k = h.1.2.2 k) (e1 : h'.2.1 k = h.2.1 k) (hH : ∀ q : Nat, q < b0 → H1[q]? = H[q]?) (hs : ts_S ad b0 h U H k) : ts_S ad b0 h' U H1 k := by
  unfold ts_S at hs ⊢
  rw [e0, e1]
  obtain ⟨h1, h2, cell, h3, h4⟩ := hs
  exact ⟨h1, h2, cell, by rw [hH _ h1]; exact h3, h4⟩
theorem ts_R.set {b0 : Nat} {ad : Nat → Nat} {D : va_G} {cA : Nat → ClassId} {h h' : tm_H} {U : State} {H H1 : Heap} {a : Nat} (hA3 : ∀ k, 3 ≤ k → ad k = b0 + (k - 3)) (hR : ts_R b0 ad D cA h U H) (ha : 3 ≤ a) (eG : h'.1 = h.1)
    (e1 : ∀ k, k ≠ a → h'.2.1 k = h.2.1 k) (e2 : ∀ k, k ≠ a → h'.2.2.1 k = h.2.2.1 k) (e3 : ∀ k, k ≠ a → h'.2.2.2 k = h.2.2.2 k) (z : H1.size = H.size) (oq : ∀ q : Nat, q ≠ ad a → H1[q]? = H[q]?) (hat : va_at D ts_cl (ad a, ts_e ad cA h' a) H1) : ts_R b0 ad D cA h' U H1 := by
  obtain ⟨r1, r2, r3, r4, r5⟩ := hR
  refine ⟨by rw [eG]; exact r1, by rw [z, eG]; exact r2, fun k hk => by rw [eG] at hk ⊢; exact r3 k hk, fun k h3 hk => ?_, fun k hk => ?_⟩
  · rw [eG] at hk
    refine ⟨by rw [eG]; exact (r4 k h3 hk).1, ?_⟩
    by_cases hka : k = a
    · subst hka; exact hat
    · rw [ts_e_congr (by rw [eG]) (e1 k hka) (e2 k hka) (e3 k hka)]
      refine (r4 k h3 hk).2.kept (oq _ ?_)
      show ad k ≠ ad a
      rw [hA3 k h3, hA3 a ha]
      omega
  · refine ts_S_congr (by rw [eG]) (e1 k (by omega)) (fun q hq => oq q ?_) (r5 k hk)
    rw [hA3 a ha]
    omega
theorem ts_R.lt {b0 : Nat} {ad : Nat → Nat} {D : va_G} {cA : Nat → ClassId} {h : tm_H} {U : State} {H : Heap} {a : Nat} (hR : ts_R b0 ad D cA h U H) (hn : (h.1.2.2 a).1 ≠ 99) : a < h.1.1 := by
  rcases Nat.lt_or_ge a h.1.1 with q | q
  · exact q
  · exact absurd (hR.2.2.1 a q) hn
theorem ts_R.ge3 {b0 : Nat} {ad : Nat → Nat} {D : va_G} {cA : Nat → ClassId} {h : tm_H} {U : State} {H : Heap} {a : Nat} (hR : ts_R b0 ad D cA h U H) (hn : (h.1.2.2 a).1 ≠ 1 ∧ (h.1.2.2 a).1 ≠ 6) : 3 ≤ a := by
  rcases Nat.lt_or_ge a 3 with q | q
  · rcases (hR.2.2.2.2 a q).2.1 with h1 | h1
    · exact absurd h1 hn.1
    · exact absurd h1 hn.2
  · exact q
theorem ts_R.moved {b0 : Nat} {ad : Nat → Nat} {D : va_G} {cA : Nat → ClassId} {h : tm_H} {u U : State} {H : Heap} (hvm : u.vm.Alike U.vm) (hR : ts_R b0 ad D cA h u H) : ts_R b0 ad D cA h U H := by
  obtain ⟨r1, r2, r3, r4, r5⟩ := hR
  refine ⟨r1, r2, r3, r4, fun k hk => ?_⟩
  obtain ⟨h1, h2, cell, h3, h4, h5⟩ := r5 k hk
  exact ⟨h1, h2, cell, h3, State.isArrayOf_alike hvm h4, h5⟩
theorem ts_rf (ad : Nat → Nat) (r : Option Nat) : ts_v ad (tm_rf r) = va_rf (r.map ad) := by cases r <;> rfl
theorem ts_fs_len {ad : Nat → Nat} {ci k : Nat} {h : tm_H} : (ts_fs ad ci k h).length = ts_N ci := by
  unfold ts_fs
  rw [List.length_map, List.length_range]
theorem ts_fs_get {ad : Nat → Nat} {ci k f : Nat} {h : tm_H} (hf : f < ts_N ci) : (ts_fs ad ci k h)[f]? = some (ts_v ad (tm_fv (ts_kd (ts_ty ci f)) k f h)) := by
  unfold ts_fs
  rw [List.getElem?_map, List.getElem?_range hf]
  rfl
theorem ts_fs_set {ad : Nat → Nat} {ci a f : Nat} {h h' : tm_H} {v : Value} (hf : f < ts_N ci) (hv : ts_v ad (tm_fv (ts_kd (ts_ty ci f)) a f h') = v) (ho : ∀ g, g ≠ f → tm_fv (ts_kd (ts_ty ci g)) a g h' = tm_fv (ts_kd (ts_ty ci g)) a g h) : ts_fs ad ci a h' = (ts_fs ad ci a h).set f v := by
  refine List.ext_getElem? (fun i => ?_)
  by_cases hi : i < ts_N ci
  · rw [ts_fs_get hi]
    by_cases e : i = f
    · subst e
      rw [List.getElem?_set_self (by rw [ts_fs_len]; exact hi), hv]
    · rw [List.getElem?_set_ne (Ne.symm e), ts_fs_get hi, ho i e]
  · rw [List.getElem?_eq_none (by rw [ts_fs_len]; omega), List.getElem?_eq_none (by rw [List.length_set, ts_fs_len]; omega)]
theorem up2_row {α : Type} {f : Nat → Nat → α} {a i k : Nat} {v : α} (h : k ≠ a) : up2 f a i v k = f k := by
  funext j
  simp [up2, h]
theorem up2_at {α : Type} {f : Nat → Nat → α} {a i : Nat} {v : α} : up2 f a i v a i = v := by simp [up2]
theorem up2_ne {α : Type} {f : Nat → Nat → α} {a i j : Nat} {v : α} (h : j ≠ i) : up2 f a i v a j = f a j := by simp [up2, h]
theorem upr_ne {α : Type} {f : Nat → α} {a k : Nat} {v : α} (h : k ≠ a) : upr f a v k = f k := by simp [upr, h]
theorem upr_at {α : Type} {f : Nat → α} {a : Nat} {v : α} : upr f a v a = v := by simp [upr]
/-- a new cell behind the last one -/
theorem ts_R.push {b0 : Nat} {ad : Nat → Nat} {D : va_G} {cA : Nat → ClassId} {h : tm_H} {U : State} {H H1 : Heap} {q : Nat × Nat} {n : Nat} (hA3 : ∀ k, 3 ≤ k → ad k = b0 + (k - 3)) (hR : ts_R b0 ad D cA h U H) (hq6 : q.1 ≠ 6) (z : H1.size = H.size + 1) (o1 : ∀ q : Nat, q < H.size → H1[q]? = H[q]?) (hat : va_at D ts_cl (H.size, ts_e ad cA (tm_nw q n h) h.1.1) H1) : ts_R b0 ad D cA (tm_nw q n h) U H1 := by
  obtain ⟨r1, r2, r3, r4, r5⟩ := hR
  refine ⟨by show 3 ≤ h.1.1 + 1; omega, by show H1.size + 3 = b0 + (h.1.1 + 1); omega, fun k hk => ?_, fun k h3 hk => ?_, fun k hk => ?_⟩
  · have hk' : h.1.1 + 1 ≤ k := hk
    show (upr h.1.2.2 h.1.1 q k).1 = 99
    rw [upr_ne (by omega)]
    exact r3 k (by omega)
  · have hk' : k < h.1.1 + 1 := hk
    by_cases e : k = h.1.1
    · subst e
      have : ad h.1.1 = H.size := by rw [hA3 _ h3]; omega
      rw [this]
      exact ⟨by show (upr h.1.2.2 h.1.1 q h.1.1).1 ≠ 6; rw [upr_at]; exact hq6, hat⟩
    · have hk2 : k < h.1.1 := by omega
      refine ⟨by show (upr h.1.2.2 h.1.1 q k).1 ≠ 6; rw [upr_ne e]; exact (r4 k h3 hk2).1, ?_⟩
      rw [ts_e_congr (h := h) (upr_ne e) (upr_ne e) (upr_ne e) (upr_ne e)]
      refine (r4 k h3 hk2).2.kept (o1 _ ?_)
      show ad k < H.size
      rw [hA3 k h3]
      omega
  · have e : k ≠ h.1.1 := by omega
    exact ts_S_congr (h := h) (upr_ne e) (upr_ne e) (fun x hx => o1 x (by omega)) (r5 k hk)
end
section
section TSH
variable {p : Program} {l : Launch} {e : Env} {R : Room} {s : State} {m : MethodId} {args : Array Value} {below : List Frame} {meth : Method} {c : Code} {H : Heap} {locs : List Loc} {cells slots : Nat} {Q : State → Prop}
variable {cc : ByteArray} {pc : Nat} {la : Array Slot} {rest : List Value} {b0 : Nat} {ad : Nat → Nat} {D : va_G} {cA : Nat → ClassId} {h : tm_H} {a : Nat} {own : String} {Ts : List Jvm.Cond}
theorem ts_P1 {cl : List vw_C} {q : Nat × va_E} (hq : va_at D cl q H) : va_P D cl [q] H := by
  intro k r hk
  have h0 : k < 1 := (List.getElem?_eq_some_iff.mp hk).1
  rw [show k = 0 by omega] at hk
  cases hk
  exact hq
theorem ts_in {v : Int32} {n : Nat} (hv : tm_in v n) : vp_in v n := vp_in_iff.mpr hv
theorem ts_obj {ci : Nat} (hR : ts_R b0 ad D cA h s H) (hsh : h.1.2.2 a = (0, ci)) : 3 ≤ a ∧ va_at D ts_cl (ad a, .inr (ci, ts_fs ad ci a h)) H := by
  have h3 : 3 ≤ a := hR.ge3 (by simp [hsh])
  have hlt : a < h.1.1 := hR.lt (by simp [hsh])
  have hat := (hR.2.2.2.1 a h3 hlt).2
  have e1 : ts_e ad cA h a = .inr (ci, ts_fs ad ci a h) := by simp [ts_e, hsh]
  rw [e1] at hat
  exact ⟨h3, hat⟩
theorem ts_get {w ci f t : Nat} {C : String} {T : u_T} {N : Nat} (hx : p.tables.exec = Jvm.exec) (hb : c.code = cc) (hts : ∀ w ∈ Ts, w.before args s = true) (hin : ∀ w ∈ u_ws C T N, w ∈ Ts) (hown : s.vm.findClass own = some m.cls) (hK : va_K D ts_cl (ts_tys cA) s) (hR : ts_R b0 ad D cA h s H)
    (hc : ts_cl[ci]? = some (C, T, N)) (hf : f < N) (ht : ts_kd (ts_ty ci f) = t) (hlink : (Cond.fieldLink own w (T f).1 (T f).2.1 (T f).2.2.1).before args s = true ∨ ∃ host, (Cond.fieldLinkNest own w (T f).1 (T f).2.1 (T f).2.2.1 host).before args s = true) (hd : decode cc pc = .ok (.getfield w, 3)) (hsh : h.1.2.2 a = (0, ci))
    (kk : W p l e R s m args below meth c H locs cells slots Q (F0 m (pc + 3) la (ts_v ad (tm_fv t a f h) :: rest))) : W p l e R s m args below meth c H locs cells slots Q (F0 m pc la (.ref (ad a) :: rest)) := by
  obtain ⟨h3, hat⟩ := ts_obj hR hsh
  have hN : f < ts_N ci := by unfold ts_N; rw [hc]; exact hf
  subst ht
  rcases hlink with hl | ⟨host, hl⟩
  · exact va_get hx hb hts hin hown hK (ts_P1 hat) 0 rfl hc f hf hl (fun _ h9 => h9) (ts_fs_get hN) hd kk
  · exact va_getN hx hb hts hin hown hK (ts_P1 hat) 0 rfl hc f hf hl (fun _ h9 => h9) (ts_fs_get hN) hd kk
/-- a field is written: its cell alone changes -/
theorem ts_wput {w ci f : Nat} {C : String} {T : u_T} {N : Nat} {v : Value} {fs : List Value} {a : Nat} (hx : p.tables.exec = Jvm.exec) (hb : c.code = cc) (hts : ∀ w ∈ Ts, w.before args s = true) (hin : ∀ w ∈ u_ws C T N, w ∈ Ts) (ty0 : Nat → FieldType) (hty : ∀ k, k < N → parseFieldDescriptor (T k).2.2.1 = some (ty0 k)) (hnm : ∀ a, a < N → ∀ b, b < N → a ≠ b → (T a).2.1 ≠ (T b).2.1) (hown : s.vm.findClass own = some m.cls) (hK : va_K D ts_cl (ts_tys cA) s) (hat : va_at D ts_cl (a, .inr (ci, fs)) H)
    (hc : ts_cl[ci]? = some (C, T, N)) (hf : f < N) (hlen : f < fs.length) (hlink : (Cond.fieldLink own w (T f).1 (T f).2.1 (T f).2.2.1).before args s = true) (hfin : (T f).2.2.2 = false ∨ ((T f).2.2.2 = true ∧ meth.name = "<init>" ∧ (T f).1 = own)) (hn : narrow (ty0 f) v = v) (hfit : fits (ty0 f) v = true) (hd : decode cc pc = .ok (.putfield w, 3))
    (kk : ∀ (H1 : Heap) (k9 : Nat), va_at D ts_cl (a, .inr (ci, fs.set f v)) H1 → H1.size = H.size → (∀ q, q ≠ a → H1[q]? = H[q]?) → W p l e R s m args below meth c H1 (locs ++ [⟨a, k9⟩]) cells slots Q (F0 m (pc + 3) la rest)) : W p l e R s m args below meth c H locs cells slots Q (F0 m pc la (v :: .ref a :: rest)) := by
  have hap := va_apart (own := own) hts hin ty0 hty hnm hK hc
  obtain ⟨r, h1, cell, q1, q2, q3, q4⟩ := hat
  have hr : r = (C, T, N) := Option.some.inj (h1.symm.trans hc)
  subst hr
  obtain ⟨hS, hfc, kC, hkC, hkind⟩ := hK.1 ci _ hc
  obtain ⟨cf, kf, fi, fd, hi, hsl⟩ := hS f hf
  have hlay := hts _ (hin _ (u_in_lay hf))
  unfold u_lay at hlay
  have hst := (u_facts hfc hkC (u_lays hts hin hf) hi).1
  have hty' := hty f hf
  rcases hfin with hfin | ⟨hfin, hini, hdecl⟩
  · rw [if_neg (by rw [hfin]; decide)] at hlay
    have h6 := u_store hfc hkC hkind hlay hi hty' hn hfit
    refine W.putK hx hb (f := fd) ⟨hown, hlink, ⟨_, _, _, hi⟩, hst⟩ (by rw [q2]; exact h6) q1 q3 (by rw [hsl]; exact k2_hasslot (q4 f hf)) rfl rfl hd fun H' e1 e2 e3 => ?_
    rw [hsl] at e1 ⊢
    exact kk H' _ ⟨_, hc, t_OB.to (V := updV (vp_V fs) f v) ⟨_, e1, q2, q3, t_set q4 hap hf v⟩ (fun j _ => vp_updV_set hlen v j)⟩ e2 e3
  · rw [if_pos hfin] at hlay
    have hcf : m.cls = cf := by
      obtain ⟨_, _, c', _, _, _, -, -, hf', -, -, -, hown2, -⟩ := Cond.laysFinal_spec hlay
      have e1 : c' = cf := by have := hi.symm.trans hf'; simp at this; exact this.1.symm
      rw [hdecl] at hown2
      rw [← e1]; exact Option.some.inj (hown.symm.trans hown2)
    have h6 := u_fits hfc hkC hkind (Or.inr hlay) hi hty' hn hfit
    refine W.putFinK hx hb hown hlink hi hst hcf hini (by rw [q2]; exact h6) q1 q3 (by rw [hsl]; exact k2_hasslot (q4 f hf)) rfl rfl hd fun H' e1 e2 e3 => ?_
    rw [hsl] at e1 ⊢
    exact kk H' _ ⟨_, hc, t_OB.to (V := updV (vp_V fs) f v) ⟨_, e1, q2, q3, t_set q4 hap hf v⟩ (fun j _ => vp_updV_set hlen v j)⟩ e2 e3
/-- what a step that writes leaves of the heap's frame -/
theorem ts_Sput {H0 H1 : Heap} {k9 : Nat} (hA3 : ∀ k, 3 ≤ k → ad k = b0 + (k - 3)) (h3 : 3 ≤ a) (hS : va_S (fun q => b0 ≤ q) H0 H locs) (z : H1.size = H.size) (oq : ∀ q : Nat, q ≠ ad a → H1[q]? = H[q]?) : va_S (fun q => b0 ≤ q) H0 H1 (locs ++ [⟨ad a, k9⟩]) :=
  hS.put z oq (by show b0 ≤ ad a; rw [hA3 a h3]; omega)
theorem ts_put {w ci f : Nat} {C : String} {T : u_T} {N : Nat} {v : Value} {h' : tm_H} (hA3 : ∀ k, 3 ≤ k → ad k = b0 + (k - 3)) (hx : p.tables.exec = Jvm.exec) (hb : c.code = cc) (hts : ∀ w ∈ Ts, w.before args s = true) (hin : ∀ w ∈ u_ws C T N, w ∈ Ts) (hty : ∀ k, k < N → parseFieldDescriptor (T k).2.2.1 = some (ts_ty ci k)) (hnm : ∀ a, a < N → ∀ b, b < N → a ≠ b → (T a).2.1 ≠ (T b).2.1) (hown : s.vm.findClass own = some m.cls) (hK : va_K D ts_cl (ts_tys cA) s) (hR : ts_R b0 ad D cA h s H) (hS : va_S (fun q => b0 ≤ q) s.heap H locs)
    (hc : ts_cl[ci]? = some (C, T, N)) (hf : f < N) (hlink : (Cond.fieldLink own w (T f).1 (T f).2.1 (T f).2.2.1).before args s = true) (hfin : (T f).2.2.2 = false ∨ ((T f).2.2.2 = true ∧ meth.name = "<init>" ∧ (T f).1 = own)) (hn : narrow (ts_ty ci f) (ts_v ad v) = ts_v ad v) (hfit : fits (ts_ty ci f) (ts_v ad v) = true) (hd : decode cc pc = .ok (.putfield w, 3)) (hsh : h.1.2.2 a = (0, ci))
    (eG : h'.1 = h.1) (e1 : ∀ k, k ≠ a → h'.2.1 k = h.2.1 k) (e2 : ∀ k, k ≠ a → h'.2.2.1 k = h.2.2.1 k) (e3 : ∀ k, k ≠ a → h'.2.2.2 k = h.2.2.2 k) (hv : tm_fv (ts_kd (ts_ty ci f)) a f h' = v) (ho : ∀ g, g ≠ f → tm_fv (ts_kd (ts_ty ci g)) a g h' = tm_fv (ts_kd (ts_ty ci g)) a g h)
    (kk : ∀ (H1 : Heap) (locs1 : List Loc), ts_R b0 ad D cA h' s H1 → va_S (fun q => b0 ≤ q) s.heap H1 locs1 → W p l e R s m args below meth c H1 locs1 cells slots Q (F0 m (pc + 3) la rest)) : W p l e R s m args below meth c H locs cells slots Q (F0 m pc la (ts_v ad v :: .ref (ad a) :: rest)) := by
  obtain ⟨h3, hat⟩ := ts_obj hR hsh
  have hN : f < ts_N ci := by unfold ts_N; rw [hc]; exact hf
  refine ts_wput hx hb hts hin (ts_ty ci) hty hnm hown hK hat hc hf (by rw [ts_fs_len]; exact hN) hlink hfin hn hfit hd (fun H1 k9 hat1 z oq => ?_)
  refine kk H1 _ (hR.set hA3 h3 eG e1 e2 e3 z oq ?_) (ts_Sput hA3 h3 hS z oq)
  have e9 : ts_e ad cA h' a = .inr (ci, ts_fs ad ci a h') := by simp [ts_e, eG, hsh]
  rw [e9, ts_fs_set (h := h) hN (by rw [hv]) ho]
  exact hat1
/-- an array among the new cells -/
theorem ts_arr {q n : Nat} (hR : ts_R b0 ad D cA h s H) (hsh : h.1.2.2 a = (q, n)) (hq : q ≠ 99) (h3 : 3 ≤ a) : va_at D ts_cl (ad a, ts_e ad cA h a) H := (hR.2.2.2.1 a h3 (hR.lt (by rw [hsh]; exact hq))).2
theorem ts_iald {v : Int32} (hx : p.tables.exec = Jvm.exec) (hb : c.code = cc) (hK : va_K D ts_cl (ts_tys cA) s) (hR : ts_R b0 ad D cA h s H) (hd : decode cc pc = .ok (.iaload, 1)) (hsh : (h.1.2.2 a).1 = 1) (hi : tm_in v (h.1.2.2 a).2)
    (kk : W p l e R s m args below meth c H locs cells slots Q (F0 m (pc + 1) la (.int (h.2.1 a (tm_ix v)) :: rest))) : W p l e R s m args below meth c H locs cells slots Q (F0 m pc la (.int v :: .ref (ad a) :: rest)) := by
  rcases Nat.lt_or_ge a 3 with q | q
  · obtain ⟨h1, h2, cell, h3, h4, h5, h6, h7, h8⟩ := hR.2.2.2.2 a q
    rw [if_pos hsh] at h4
    have hvi := ts_in hi
    have hlt : v.toNatClampNeg < (h.1.2.2 a).2 := Nat.not_le.mp fun z => hvi (Or.inr z)
    exact W.iald (v := .int (h.2.1 a (tm_ix v))) hx hb h3 h4 h5 (fun z => hvi (z.imp id (fun z => Nat.le_trans h6 z))) (h8 _ hlt) rfl rfl hd kk
  · have hat := ts_arr (q := 1) (n := (h.1.2.2 a).2) hR (Prod.ext hsh rfl) (by decide) q
    have e1 : ts_e ad cA h a = .inl (cA 1, (h.1.2.2 a).2, .inl (h.2.1 a)) := by simp [ts_e, hsh]
    rw [e1] at hat
    exact va_iald hx hb hK (ts_P1 hat) 0 0 rfl rfl (ts_in hi) hd kk
theorem ts_cald {v : Int32} (hx : p.tables.exec = Jvm.exec) (hb : c.code = cc) (hR : ts_R b0 ad D cA h s H) (hd : decode cc pc = .ok (.caload, 1)) (hsh : (h.1.2.2 a).1 = 6) (hi : tm_in v (h.1.2.2 a).2)
    (kk : W p l e R s m args below meth c H locs cells slots Q (F0 m (pc + 1) la (.int (h.2.1 a (tm_ix v)) :: rest))) : W p l e R s m args below meth c H locs cells slots Q (F0 m pc la (.int v :: .ref (ad a) :: rest)) := by
  have h3 : a < 3 := by
    rcases Nat.lt_or_ge a 3 with q | q
    · exact q
    · exact absurd hsh (hR.2.2.2.1 a q (hR.lt (by rw [hsh]; decide))).1
  obtain ⟨h1, h2, cell, h3, h4, h5, h6, h7, h8⟩ := hR.2.2.2.2 a h3
  rw [if_neg (by rw [hsh]; decide)] at h4
  have hvi := ts_in hi
  have hlt : v.toNatClampNeg < (h.1.2.2 a).2 := Nat.not_le.mp fun z => hvi (Or.inr z)
  exact W.cald (v := .int (h.2.1 a (tm_ix v))) hx hb h3 h4 h5 (fun z => hvi (z.imp id (fun z => Nat.le_trans h6 z))) (h8 _ hlt) rfl rfl hd kk
theorem ts_alen (hx : p.tables.exec = Jvm.exec) (hb : c.code = cc) (hK : va_K D ts_cl (ts_tys cA) s) (hR : ts_R b0 ad D cA h s H) (hd : decode cc pc = .ok (.arraylength, 1)) (hsh : (h.1.2.2 a).1 = 1)
    (kk : W p l e R s m args below meth c H locs cells slots Q (F0 m (pc + 1) la (.int (Int32.ofNat (h.1.2.2 a).2) :: rest))) : W p l e R s m args below meth c H locs cells slots Q (F0 m pc la (.ref (ad a) :: rest)) := by
  rcases Nat.lt_or_ge a 3 with q | q
  · obtain ⟨h1, h2, cell, h3, h4, h5, h6, h7, h8⟩ := hR.2.2.2.2 a q
    exact W.alen hx hb h3 h4 h7 rfl rfl hd kk
  · have hat := ts_arr (q := 1) (n := (h.1.2.2 a).2) hR (Prod.ext hsh rfl) (by decide) q
    have e1 : ts_e ad cA h a = .inl (cA 1, (h.1.2.2 a).2, .inl (h.2.1 a)) := by simp [ts_e, hsh]
    rw [e1] at hat
    exact va_alen hx hb hK (ts_P1 hat) 0 0 rfl rfl rfl hd kk
theorem ts_lald {v : Int32} (hx : p.tables.exec = Jvm.exec) (hb : c.code = cc) (hK : va_K D ts_cl (ts_tys cA) s) (hR : ts_R b0 ad D cA h s H) (hd : decode cc pc = .ok (.laload, 1)) (hsh : (h.1.2.2 a).1 = 2) (hi : tm_in v (h.1.2.2 a).2)
    (kk : W p l e R s m args below meth c H locs cells slots Q (F0 m (pc + 1) la (.long (h.2.2.1 a (tm_ix v)) :: rest))) : W p l e R s m args below meth c H locs cells slots Q (F0 m pc la (.int v :: .ref (ad a) :: rest)) := by
  have hat := ts_arr (q := 2) (n := (h.1.2.2 a).2) hR (Prod.ext hsh rfl) (by decide) (hR.ge3 (by rw [hsh]; decide))
  have e1 : ts_e ad cA h a = .inl (cA 2, (h.1.2.2 a).2, .inr (.inl (h.2.2.1 a))) := by simp [ts_e, hsh]
  rw [e1] at hat
  exact va_lald hx hb hK (ts_P1 hat) 0 1 rfl rfl (ts_in hi) hd kk
theorem ts_aald {v : Int32} (hx : p.tables.exec = Jvm.exec) (hb : c.code = cc) (hK : va_K D ts_cl (ts_tys cA) s) (hR : ts_R b0 ad D cA h s H) (hd : decode cc pc = .ok (.aaload, 1)) (hsh : (h.1.2.2 a).1 = 3 ∨ (h.1.2.2 a).1 = 4 ∨ (h.1.2.2 a).1 = 5) (hi : tm_in v (h.1.2.2 a).2)
    (kk : W p l e R s m args below meth c H locs cells slots Q (F0 m (pc + 1) la (ts_v ad (tm_rf (h.2.2.2 a (tm_ix v))) :: rest))) : W p l e R s m args below meth c H locs cells slots Q (F0 m pc la (.int v :: .ref (ad a) :: rest)) := by
  have hvi := ts_in hi
  have hlt : v.toNatClampNeg < (h.1.2.2 a).2 := Nat.not_le.mp fun z => hvi (Or.inr z)
  have hne : (h.1.2.2 a).1 ≠ 99 := by rcases hsh with q | q | q <;> rw [q] <;> decide
  have hat := ts_arr (q := (h.1.2.2 a).1) (n := (h.1.2.2 a).2) hR rfl hne (hR.ge3 (by rcases hsh with q | q | q <;> rw [q] <;> decide))
  have e1 : ts_e ad cA h a = .inl (cA (h.1.2.2 a).1, (h.1.2.2 a).2, .inr (.inr (.inr (.inr (fun i => (h.2.2.2 a i).map ad))))) := by rcases hsh with q | q | q <;> simp [ts_e, q]
  rw [e1] at hat
  have hty : ∃ ty : FieldType, ty.isReference = true ∧ ArrOfT s (cA (h.1.2.2 a).1) ty := by
    rcases hsh with q | q | q <;> rw [q]
    · exact ⟨.array .int, rfl, (hK.2 2 _ rfl).1⟩
    · exact ⟨.object "TidingsDesk$Telling", rfl, (hK.2 3 _ rfl).1⟩
    · exact ⟨.object "TidingsDesk$Facts", rfl, (hK.2 4 _ rfl).1⟩
  obtain ⟨ty, ht1, ht2⟩ := hty
  refine W.aald (v := ts_v ad (tm_rf (h.2.2.2 a (tm_ix v)))) (ty := ty) hx hb hat (ht2 _ (fun j => va_rf ((h.2.2.2 a j).map ad))) ht1 (fun q => by cases q) (by show ¬ (v < 0 ∨ (arrV _ _ _).slots.size ≤ _); rw [arrV_size]; exact hvi) (by show (arrV _ _ _).slots[_]? = _; rw [arrV_read _ _ hlt, ts_rf]; rfl) rfl rfl hd kk
theorem ts_iast {v u : Int32} (hA3 : ∀ k, 3 ≤ k → ad k = b0 + (k - 3)) (hx : p.tables.exec = Jvm.exec) (hb : c.code = cc) (hK : va_K D ts_cl (ts_tys cA) s) (hR : ts_R b0 ad D cA h s H) (hS : va_S (fun q => b0 ≤ q) s.heap H locs) (hd : decode cc pc = .ok (.iastore, 1)) (h3 : 3 ≤ a) (hsh : (h.1.2.2 a).1 = 1) (hi : tm_in v (h.1.2.2 a).2)
    (kk : ∀ (H1 : Heap) (locs1 : List Loc), ts_R b0 ad D cA (h.1, up2 h.2.1 a (tm_ix v) u, h.2.2.1, h.2.2.2) s H1 → va_S (fun q => b0 ≤ q) s.heap H1 locs1 → W p l e R s m args below meth c H1 locs1 cells slots Q (F0 m (pc + 1) la rest)) : W p l e R s m args below meth c H locs cells slots Q (F0 m pc la (.int u :: .int v :: .ref (ad a) :: rest)) := by
  have hat := ts_arr (q := 1) (n := (h.1.2.2 a).2) hR (Prod.ext hsh rfl) (by decide) h3
  have e1 : ts_e ad cA h a = .inl (cA 1, (h.1.2.2 a).2, .inl (h.2.1 a)) := by simp [ts_e, hsh]
  rw [e1] at hat
  refine W.iast hx hb hat ((hK.2 0 _ rfl).1 _ (fun j => .int (h.2.1 a j))) (fun q => by cases q) (by show ¬ (v < 0 ∨ (arrV _ _ _).slots.size ≤ _); rw [arrV_size]; exact ts_in hi) rfl rfl hd fun H1 e9 z oq => ?_
  refine kk H1 _ (hR.set hA3 h3 rfl (fun k hk => up2_row hk) (fun _ _ => rfl) (fun _ _ => rfl) z oq ?_) (ts_Sput hA3 h3 hS z oq)
  have e2 : ts_e ad cA (h.1, up2 h.2.1 a (tm_ix v) u, h.2.2.1, h.2.2.2) a = .inl (cA 1, (h.1.2.2 a).2, .inl (up2 h.2.1 a (tm_ix v) u a)) := by simp [ts_e, hsh]
  rw [e2]
  show H1[ad a]? = some (vp_cell _ _)
  rw [e9, vp_cell_i, vp_cell_i, arrV_store]
  congr 2
  funext q
  have ei : v.toNatClampNeg = tm_ix v := rfl
  by_cases hq : q = tm_ix v
  · subst hq
    simp [updV, up2, ei]
  · simp [updV, up2, hq, ei]
theorem ts_last {v : Int32} {u : Int64} (hA3 : ∀ k, 3 ≤ k → ad k = b0 + (k - 3)) (hx : p.tables.exec = Jvm.exec) (hb : c.code = cc) (hK : va_K D ts_cl (ts_tys cA) s) (hR : ts_R b0 ad D cA h s H) (hS : va_S (fun q => b0 ≤ q) s.heap H locs) (hd : decode cc pc = .ok (.lastore, 1)) (h3 : 3 ≤ a) (hsh : (h.1.2.2 a).1 = 2) (hi : tm_in v (h.1.2.2 a).2)
    (kk : ∀ (H1 : Heap) (locs1 : List Loc), ts_R b0 ad D cA (h.1, h.2.1, up2 h.2.2.1 a (tm_ix v) u, h.2.2.2) s H1 → va_S (fun q => b0 ≤ q) s.heap H1 locs1 → W p l e R s m args below meth c H1 locs1 cells slots Q (F0 m (pc + 1) la rest)) : W p l e R s m args below meth c H locs cells slots Q (F0 m pc la (.long u :: .int v :: .ref (ad a) :: rest)) := by
  have hat := ts_arr (q := 2) (n := (h.1.2.2 a).2) hR (Prod.ext hsh rfl) (by decide) h3
  have e1 : ts_e ad cA h a = .inl (cA 2, (h.1.2.2 a).2, .inr (.inl (h.2.2.1 a))) := by simp [ts_e, hsh]
  rw [e1] at hat
  refine W.last hx hb hat ((hK.2 1 _ rfl).1 _ (fun j => .long (h.2.2.1 a j))) (fun q => by cases q) (by show ¬ (v < 0 ∨ (arrV _ _ _).slots.size ≤ _); rw [arrV_size]; exact ts_in hi) rfl rfl hd fun H1 e9 z oq => ?_
  refine kk H1 _ (hR.set hA3 h3 rfl (fun _ _ => rfl) (fun k hk => up2_row hk) (fun _ _ => rfl) z oq ?_) (ts_Sput hA3 h3 hS z oq)
  have e2 : ts_e ad cA (h.1, h.2.1, up2 h.2.2.1 a (tm_ix v) u, h.2.2.2) a = .inl (cA 2, (h.1.2.2 a).2, .inr (.inl (up2 h.2.2.1 a (tm_ix v) u a))) := by simp [ts_e, hsh]
  rw [e2]
  show H1[ad a]? = some (vp_cell _ _)
  rw [e9, vp_cell_l, vp_cell_l, arrV_store]
  congr 2
  funext q
  have ei : v.toNatClampNeg = tm_ix v := rfl
  by_cases hq : q = tm_ix v
  · subst hq
    simp [updV, up2, ei]
  · simp [updV, up2, hq, ei]
theorem ts_aast {v : Int32} {u t0 ci : Nat} {r : vw_C} (hA3 : ∀ k, 3 ≤ k → ad k = b0 + (k - 3)) (hx : p.tables.exec = Jvm.exec) (hb : c.code = cc) (hK : va_K D ts_cl (ts_tys cA) s) (hR : ts_R b0 ad D cA h s H) (hS : va_S (fun q => b0 ≤ q) s.heap H locs) (hd : decode cc pc = .ok (.aastore, 1)) (h3 : 3 ≤ a) (hsh : (h.1.2.2 a).1 = 4 ∨ (h.1.2.2 a).1 = 5) (hsu : h.1.2.2 u = (0, ci)) (hc : ts_cl[ci]? = some r) (ht : (ts_tys cA)[t0]? = some (cA (h.1.2.2 a).1, .object r.1)) (hi : tm_in v (h.1.2.2 a).2)
    (kk : ∀ (H1 : Heap) (locs1 : List Loc), ts_R b0 ad D cA (h.1, h.2.1, h.2.2.1, up2 h.2.2.2 a (tm_ix v) (some u)) s H1 → va_S (fun q => b0 ≤ q) s.heap H1 locs1 → W p l e R s m args below meth c H1 locs1 cells slots Q (F0 m (pc + 1) la rest)) : W p l e R s m args below meth c H locs cells slots Q (F0 m pc la (.ref (ad u) :: .int v :: .ref (ad a) :: rest)) := by
  have hvi := ts_in hi
  have hlt : v.toNatClampNeg < (h.1.2.2 a).2 := Nat.not_le.mp fun z => hvi (Or.inr z)
  have h0 : ¬ v < 0 := fun q => hvi (Or.inl q)
  have hne : (h.1.2.2 a).1 ≠ 99 := by rcases hsh with q | q <;> rw [q] <;> decide
  have hat := ts_arr (q := (h.1.2.2 a).1) (n := (h.1.2.2 a).2) hR rfl hne h3
  have e1 : ∀ h' : tm_H, h'.1 = h.1 → ts_e ad cA h' a = .inl (cA (h.1.2.2 a).1, (h.1.2.2 a).2, .inr (.inr (.inr (.inr (fun i => (h'.2.2.2 a i).map ad))))) := fun h' e => by rcases hsh with q | q <;> simp [ts_e, e, q]
  rw [e1 h rfl] at hat
  obtain ⟨-, r', hr', cellV, g1, g2, g3, -⟩ := ts_obj hR hsu
  have hcls := (hK.1 ci r hc).2
  obtain ⟨kA, comp, k1, k2, k3, -⟩ := (hK.2 t0 _ ht).2
  have hcomp : comp = D.1 ci := Option.some.inj (k3.symm.trans hcls.1)
  subst hcomp
  obtain ⟨kC, hkC, -⟩ := hcls.2
  refine W.aast hx hb hat (fun q h => by cases h) (fun h => by cases h) k1 k2 rfl hkC ⟨h0, by show _ < (arrV _ _ _).slots.size; rw [arrV_size]; exact hlt⟩ g1 (fun q h => by rw [g3] at h; cases h) (by rw [g2]; exact hkC) (by rw [g2]; exact va_assign hcls) rfl rfl hd fun H1 e9 z oq => ?_
  refine kk H1 _ (hR.set hA3 h3 rfl (fun _ _ => rfl) (fun _ _ => rfl) (fun k hk => up2_row hk) z oq ?_) (ts_Sput hA3 h3 hS z oq)
  rw [e1 (h.1, h.2.1, h.2.2.1, up2 h.2.2.2 a (tm_ix v) (some u)) rfl]
  show H1[ad a]? = some (vp_cell _ _)
  rw [e9, vp_cell_q, vp_cell_q, arrV_store]
  congr 2
  funext q
  have ei : v.toNatClampNeg = tm_ix v := rfl
  by_cases hq : q = tm_ix v
  · subst hq
    simp [updV, up2, va_rf, ei]
  · simp [updV, up2, hq, ei]
end TSH
end
section
section TSN
variable {p : Program} {l : Launch} {e : Env} {R : Room} {s : State} {m : MethodId} {args : Array Value} {below : List Frame} {meth : Method} {c : Code} {H : Heap} {locs : List Loc} {cells slots : Nat} {Q : State → Prop}
variable {cc : ByteArray} {pc : Nat} {la : Array Slot} {rest : List Value} {b0 : Nat} {ad : Nat → Nat} {D : va_G} {cA : Nat → ClassId} {h : tm_H} {a : Nat} {own : String} {Ts : List Jvm.Cond}
theorem ts_nw_at {q : Nat × Nat} {n : Nat} : (tm_nw q n h).1.2.2 h.1.1 = q ∧ (tm_nw q n h).2.1 h.1.1 = (fun _ => 0) ∧ (tm_nw q n h).2.2.1 h.1.1 = (fun _ => 0) ∧ (tm_nw q n h).2.2.2 h.1.1 = (fun _ => none) := ⟨upr_at, upr_at, upr_at, upr_at⟩
theorem ts_Spush {H0 H1 : Heap} (hS : va_S (fun q => b0 ≤ q) H0 H locs) (z : H1.size = H.size + 1) (o1 : ∀ q : Nat, q < H.size → H1[q]? = H[q]?) : va_S (fun q => b0 ≤ q) H0 H1 locs :=
  ⟨Nat.le_trans hS.1 (by omega), fun x h1 h2 => (o1 x (Nat.lt_of_lt_of_le h1 hS.1)).trans (hS.2.1 x h1 h2), hS.2.2⟩
theorem ts_size (hA3 : ∀ k, 3 ≤ k → ad k = b0 + (k - 3)) (hR : ts_R b0 ad D cA h s H) : H.size = ad h.1.1 := by
  rw [hA3 _ hR.1]
  have := hR.2.1
  have := hR.1
  omega
theorem ts_def (ad : Nat → Nat) (t : FieldType) (k f : Nat) (h : tm_H) (ht : ts_kd t ≠ 9) (e1 : h.2.1 k = fun _ => 0) (e2 : h.2.2.1 k = fun _ => 0) (e3 : h.2.2.2 k = fun _ => none) : defaultValue t = ts_v ad (tm_fv (ts_kd t) k f h) := by
  unfold tm_fv
  rw [e1, e2, e3]
  cases t <;> first | rfl | exact absurd rfl ht
theorem ts_new {w ci : Nat} {C : String} {T : u_T} {N : Nat} (hA3 : ∀ k, 3 ≤ k → ad k = b0 + (k - 3)) (hx : p.tables.exec = Jvm.exec) (hb : c.code = cc) (hts : ∀ w ∈ Ts, w.before args s = true) (hin : ∀ w ∈ u_ws C T N, w ∈ Ts) (hty : ∀ k, k < N → parseFieldDescriptor (T k).2.2.1 = some (ts_ty ci k)) (hkd : ∀ k, k < N → ts_kd (ts_ty ci k) ≠ 9) (hown : s.vm.findClass own = some m.cls) (hcl : (Cond.classLink own w C).before args s = true) (hinst : (Cond.instantiable C N).before args s = true) (hini : (Cond.initialized C).before args s = true)
    (hK : va_K D ts_cl (ts_tys cA) s) (hR : ts_R b0 ad D cA h s H) (hS : va_S (fun q => b0 ≤ q) s.heap H locs) (hc : ts_cl[ci]? = some (C, T, N)) (hcells : cells + 1 ≤ R.cells) (hslots : slots + N ≤ R.slots) (hd : decode cc pc = .ok (.new w, 3))
    (kk : ∀ (H1 : Heap), ts_R b0 ad D cA (tm_nw (0, ci) N h) s H1 → va_S (fun q => b0 ≤ q) s.heap H1 locs → W p l e R s m args below meth c H1 locs (cells + 1) (slots + N) Q (F0 m (pc + 3) la (.ref (ad h.1.1) :: rest))) : W p l e R s m args below meth c H locs cells slots Q (F0 m pc la rest) := by
  have hKn := hK.1 ci _ hc
  refine W.newcK hx hb hown hcl hinst hini rfl hd hcells hslots hKn.2.1 rfl fun H1 kC hkC e1 z1 o1 => ?_
  obtain ⟨n1, n2, n3, n4⟩ := ts_nw_at (h := h) (q := (0, ci)) (n := N)
  rw [ts_size hA3 hR]
  refine kk H1 (hR.push hA3 (by simp) z1 o1 ?_) (ts_Spush hS z1 o1)
  have e9 : ts_e ad cA (tm_nw (0, ci) N h) h.1.1 = .inr (ci, ts_fs ad ci h.1.1 (tm_nw (0, ci) N h)) := by simp [ts_e, n1]
  rw [e9]
  refine ⟨_, hc, (u_born (ts_ty ci) hts hin hKn hkC e1 hty).to (fun j hj => ?_)⟩
  have hN : j < ts_N ci := by unfold ts_N; rw [hc]; exact hj
  show _ = vp_V _ j
  unfold vp_V
  rw [List.getD_eq_getElem?_getD, ts_fs_get hN]
  exact ts_def ad (ts_ty ci j) h.1.1 j _ (hkd j hj) n2 n3 n4
theorem ts_newa {t : ArrayType} {v : Int32} {q t0 : Nat} (hA3 : ∀ k, 3 ≤ k → ad k = b0 + (k - 3)) (hx : p.tables.exec = Jvm.exec) (hb : c.code = cc) (harr : (Cond.arrayClass (newarray.typeOf t)).before args s = true) (hq : (t = .int ∧ q = 1 ∧ t0 = 0) ∨ (t = .long ∧ q = 2 ∧ t0 = 1))
    (hK : va_K D ts_cl (ts_tys cA) s) (hR : ts_R b0 ad D cA h s H) (hS : va_S (fun q => b0 ≤ q) s.heap H locs) (hv : ¬ v < 0 ∧ (tm_ix v) ≤ 100000) (hcells : cells + 1 ≤ R.cells) (hslots : slots + (tm_ix v) ≤ R.slots) (hd : decode cc pc = .ok (.newarray t, 2))
    (kk : ∀ (H1 : Heap), ts_R b0 ad D cA (tm_nw (q, (tm_ix v)) (tm_ix v) h) s H1 → va_S (fun q => b0 ≤ q) s.heap H1 locs → W p l e R s m args below meth c H1 locs (cells + 1) (slots + (tm_ix v)) Q (F0 m (pc + 2) la (.ref (ad h.1.1) :: rest))) : W p l e R s m args below meth c H locs cells slots Q (F0 m pc la (.int v :: rest)) := by
  obtain ⟨n1, n2, n3, n4⟩ := ts_nw_at (h := h) (q := (q, (tm_ix v))) (n := (tm_ix v))
  refine va_newaK hx hb harr rfl hd rfl hv.1 rfl ?_ hcells hslots rfl fun H1 cB e1 z1 o1 hAr hNm => ?_
  · show (tm_ix v) * _ ≤ _
    rcases hq with ⟨rfl, -, -⟩ | ⟨rfl, -, -⟩
    · show (tm_ix v) * 4 ≤ _; omega
    · show (tm_ix v) * 8 ≤ _; omega
  rw [ts_size hA3 hR]
  refine kk H1 (hR.push hA3 (by rcases hq with ⟨-, rfl, -⟩ | ⟨-, rfl, -⟩ <;> simp) z1 o1 ?_) (ts_Spush hS z1 o1)
  rcases hq with ⟨rfl, rfl, rfl⟩ | ⟨rfl, rfl, rfl⟩
  · have e9 : ts_e ad cA (tm_nw (1, (tm_ix v)) (tm_ix v) h) h.1.1 = .inl (cA 1, (tm_ix v), .inl (fun _ => 0)) := by unfold ts_e; rw [n1, n2]; rfl
    have e8 : cB = cA 1 := Option.some.inj (hNm.symm.trans (hK.2 0 _ rfl).2)
    rw [e9, ← e8]
    exact e1
  · have e9 : ts_e ad cA (tm_nw (2, (tm_ix v)) (tm_ix v) h) h.1.1 = .inl (cA 2, (tm_ix v), .inr (.inl (fun _ => 0))) := by unfold ts_e; rw [n1, n3]; rfl
    have e8 : cB = cA 2 := Option.some.inj (hNm.symm.trans (hK.2 1 _ rfl).2)
    rw [e9, ← e8]
    exact e1
theorem ts_anew {w : Nat} {v : Int32} {q t0 : Nat} {C : String} (hA3 : ∀ k, 3 ≤ k → ad k = b0 + (k - 3)) (hx : p.tables.exec = Jvm.exec) (hb : c.code = cc) (hown : s.vm.findClass own = some m.cls) (hcl : (Cond.classLink own w C).before args s = true) (hover : (Cond.arrayOver (.object C)).before args s = true) (hq : q = 4 ∨ q = 5) (ht : (ts_tys cA)[t0]? = some (cA q, .object C))
    (hK : va_K D ts_cl (ts_tys cA) s) (hR : ts_R b0 ad D cA h s H) (hS : va_S (fun q => b0 ≤ q) s.heap H locs) (hv : ¬ v < 0 ∧ (tm_ix v) ≤ 100000) (hcells : cells + 1 ≤ R.cells) (hslots : slots + (tm_ix v) ≤ R.slots) (hd : decode cc pc = .ok (.anewarray w, 3))
    (kk : ∀ (H1 : Heap), ts_R b0 ad D cA (tm_nw (q, (tm_ix v)) (tm_ix v) h) s H1 → va_S (fun q => b0 ≤ q) s.heap H1 locs → W p l e R s m args below meth c H1 locs (cells + 1) (slots + (tm_ix v)) Q (F0 m (pc + 3) la (.ref (ad h.1.1) :: rest))) : W p l e R s m args below meth c H locs cells slots Q (F0 m pc la (.int v :: rest)) := by
  obtain ⟨n1, n2, n3, n4⟩ := ts_nw_at (h := h) (q := (q, (tm_ix v))) (n := (tm_ix v))
  refine W.anew hx hb hown hcl hover rfl hd rfl hv.1 (by show (tm_ix v) * 4 ≤ _; omega) hcells hslots fun cB kA comp f1 f2 f3 f4 => ?_
  generalize hH1 : H.push ({ cls := cB, slots := Array.replicate v.toNatClampNeg .null, vm := .none } : Cell) = H1
  have z1 : H1.size = H.size + 1 := by rw [← hH1, Array.size_push]
  have e1 : H1[H.size]? = some (arrV cB v.toNatClampNeg (fun _ => .null)) := by rw [← hH1, Array.getElem?_push_size, ← arrV_new]
  have o1 : ∀ q : Nat, q < H.size → H1[q]? = H[q]? := fun q hq => by rw [← hH1, Array.getElem?_push, if_neg (Nat.ne_of_lt hq)]
  rw [ts_size hA3 hR]
  refine kk H1 (hR.push hA3 (by rcases hq with rfl | rfl <;> simp) z1 o1 ?_) (ts_Spush hS z1 o1)
  have e9 : ts_e ad cA (tm_nw (q, (tm_ix v)) (tm_ix v) h) h.1.1 = .inl (cA q, (tm_ix v), .inr (.inr (.inr (.inr (fun _ => none))))) := by rcases hq with rfl | rfl <;> (unfold ts_e; rw [n1, n4]; rfl)
  obtain ⟨-, kA', comp', g1, g2, g3, g4⟩ := hK.2 t0 _ ht
  have e8 : cB = cA q := Option.some.inj (f1.symm.trans g4)
  rw [e9, ← e8]
  show H1[H.size]? = some (vp_cell _ _)
  rw [vp_cell_q]
  exact e1
theorem ts_cp {w : Nat} {a a2 : Nat} {n dp sp : Int32} (hA3 : ∀ k, 3 ≤ k → ad k = b0 + (k - 3)) (hx : p.tables.exec = Jvm.exec) (hb : c.code = cc) (hml : c.maxLocals = la.size) (hown : s.vm.findClass own = some m.cls) (hlink : (Cond.methodLink own w arraycopyName).before args s = true) (hnat : (Cond.native arraycopyName).before args s = true) (hstat : (Cond.static arraycopyName).before args s = true) (hini : (Cond.initialized "java/lang/System").before args s = true)
    (hK : va_K D ts_cl (ts_tys cA) s) (hR : ts_R b0 ad D cA h s H) (hS : va_S (fun q => b0 ≤ q) s.heap H locs) (h3 : 3 ≤ a) (h32 : 3 ≤ a2) (hsh : (h.1.2.2 a).1 = 1) (hsh2 : (h.1.2.2 a2).1 = 1) (hsp : ¬ sp < 0) (hdp : ¬ dp < 0) (hn : ¬ n < 0) (h4 : (tm_ix sp) + (tm_ix n) ≤ (h.1.2.2 a2).2) (h5 : (tm_ix dp) + (tm_ix n) ≤ (h.1.2.2 a).2)
    (hframes : 1 ≤ R.frames) (hlocals : (rest.map fun v => v.category).sum + (nativeFrameWords "java/lang/System" "arraycopy" 5 + 11) ≤ R.locals) (hd : decode cc pc = .ok (.invokestatic w, 3))
    (kk : ∀ (H1 : Heap) (locs1 : List Loc), ts_R b0 ad D cA (h.1, upr h.2.1 a (va_cpy (h.2.1 a2) (h.2.1 a) (tm_ix sp) (tm_ix dp) (tm_ix n)), h.2.2.1, h.2.2.2) s H1 → va_S (fun q => b0 ≤ q) s.heap H1 locs1 → W p l e R s m args below meth c H1 locs1 cells slots Q (F0 m (pc + 3) la rest)) : W p l e R s m args below meth c H locs cells slots Q (F0 m pc la (.int n :: .int dp :: .ref (ad a) :: .int sp :: .ref (ad a2) :: rest)) := by
  have nn : ∀ z : Int32, ¬ z < 0 → z.toInt = (z.toNatClampNeg : Int) := by
    intro z hz
    have hz0 : (0 : Int) ≤ z.toInt := by
      have := Int32.not_lt.mp hz
      simpa using Int32.le_iff_toInt_le.mp this
    show z.toInt = (((z.toInt).toNat : Nat) : Int)
    omega
  have hat1 := ts_arr (q := 1) (n := (h.1.2.2 a).2) hR (Prod.ext hsh rfl) (by decide) h3
  have hat0 := ts_arr (q := 1) (n := (h.1.2.2 a2).2) hR (Prod.ext hsh2 rfl) (by decide) h32
  have e1 : ts_e ad cA h a = .inl (cA 1, (h.1.2.2 a).2, .inl (h.2.1 a)) := by simp [ts_e, hsh]
  have e0 : ts_e ad cA h a2 = .inl (cA 1, (h.1.2.2 a2).2, .inl (h.2.1 a2)) := by simp [ts_e, hsh2]
  rw [e1] at hat1
  rw [e0] at hat0
  intro T hT X
  generalize hn0 : (h.1.2.2 a2).2 = n0 at *
  generalize hn1 : (h.1.2.2 a).2 = n1 at *
  generalize hf : h.2.1 a2 = f at *
  generalize hg : h.2.1 a = g at *
  have hc0 : H[ad a2]? = some (vp_cell (cA 1) (n0, .inl f)) := hat0
  have hc1 : H[ad a]? = some (vp_cell (cA 1) (n1, .inl g)) := hat1
  obtain ⟨-, k0, hk0, cm0, hkk0⟩ := (hK.2 0 _ rfl).1 n0 (fun j => .int (f j))
  obtain ⟨-, k1, hk1, cm1, hkk1⟩ := (hK.2 0 _ rfl).1 n1 (fun j => .int (g j))
  have h4' : sp.toNatClampNeg + n.toNatClampNeg ≤ n0 := h4
  have h5' : dp.toNatClampNeg + n.toNatClampNeg ≤ n1 := h5
  obtain ⟨vm', X', step⟩ := X.arraycopy hx hown hlink hnat hstat hini (src := ad a2) (dst := ad a) (cs := vp_cell (cA 1) (n0, .inl f)) (cd := vp_cell (cA 1) (n1, .inl g)) (srcPos := sp) (destPos := dp) (n := n) (by rw [hT]; exact hc0) (by rw [hT]; exact hc1)
    (fun _ h => by cases h) (fun _ h => by cases h) (fun h => by cases h) (fun h => by cases h) hk0 hk1 hkk0 hkk1 (by simp [refKind]) hsp hdp hn
    (by rw [nn sp hsp, nn n hn]; show ¬ _ > ((arrV (cA 1) n0 (fun j => .int (f j))).slots.size : Int); rw [arrV_size]; omega)
    (by rw [nn dp hdp, nn n hn]; show ¬ _ > ((arrV (cA 1) n1 (fun j => .int (g j))).slots.size : Int); rw [arrV_size]; omega)
    (fun vm₁ _ i hi => by
      have e : (vp_cell (cA 1) (n0, .inl f)).slots.getD (sp.toNatClampNeg + i) .null = .int (f (sp.toNatClampNeg + i)) := by
        show (arrV (cA 1) n0 (fun j => .int (f j))).slots.getD _ _ = _
        rw [Array.getD_eq_getD_getElem?, arrV_read _ _ (by omega)]
        rfl
      refine ⟨?_, ?_⟩
      · rw [e]
        rfl
      · rw [e]
        exact trivial)
    (g := F0 m pc la (.int n :: .int dp :: .ref (ad a) :: .int sp :: .ref (ad a2) :: rest)) rfl (by rw [hml]) (rest := rest) rfl (by rw [hb]; exact hd) hframes (by show 2 * 0 + _ + _ ≤ _; omega)
  have e9 : copied (vp_cell (cA 1) (n0, .inl f)) (vp_cell (cA 1) (n1, .inl g)) sp dp n = vp_cell (cA 1) (n1, .inl (va_cpy f g sp.toNatClampNeg dp.toNatClampNeg n.toNatClampNeg)) := va_copied (fun z => .int z) (cA 1) (cA 1) f g h4'
  rw [e9] at X' step
  have hl : ad a < H.size := (Array.getElem?_eq_some_iff.mp hc1).1
  have hheap : ((T.setVm vm').setCell (ad a) (vp_cell (cA 1) (n1, .inl (va_cpy f g sp.toNatClampNeg dp.toNatClampNeg n.toNatClampNeg)))).heap = H.setIfInBounds (ad a) (vp_cell (cA 1) (n1, .inl (va_cpy f g sp.toNatClampNeg dp.toNatClampNeg n.toNatClampNeg))) := by rw [← hT]; rfl
  have oq : ∀ q : Nat, q ≠ ad a → (H.setIfInBounds (ad a) (vp_cell (cA 1) (n1, .inl (va_cpy f g sp.toNatClampNeg dp.toNatClampNeg n.toNatClampNeg))))[q]? = H[q]? := fun q hq => by simp [Array.getElem?_setIfInBounds, Ne.symm hq]
  have hA : b0 ≤ ad a := by rw [hA3 a h3]; omega
  obtain ⟨t, a1, b1⟩ := kk _ _ (hR.set (h' := (h.1, upr h.2.1 a (va_cpy f g (tm_ix sp) (tm_ix dp) (tm_ix n)), h.2.2.1, h.2.2.2)) (H1 := H.setIfInBounds (ad a) (vp_cell (cA 1) (n1, .inl (va_cpy f g sp.toNatClampNeg dp.toNatClampNeg n.toNatClampNeg)))) hA3 h3 rfl (fun k hk => upr_ne hk) (fun _ _ => rfl) (fun _ _ => rfl) (by simp) oq (by
      have e2 : ts_e ad cA (h.1, upr h.2.1 a (va_cpy f g (tm_ix sp) (tm_ix dp) (tm_ix n)), h.2.2.1, h.2.2.2) a = .inl (cA 1, n1, .inl (va_cpy f g (tm_ix sp) (tm_ix dp) (tm_ix n))) := by simp [ts_e, hsh, upr_at, hn1]
      rw [e2]
      show (H.setIfInBounds (ad a) _)[ad a]? = some _
      simp only [Array.getElem?_setIfInBounds, hl, if_true]
      rfl)) ⟨by simp; exact hS.1, fun q g1 g2 => by
      rw [oq q (fun e => g2 (by rw [e]; exact hA))]
      exact hS.2.1 q g1 g2, fun q hq => by
      rcases List.mem_append.mp hq with h | h
      · exact hS.2.2 q h
      · obtain ⟨z, -, hz⟩ := List.mem_map.mp h
        rw [← hz]
        exact hA⟩ _ hheap X'
  exact ⟨t, step t a1, b1⟩
end TSN
end
section
section TSM
variable {p : Program} {l : Launch} {e : Env} {R : Room} {s : State} {m : MethodId} {args : Array Value} {below : List Frame} {meth : Method} {c : Code} {H : Heap} {locs : List Loc} {cells slots : Nat} {Q : State → Prop}
variable {cc : ByteArray} {pc : Nat} {la : Array Slot} {rest : List Value} {b0 : Nat} {ad : Nat → Nat} {D : va_G} {cA : Nat → ClassId} {h : tm_H} {a : Nat} {own : String} {Ts : List Jvm.Cond}
theorem ts_outer (c : ClassId) (N h0 : Nat) : ∀ i : Nat, Jvm.Free.Multi.outerC c N h0 i = arrV c N (fun j => va_rf (if j < i then some (h0 + 1 + j) else none))
  | 0 => by
    show ({ cls := c, slots := Array.replicate N .null, vm := .none } : Cell) = _
    rw [arrV_new]
    refine congrArg (arrV c N) (funext fun j => ?_)
    simp [va_rf]
  | i + 1 => by
    show (Jvm.Free.Multi.outerC c N h0 i).setSlot i (.ref (h0 + 1 + i)) = _
    rw [ts_outer c N h0 i, arrV_store]
    refine congrArg (arrV c N) (funext fun j => ?_)
    by_cases e : j = i
    · subst e
      simp [updV, va_rf]
    · by_cases h : j < i
      · simp [updV, e, h, Nat.lt_succ_of_lt h]
      · simp [updV, e, h, show ¬ j < i + 1 by omega]
theorem ts_mna {w : Nat} {v u : Int32} (hA3 : ∀ k, 3 ≤ k → ad k = b0 + (k - 3)) (hx : p.tables.exec = Jvm.exec) (hb : c.code = cc) (hown : s.vm.findClass own = some m.cls) (hcl : (Cond.classLink own w ("[" ++ (FieldType.array .int).toString)).before args s = true) (hover : (Cond.arrayOver (.array .int)).before args s = true) (harr : (Cond.arrayClass .int).before args s = true)
    (hK : va_K D ts_cl (ts_tys cA) s) (hR : ts_R b0 ad D cA h s H) (hS : va_S (fun q => b0 ≤ q) s.heap H locs) (hn : ¬ u < 0) (hk : ¬ v < 0) (hn2 : tm_ix u ≤ 1000) (hk2 : tm_ix v ≤ 1000) (hcells : cells + (1 + tm_ix u) ≤ R.cells) (hslots : slots + (tm_ix u + tm_ix u * tm_ix v) ≤ R.slots) (hd : decode cc pc = .ok (.multianewarray w 2, 4))
    (kk : ∀ (H1 : Heap), ts_R b0 ad D cA (tm_mn (tm_ix u) (tm_ix v) h) s H1 → va_S (fun q => b0 ≤ q) s.heap H1 locs → W p l e R s m args below meth c H1 locs (cells + 1 + tm_ix u) (slots + tm_ix u + tm_ix u * tm_ix v) Q (F0 m (pc + 4) la (.ref (ad h.1.1) :: rest))) : W p l e R s m args below meth c H locs cells slots Q (F0 m pc la (.int v :: .int u :: rest)) := by
  intro T hT Xs
  have hN : u.toNatClampNeg = tm_ix u := rfl
  have hM : v.toNatClampNeg = tm_ix v := rfl
  obtain ⟨vm₁, cB, comp, -, fA, fC, hO, -, X', step⟩ := Xs.multianewarray2F (ty := .int) hx hown hcl hover harr (g := F0 m pc la (.int v :: .int u :: rest)) rfl (by rw [hb]; exact hd) rfl hn hk (by rw [hN]; omega) (by rw [hM]; show tm_ix v * 4 ≤ _; omega) (by rw [hM]; omega) rfl rfl hcells hslots
  have ec : cA 1 = comp := Option.some.inj ((hK.2 0 _ rfl).2.symm.trans fC)
  have eB : cB = cA 3 := Option.some.inj (fA.symm.trans (hK.2 2 _ rfl).2)
  rw [hN, hM] at *
  subst ec
  subst eB
  generalize hF : Jvm.Free.Multi.fill (T.setVm vm₁) (cA 3) (cA 1) (tm_ix u) (tm_ix v) (defaultValue .int) (tm_ix u) = F at X' step
  have hTh : (T.setVm vm₁).heap = H := hT
  obtain ⟨f1, f2, -, -⟩ := Jvm.Free.Multi.fill_facts (T.setVm vm₁) (cA 3) (cA 1) (tm_ix u) (tm_ix v) (defaultValue .int) (tm_ix u)
  rw [hF, hTh] at f1 f2
  have hold : ∀ x : Nat, x < H.size → F.heap[x]? = H[x]? := fun x hx => by
    have := Jvm.Free.Multi.fill_old (T.setVm vm₁) (cA 3) (cA 1) (tm_ix u) (tm_ix v) (defaultValue .int) (a := x) (by rw [hTh]; exact hx) (tm_ix u)
    rw [hF, hTh] at this
    exact this
  have hrow : ∀ j : Nat, j < tm_ix u → F.heap[H.size + 1 + j]? = some (vp_cell (cA 1) (tm_ix v, .inl (fun _ => 0))) := fun j hj => by
    have := Jvm.Free.Multi.fill_inner (T.setVm vm₁) (cA 3) (cA 1) (tm_ix u) (tm_ix v) (defaultValue .int) (tm_ix u) j hj
    rw [hF, hTh] at this
    rw [this, vp_cell_i, ← arrV_new]
    rfl
  have hout : Jvm.Free.Multi.outerC (cA 3) (tm_ix u) H.size (tm_ix u) = vp_cell (cA 3) (tm_ix u, .inr (.inr (.inr (.inr (fun i => if i < tm_ix u then some (H.size + 1 + i) else none))))) := by
    rw [vp_cell_q]
    exact ts_outer (cA 3) (tm_ix u) H.size (tm_ix u)
  rw [hout] at f2
  have hsz := ts_size hA3 hR
  have hRn : ts_R b0 ad D cA (tm_mn (tm_ix u) (tm_ix v) h) s F.heap := by
    obtain ⟨r1, r2, r3, r4, r5⟩ := hR
    refine ⟨by show 3 ≤ h.1.1 + 1 + tm_ix u; omega, by show F.heap.size + 3 = b0 + (h.1.1 + 1 + tm_ix u); rw [f1]; omega, fun k hk => ?_, fun k h3 hk => ?_, fun k hk => ?_⟩
    · have hk' : h.1.1 + 1 + tm_ix u ≤ k := hk
      show (if k = h.1.1 then (3, tm_ix u) else if h.1.1 < k ∧ k ≤ h.1.1 + tm_ix u then (1, tm_ix v) else h.1.2.2 k).1 = 99
      rw [if_neg (by omega), if_neg (by omega)]
      exact r3 k (by omega)
    · have hk' : k < h.1.1 + 1 + tm_ix u := hk
      refine ⟨?_, ?_⟩
      · show (if k = h.1.1 then (3, tm_ix u) else if h.1.1 < k ∧ k ≤ h.1.1 + tm_ix u then (1, tm_ix v) else h.1.2.2 k).1 ≠ 6
        by_cases e0 : k = h.1.1
        · rw [if_pos e0]; simp
        · rw [if_neg e0]
          by_cases e1 : h.1.1 < k ∧ k ≤ h.1.1 + tm_ix u
          · rw [if_pos e1]; simp
          · rw [if_neg e1]; exact (r4 k h3 (by omega)).1
      by_cases e0 : k = h.1.1
      · subst e0
        have e9 : ts_e ad cA (tm_mn (tm_ix u) (tm_ix v) h) h.1.1 = .inl (cA 3, tm_ix u, .inr (.inr (.inr (.inr (fun i => if i < tm_ix u then some (H.size + 1 + i) else none))))) := by
          have g1 : (tm_mn (tm_ix u) (tm_ix v) h).1.2.2 h.1.1 = (3, tm_ix u) := if_pos rfl
          have g2 : (tm_mn (tm_ix u) (tm_ix v) h).2.2.2 h.1.1 = (fun i => if i < tm_ix u then some (h.1.1 + 1 + i) else none) := if_pos rfl
          unfold ts_e
          rw [g1, g2]
          show Sum.inl (cA 3, tm_ix u, Sum.inr (Sum.inr (Sum.inr (Sum.inr (fun i => (if i < tm_ix u then some (h.1.1 + 1 + i) else none).map ad))))) = _
          congr 7
          funext i
          by_cases hi : i < tm_ix u
          · simp only [hi, if_true, Option.map_some]
            rw [hA3 _ (by omega)]
            congr 1
            omega
          · simp only [hi, if_false, Option.map_none]
        rw [e9, ← hsz]
        exact f2
      · by_cases e1 : h.1.1 < k
        · have e9 : ts_e ad cA (tm_mn (tm_ix u) (tm_ix v) h) k = .inl (cA 1, tm_ix v, .inl (fun _ => 0)) := by
            have g1 : (tm_mn (tm_ix u) (tm_ix v) h).1.2.2 k = (1, tm_ix v) := by
              show (if k = h.1.1 then (3, tm_ix u) else if h.1.1 < k ∧ k ≤ h.1.1 + tm_ix u then (1, tm_ix v) else h.1.2.2 k) = _
              rw [if_neg e0, if_pos (by omega)]
            have g2 : (tm_mn (tm_ix u) (tm_ix v) h).2.1 k = (fun _ => 0) := if_pos (by omega)
            unfold ts_e
            rw [g1, g2]
            rfl
          rw [e9]
          have := hrow (k - h.1.1 - 1) (by omega)
          show F.heap[ad k]? = _
          rw [← this]
          congr 1
          rw [hA3 k h3]
          omega
        · have hk2 : k < h.1.1 := by omega
          have e9 : ts_e ad cA (tm_mn (tm_ix u) (tm_ix v) h) k = ts_e ad cA h k := by
            refine ts_e_congr ?_ ?_ ?_ ?_
            · show (if k = h.1.1 then (3, tm_ix u) else if h.1.1 < k ∧ k ≤ h.1.1 + tm_ix u then (1, tm_ix v) else h.1.2.2 k) = _
              rw [if_neg e0, if_neg (by omega)]
            · exact if_neg (by omega)
            · exact if_neg (by omega)
            · show (if k = h.1.1 then _ else if h.1.1 < k ∧ k ≤ h.1.1 + tm_ix u then _ else h.2.2.2 k) = _
              rw [if_neg e0, if_neg (by omega)]
          rw [e9]
          refine (r4 k h3 hk2).2.kept (hold _ ?_)
          show ad k < H.size
          rw [hA3 k h3]
          omega
    · refine ts_S_congr (h := h) ?_ ?_ (fun x hx => hold x (by omega)) (r5 k hk)
      · show (if k = h.1.1 then (3, tm_ix u) else if h.1.1 < k ∧ k ≤ h.1.1 + tm_ix u then (1, tm_ix v) else h.1.2.2 k) = _
        rw [if_neg (by omega), if_neg (by omega)]
      · exact if_neg (by omega)
  obtain ⟨t, a1, b1⟩ := kk F.heap hRn ⟨by rw [f1]; have := hS.1; omega, fun x h1 h2 => (hold x (Nat.lt_of_lt_of_le h1 hS.1)).trans (hS.2.1 x h1 h2), hS.2.2⟩ F rfl X'
  refine ⟨t, step t ?_, b1⟩
  have e : T.heap.size = H.size := by rw [hT]
  rw [e, hsz]
  exact a1
end TSM
end
section
/-! What the tables say, for every method alike. -/
def ts_G : List Jvm.Cond := lw_tbl.filter goodWord
def ts_sp : List Jvm.Cond := [.fieldLinkNest "TidingsDesk" 100 "TidingsDesk$Tape" "draft" "LTidingsDesk$Facts;" "TidingsDesk", .fieldLinkNest "TidingsDesk$Known" 25 "TidingsDesk$Telling" "report" "I" "TidingsDesk", .fieldLinkNest "TidingsDesk$Ledger" 62 "TidingsDesk$Telling" "day" "I" "TidingsDesk", .fieldLinkNest "TidingsDesk$Known" 40 "TidingsDesk$Telling" "bits" "I" "TidingsDesk", .fieldLinkNest "TidingsDesk$Known" 36 "TidingsDesk$Telling" "facts" "LTidingsDesk$Facts;" "TidingsDesk", .arrayOver (.object "TidingsDesk$Telling"), .arrayOver (.object "TidingsDesk$Facts"), .arrayOver (.array .int)]
theorem ts_G_good : GoodIn ts_G ts_G := fun w hw => ⟨hw, good_of_word (List.mem_filter.mp hw).2⟩
theorem ts_G_in {w : Jvm.Cond} (h : w ∈ ts_G) : w ∈ lw_tbl := (List.mem_filter.mp h).1
theorem ts_mem {ws : List Jvm.Cond} (ps : List Nat) (hp : ws = ps.filterMap (fun i => lw_tbl[i]?)) (hg : ws.all goodWord = true) : ∀ w ∈ ws, w ∈ ts_G := by
  intro w hw
  refine List.mem_filter.mpr ⟨?_, List.all_eq_true.mp hg w hw⟩
  rw [hp] at hw
  obtain ⟨i, -, hi⟩ := List.mem_filterMap.mp hw
  exact List.mem_of_getElem? hi
theorem ts_over_use {t : FieldType} {A : Array Value} {U : State} (h : va_Nw (.arrayOver t) U) : (Cond.arrayOver t).before A U = true := h
theorem ts_sp_warm {s U : State} (hW : s.WarmedH U.vm) (h : ∀ w ∈ ts_sp, va_Nw w s) : ∀ w ∈ ts_sp, va_Nw w U := by
  have ho : ∀ t : FieldType, va_Nw (.arrayOver t) s → va_Nw (.arrayOver t) U := fun t ht => by
    have := Cond.arrayOver_setVmC (args := #[]) hW.alike t
    have h1 : (Cond.arrayOver t).before #[] (s.setVm U.vm) = true := by rw [this]; exact ht
    exact h1
  intro w hw
  have hs := h w hw
  simp only [ts_sp, List.mem_cons, List.not_mem_nil, or_false] at hw
  rcases hw with rfl | rfl | rfl | rfl | rfl | rfl | rfl | rfl
  · exact va_Nw.warmF hW hs
  · exact va_Nw.warmF hW hs
  · exact va_Nw.warmF hW hs
  · exact va_Nw.warmF hW hs
  · exact va_Nw.warmF hW hs
  · exact ho _ hs
  · exact ho _ hs
  · exact ho _ hs
theorem ts_sp_same {s U : State} (hv : s.vm = U.vm) (h : ∀ w ∈ ts_sp, va_Nw w s) : ∀ w ∈ ts_sp, va_Nw w U := by
  intro w hw
  have hs := h w hw
  have ho : ∀ t : FieldType, va_Nw (.arrayOver t) s → va_Nw (.arrayOver t) U := fun t ht => by
    have h1 : (Cond.arrayOver t).before #[] (s.setVm U.vm) = true := by rw [← hv]; exact ht
    exact h1
  simp only [ts_sp, List.mem_cons, List.not_mem_nil, or_false] at hw
  rcases hw with rfl | rfl | rfl | rfl | rfl | rfl | rfl | rfl
  · exact va_Nw.same rfl hv hs
  · exact va_Nw.same rfl hv hs
  · exact va_Nw.same rfl hv hs
  · exact va_Nw.same rfl hv hs
  · exact va_Nw.same rfl hv hs
  · exact ho _ hs
  · exact ho _ hs
  · exact ho _ hs
def ts_cn (ci : Nat) : String := ((ts_cl[ci]?).map (fun q => q.1)).getD ""
def ts_ct (ci k : Nat) : String × String × String × Bool := ((ts_cl[ci]?).map (fun q => q.2.1 k)).getD ("", "", "", false)
def ts_mt (k : Nat) : String × MethodName × ByteArray × Nat × Option FieldType := (ts_me[k]?).getD ("", ⟨"", "", ""⟩, ⟨#[]⟩, 0, none)
def ts_lL (k : Nat) : List Nat := (ts_LL[k]?).getD []
def ts_wi (own : String) (k : Nat) (x : tm_X) : List Jvm.Cond := [.methodLink own k (ts_mt x.2.1).2.1, .initialized (ts_mt x.2.1).2.1.cls]
def ts_my (t : Nat) : MethodName × ByteArray × Nat × Option FieldType := if t = 6 then (Lib.Math.abs.name, Lib.Math.abs.code, 1, some .int) else if t = 7 then (Lib.Math.max.name, Lib.Math.max.code, 2, some .int) else if t = 8 then (Lib.Math.min.name, Lib.Math.min.code, 2, some .int) else (Lib.MathLoose.min_long.x, Lib.MathLoose.min_long.code, 4, some .long)
def ts_wh (own : String) (i : Instr) (x : tm_X) : List Jvm.Cond := match i with
  | .getfield k => if x.2.2.2 = 1 then [] else [.fieldLink own k (ts_ct x.2.1 x.2.2.1).1 (ts_ct x.2.1 x.2.2.1).2.1 (ts_ct x.2.1 x.2.2.1).2.2.1]
  | .putfield k => [.fieldLink own k (ts_ct x.2.1 x.2.2.1).1 (ts_ct x.2.1 x.2.2.1).2.1 (ts_ct x.2.1 x.2.2.1).2.2.1]
  | .getstatic k => [.fieldLink own k "TidingsDesk$Tape" (if x.1 = 1 then "MARKS" else "HIGHEST") (if x.1 = 1 then "[C" else "[I")]
  | .new k => [.classLink own k (ts_cn x.2.1), .instantiable (ts_cn x.2.1) x.2.2.1, .initialized (ts_cn x.2.1)]
  | .newarray t => [.arrayClass (newarray.typeOf t)]
  | .anewarray k => [.classLink own k (if x.1 = 4 then "TidingsDesk$Telling" else "TidingsDesk$Facts")]
  | .multianewarray k _ => [.classLink own k ("[" ++ (FieldType.array .int).toString), .arrayClass .int]
  | .invokestatic k => if x.1 = 5 then [.methodLink own k arraycopyName, .native arraycopyName, .static arraycopyName, .initialized "java/lang/System"] else if 6 ≤ x.1 then [.methodLink own k (ts_my x.1).1, .static (ts_my x.1).1, .initialized "java/lang/Math", .code (ts_my x.1).1 (ts_my x.1).2.1 (ts_my x.1).2.2.1 (ts_my x.1).2.2.2] else ts_wi own k x ++ [.static (ts_mt x.2.1).2.1]
  | .invokevirtual k => ts_wi own k x ++ [.instanceMethod (ts_mt x.2.1).2.1, .selects (ts_cn x.2.2.2) (ts_mt x.2.1).2.1 (ts_mt x.2.1).2.1]
  | .invokespecial k => if x.1 = 4 then [.methodLink own k objectInit, .instanceMethod objectInit, .code objectInit ⟨#[0xb1]⟩ 1 none] else ts_wi own k x ++ [.instanceMethod (ts_mt x.2.1).2.1]
  | _ => ts_wq own i x
def ts_wn (own : String) (i : Instr) (x : tm_X) : List Jvm.Cond := match i with
  | .getfield k => if x.2.2.2 = 1 then [.fieldLinkNest own k (ts_ct x.2.1 x.2.2.1).1 (ts_ct x.2.1 x.2.2.1).2.1 (ts_ct x.2.1 x.2.2.1).2.2.1 "TidingsDesk"] else []
  | .anewarray _ => [.arrayOver (.object (if x.1 = 4 then "TidingsDesk$Telling" else "TidingsDesk$Facts"))]
  | .multianewarray _ _ => [.arrayOver (.array .int)]
  | _ => []
/-- is this field there, of this kind -/
def ts_fk (ci k t : Nat) : Bool := decide (ci < 11) && decide (k < ts_N ci) && decide (ts_kd (ts_ty ci k) = t)
def ts_pn (k : Nat) : Option Nat := (parseMethodDescriptor (ts_mt k).2.1.desc).map (fun q => q.parameters.length)
/-- are an instruction's numbers those of the tables -/
def ts_xk (own : String) (ini : Bool) (i : Instr) (x : tm_X) : Bool := match i with
  | .getfield _ => ts_fk x.2.1 x.2.2.1 x.1
  | .putfield _ => ts_fk x.2.1 x.2.2.1 x.1 && (decide ((ts_ct x.2.1 x.2.2.1).2.2.2 = false) || (decide ((ts_ct x.2.1 x.2.2.1).2.2.2 = true) && ini && decide ((ts_ct x.2.1 x.2.2.1).1 = own)))
  | .getstatic _ => decide (x.1 = 1 ∨ x.1 = 2)
  | .new _ => decide (x.2.1 < 11) && decide (ts_N x.2.1 = x.2.2.1)
  | .newarray t => decide ((t = .int ∧ x.1 = 1) ∨ (t = .long ∧ x.1 = 2))
  | .anewarray _ => decide (x.1 = 4 ∨ x.1 = 5)
  | .multianewarray _ n => decide (n = 2)
  | .invokestatic _ => decide (x.1 = 5) || decide (6 ≤ x.1 ∧ x.1 ≤ 9) || (decide (x.1 = 1) && decide (x.2.1 < 175) && decide (ts_pn x.2.1 = some x.2.2.1))
  | .invokevirtual _ => decide (x.1 = 2) && decide (x.2.1 < 175) && decide (0 < x.2.2.1) && decide (ts_pn x.2.1 = some (x.2.2.1 - 1)) && decide (x.2.2.2 < 11) && decide ((ts_mt x.2.1).2.1.cls = ts_cn x.2.2.2)
  | .invokespecial _ => decide (x.1 = 4) || (decide (x.1 = 3) && decide (x.2.1 < 175) && decide (0 < x.2.2.1) && decide (ts_pn x.2.1 = some (x.2.2.1 - 1)) && decide ((ts_mt x.2.1).2.1.name = "<init>") && decide ((ts_mt x.2.1).2.2.2.2 = none))
  | _ => true
/-- where longs lie among a method's arguments -/
def ts_lp : Nat → List Nat → List Nat
  | _, [] => []
  | n, k :: r => if k = 1 then n :: ts_lp (n + 2) r else ts_lp (n + 1) r
def ts_ls : List Nat → Nat
  | [] => 0
  | k :: r => (if k = 1 then 2 else 1) + ts_ls r
def ts_rt (k : Nat) (r : Option FieldType) : Bool := match k, r with
  | 0, none => true
  | 1, some .int => true
  | 2, some .long => true
  | 4, some .boolean => true
  | 3, some (.object _) => true
  | _, _ => false
/-- all that is asked of a method's table -/
def ts_jok (j : Nat) : Prop :=
  (∀ pc i x, tm_op j pc = some (i, x) → decode (ts_mt j).2.2.1 pc = .ok (i, ts_ln i x) ∧ (∀ w ∈ ts_wh (ts_mt j).1 i x, w ∈ ts_G) ∧ (∀ w ∈ ts_wn (ts_mt j).1 i x, w ∈ ts_sp) ∧ ts_ck (ts_lL j) pc i = true ∧ ts_xk (ts_mt j).1 (decide ((ts_mt j).2.1.name = "<init>")) i x = true)
  ∧ tm_ml j = (ts_mt j).2.2.2.1 ∧ ts_rt (tm_rk j) (ts_mt j).2.2.2.2 = true ∧ plainName (ts_mt j).2.1.cls = true ∧ (ts_mt j).1 = (ts_mt j).2.1.cls ∧ (ts_mt j).2.1.cls ≠ "java/lang/invoke/MethodHandle" ∧ (ts_mt j).2.1.cls ≠ "java/lang/invoke/VarHandle"
  ∧ tm_ml j ≤ 45 ∧ ts_ls (tm_ak j) ≤ tm_ml j ∧ (∀ k ∈ tm_ak j, k ≠ 9) ∧ (∀ k ∈ ts_lp 0 (tm_ak j), k ∈ ts_lL j)
theorem ts_jok_of {j : Nat} {ops : List (Nat × Instr × tm_X)} {ml rk : Nat} {ak : List Nat} {own : String} {y : MethodName} {bytes : ByteArray} {ret : Option FieldType} {LL : List Nat} (h1 : tm_all[j]? = some (ops, ml, rk, ak)) (h2 : ts_me[j]? = some (own, y, bytes, ml, ret)) (h3 : ts_LL[j]? = some LL)
    (d1 : ops.all (fun q => decide (decode bytes q.1 = .ok (q.2.1, ts_ln q.2.1 q.2.2))) = true) (ps : List Nat) (d2 : ops.flatMap (fun q => ts_wh own q.2.1 q.2.2) = ps.filterMap (fun i => lw_tbl[i]?)) (d3 : (ops.flatMap (fun q => ts_wh own q.2.1 q.2.2)).all goodWord = true)
    (d4 : ops.all (fun q => (ts_wn own q.2.1 q.2.2).all (fun w => decide (w ∈ ts_sp)) && ts_ck LL q.1 q.2.1 && ts_xk own (decide (y.name = "<init>")) q.2.1 q.2.2) = true)
    (d5 : (ts_rt rk ret && plainName y.cls && decide (own = y.cls) && decide (y.cls ≠ "java/lang/invoke/MethodHandle") && decide (y.cls ≠ "java/lang/invoke/VarHandle") && decide (ml ≤ 45) && decide (ts_ls ak ≤ ml) && ak.all (fun k => decide (k ≠ 9)) && (ts_lp 0 ak).all (fun k => decide (k ∈ LL))) = true) : ts_jok j := by
  have e1 : ts_mt j = (own, y, bytes, ml, ret) := by unfold ts_mt; rw [h2]; rfl
  have e2 : ts_lL j = LL := by unfold ts_lL; rw [h3]; rfl
  have e3 : tm_ml j = ml := by unfold tm_ml; rw [h1]; rfl
  have e4 : tm_rk j = rk := by unfold tm_rk; rw [h1]; rfl
  have e5 : tm_ak j = ak := by unfold tm_ak; rw [h1]; rfl
  have key : ∀ pc i x, tm_op j pc = some (i, x) → (pc, i, x) ∈ ops := by
    intro pc i x ho
    unfold tm_op at ho
    rw [h1] at ho
    have ho' : ops.lookup pc = some (i, x) := ho
    clear ho h1 d1 d2 d3 d4
    induction ops with
    | nil => cases ho'
    | cons q r ih =>
      obtain ⟨k, v⟩ := q
      rw [List.lookup_cons] at ho'
      by_cases hk : pc = k
      · subst hk
        simp only [BEq.rfl] at ho'
        cases ho'
        exact List.mem_cons_self
      · have : (pc == k) = false := by simp [hk]
        rw [this] at ho'
        exact List.mem_cons_of_mem _ (ih ho')
  unfold ts_jok
  rw [e1, e2, e3, e4, e5]
  simp only [Bool.and_eq_true, decide_eq_true_eq, List.all_eq_true] at d5
  obtain ⟨⟨⟨⟨⟨⟨⟨⟨c1, c2⟩, c3⟩, c4⟩, c5⟩, c6⟩, c7⟩, c8⟩, c9⟩ := d5
  refine ⟨fun pc i x ho => ?_, rfl, c1, c2, c3, c4, c5, c6, c7, c8, c9⟩
  have hm := key pc i x ho
  have g1 := List.all_eq_true.mp d1 _ hm
  have g4 := List.all_eq_true.mp d4 _ hm
  simp only [Bool.and_eq_true, decide_eq_true_eq, List.all_eq_true] at g1 g4
  exact ⟨g1, fun w hw => ts_mem ps d2 d3 w (List.mem_flatMap.mpr ⟨_, hm, hw⟩), g4.1.1, g4.1.2, g4.2⟩
end
section
theorem tc_0 : ∀ w ∈ u_ws RX0 TX0 4, w ∈ ts_G := ts_mem [93, 95, 97, 99] (by decide +kernel) (by decide +kernel)
theorem td_0 : ∀ k, k < 4 → ts_kd (ts_ty 0 k) ≠ 9 := by decide +kernel
theorem tc_1 : ∀ w ∈ u_ws RX1 TX1 5, w ∈ ts_G := ts_mem [223, 225, 227, 229, 231] (by decide +kernel) (by decide +kernel)
theorem td_1 : ∀ k, k < 5 → ts_kd (ts_ty 1 k) ≠ 9 := by decide +kernel
theorem tc_2 : ∀ w ∈ u_ws RX2 TX2 6, w ∈ ts_G := ts_mem [197, 199, 201, 203, 205, 207] (by decide +kernel) (by decide +kernel)
theorem td_2 : ∀ k, k < 6 → ts_kd (ts_ty 2 k) ≠ 9 := by decide +kernel
theorem tc_3 : ∀ w ∈ u_ws RX3 TX3 1, w ∈ ts_G := ts_mem [168] (by decide +kernel) (by decide +kernel)
theorem td_3 : ∀ k, k < 1 → ts_kd (ts_ty 3 k) ≠ 9 := by decide +kernel
theorem tc_4 : ∀ w ∈ u_ws RX4 TX4 2, w ∈ ts_G := ts_mem [154, 156] (by decide +kernel) (by decide +kernel)
theorem td_4 : ∀ k, k < 2 → ts_kd (ts_ty 4 k) ≠ 9 := by decide +kernel
theorem tc_5 : ∀ w ∈ u_ws RX5 TX5 5, w ∈ ts_G := ts_mem [132, 134, 136, 138, 140] (by decide +kernel) (by decide +kernel)
theorem td_5 : ∀ k, k < 5 → ts_kd (ts_ty 5 k) ≠ 9 := by decide +kernel
theorem tc_6 : ∀ w ∈ u_ws RX6 TX6 2, w ∈ ts_G := ts_mem [180, 182] (by decide +kernel) (by decide +kernel)
theorem td_6 : ∀ k, k < 2 → ts_kd (ts_ty 6 k) ≠ 9 := by decide +kernel
theorem tc_7 : ∀ w ∈ u_ws RX7 TX7 4, w ∈ ts_G := ts_mem [108, 110, 112, 114] (by decide +kernel) (by decide +kernel)
theorem td_7 : ∀ k, k < 4 → ts_kd (ts_ty 7 k) ≠ 9 := by decide +kernel
theorem tc_8 : ∀ w ∈ u_ws RX8 TX8 4, w ∈ ts_G := ts_mem [418, 420, 422, 424] (by decide +kernel) (by decide +kernel)
theorem td_8 : ∀ k, k < 4 → ts_kd (ts_ty 8 k) ≠ 9 := by decide +kernel
theorem tc_9 : ∀ w ∈ u_ws RX9 TX9 13, w ∈ ts_G := ts_mem [247, 249, 251, 253, 255, 257, 259, 261, 263, 265, 267, 269, 271] (by decide +kernel) (by decide +kernel)
theorem td_9 : ∀ k, k < 13 → ts_kd (ts_ty 9 k) ≠ 9 := by decide +kernel
theorem tc_10 : ∀ w ∈ u_ws RX10 TX10 39, w ∈ ts_G := ts_mem [806, 808, 810, 812, 814, 816, 818, 820, 822, 824, 826, 828, 830, 832, 834, 836, 838, 840, 842, 844, 846, 848, 850, 852, 854, 856, 858, 860, 862, 864, 866, 868, 870, 872, 874, 876, 878, 880, 882] (by decide +kernel) (by decide +kernel)
theorem td_10 : ∀ k, k < 39 → ts_kd (ts_ty 10 k) ≠ 9 := by decide +kernel
theorem ts_cl_ok : ∀ (ci : Nat) (C : String) (T : u_T) (N : Nat), ts_cl[ci]? = some (C, T, N) → (∀ w ∈ u_ws C T N, w ∈ ts_G) ∧ (∀ k, k < N → parseFieldDescriptor (T k).2.2.1 = some (ts_ty ci k)) ∧ (∀ a, a < N → ∀ b, b < N → a ≠ b → (T a).2.1 ≠ (T b).2.1) ∧ ∀ k, k < N → ts_kd (ts_ty ci k) ≠ 9
  | 0, _, _, _, h => by cases h; exact ⟨tc_0, tyX0_ok, nmX0, td_0⟩
  | 1, _, _, _, h => by cases h; exact ⟨tc_1, tyX1_ok, nmX1, td_1⟩
  | 2, _, _, _, h => by cases h; exact ⟨tc_2, tyX2_ok, nmX2, td_2⟩
  | 3, _, _, _, h => by cases h; exact ⟨tc_3, tyX3_ok, nmX3, td_3⟩
  | 4, _, _, _, h => by cases h; exact ⟨tc_4, tyX4_ok, nmX4, td_4⟩
  | 5, _, _, _, h => by cases h; exact ⟨tc_5, tyX5_ok, nmX5, td_5⟩
  | 6, _, _, _, h => by cases h; exact ⟨tc_6, tyX6_ok, nmX6, td_6⟩
  | 7, _, _, _, h => by cases h; exact ⟨tc_7, tyX7_ok, nmX7, td_7⟩
  | 8, _, _, _, h => by cases h; exact ⟨tc_8, tyX8_ok, nmX8, td_8⟩
  | 9, _, _, _, h => by cases h; exact ⟨tc_9, tyX9_ok, nmX9, td_9⟩
  | 10, _, _, _, h => by cases h; exact ⟨tc_10, tyX10_ok, nmX10, td_10⟩
  | k + 11, _, _, _, h => by simp [ts_cl] at h
end
section
theorem tj_0 : ts_jok 0 := ts_jok_of (ops := op_0) (own := RX0) (y := yX0_init) (bytes := cX0_init) rfl rfl rfl (by decide +kernel) [88, 75, 76, 89, 90, 102, 91, 102, 92] (by decide +kernel) (by decide +kernel) (by decide +kernel) (by decide +kernel)
theorem tj_1 : ts_jok 1 := ts_jok_of (ops := op_1) (own := RX0) (y := yX0_forget) (bytes := cX0_forget) rfl rfl rfl (by decide +kernel) [89, 91] (by decide +kernel) (by decide +kernel) (by decide +kernel) (by decide +kernel)
theorem tj_2 : ts_jok 2 := ts_jok_of (ops := op_2) (own := RX0) (y := yX0_fieldBits) (bytes := cX0_fieldBits) rfl rfl rfl (by decide +kernel) [89] (by decide +kernel) (by decide +kernel) (by decide +kernel) (by decide +kernel)
theorem tj_3 : ts_jok 3 := ts_jok_of (ops := op_3) (own := RX0) (y := yX0_hasField) (bytes := cX0_hasField) rfl rfl rfl (by decide +kernel) [89] (by decide +kernel) (by decide +kernel) (by decide +kernel) (by decide +kernel)
theorem tj_4 : ts_jok 4 := ts_jok_of (ops := op_4) (own := RX0) (y := yX0_valueOf) (bytes := cX0_valueOf) rfl rfl rfl (by decide +kernel) [512, 57, 335, 336, 91] (by decide +kernel) (by decide +kernel) (by decide +kernel) (by decide +kernel)
theorem tj_5 : ts_jok 5 := ts_jok_of (ops := op_5) (own := RX0) (y := yX0_highOf) (bytes := cX0_highOf) rfl rfl rfl (by decide +kernel) [512, 57, 335, 336, 90] (by decide +kernel) (by decide +kernel) (by decide +kernel) (by decide +kernel)
theorem tj_6 : ts_jok 6 := ts_jok_of (ops := op_6) (own := RX0) (y := yX0_nameAt) (bytes := cX0_nameAt) rfl rfl rfl (by decide +kernel) [91, 92] (by decide +kernel) (by decide +kernel) (by decide +kernel) (by decide +kernel)
theorem tj_7 : ts_jok 7 := ts_jok_of (ops := op_7) (own := RX0) (y := yX0_letterOf) (bytes := cX0_letterOf) rfl rfl rfl (by decide +kernel) [534, 57, 535, 536] (by decide +kernel) (by decide +kernel) (by decide +kernel) (by decide +kernel)
theorem tj_8 : ts_jok 8 := ts_jok_of (ops := op_8) (own := RX0) (y := yX0_hasName) (bytes := cX0_hasName) rfl rfl rfl (by decide +kernel) [91, 92] (by decide +kernel) (by decide +kernel) (by decide +kernel) (by decide +kernel)
theorem tj_9 : ts_jok 9 := ts_jok_of (ops := op_9) (own := RX0) (y := yX0_setValue) (bytes := cX0_setValue) rfl rfl rfl (by decide +kernel) [91, 89, 89] (by decide +kernel) (by decide +kernel) (by decide +kernel) (by decide +kernel)
theorem tj_10 : ts_jok 10 := ts_jok_of (ops := op_10) (own := RX0) (y := yX0_setSpan) (bytes := cX0_setSpan) rfl rfl rfl (by decide +kernel) [354, 57, 355, 356, 90] (by decide +kernel) (by decide +kernel) (by decide +kernel) (by decide +kernel)
theorem tj_11 : ts_jok 11 := ts_jok_of (ops := op_11) (own := RX0) (y := yX0_addName) (bytes := cX0_addName) rfl rfl rfl (by decide +kernel) [91, 92, 354, 57, 355, 356] (by decide +kernel) (by decide +kernel) (by decide +kernel) (by decide +kernel)
theorem tj_12 : ts_jok 12 := ts_jok_of (ops := op_12) (own := RX0) (y := yX0_take) (bytes := cX0_take) rfl rfl rfl (by decide +kernel) [89, 89, 89, 91, 91, 90, 90, 92, 92, 401, 403, 402, 65] (by decide +kernel) (by decide +kernel) (by decide +kernel) (by decide +kernel)
theorem tj_13 : ts_jok 13 := ts_jok_of (ops := op_13) (own := RX1) (y := yX1_init) (bytes := cX1_init) rfl rfl rfl (by decide +kernel) [216, 75, 76, 217, 102, 218, 102, 219, 220, 221, 222] (by decide +kernel) (by decide +kernel) (by decide +kernel) (by decide +kernel)
theorem tj_14 : ts_jok 14 := ts_jok_of (ops := op_14) (own := RX1) (y := yX1_find) (bytes := cX1_find) rfl rfl rfl (by decide +kernel) [712, 59, 588, 589, 713, 599, 67, 600, 222, 220, 221, 222, 714, 63, 716, 21, 720, 221, 721, 63, 723, 22, 729, 63, 731, 24, 733, 63, 735, 25] (by decide +kernel) (by decide +kernel) (by decide +kernel) (by decide +kernel)
theorem tj_15 : ts_jok 15 := ts_jok_of (ops := op_15) (own := RX1) (y := yX1_reckon) (bytes := cX1_reckon) rfl rfl rfl (by decide +kernel) [222, 718, 59, 696, 697, 719, 68, 629, 719, 68, 629, 218] (by decide +kernel) (by decide +kernel) (by decide +kernel) (by decide +kernel)
theorem tj_16 : ts_jok 16 := ts_jok_of (ops := op_16) (own := RX1) (y := yX1_weighOnes) (bytes := cX1_weighOnes) rfl rfl rfl (by decide +kernel) [725, 63, 727, 23, 220] (by decide +kernel) (by decide +kernel) (by decide +kernel) (by decide +kernel)
theorem tj_17 : ts_jok 17 := ts_jok_of (ops := op_17) (own := RX1) (y := yX1_weighTwos) (bytes := cX1_weighTwos) rfl rfl rfl (by decide +kernel) [725, 63, 727, 23, 220] (by decide +kernel) (by decide +kernel) (by decide +kernel) (by decide +kernel)
theorem tj_18 : ts_jok 18 := ts_jok_of (ops := op_18) (own := RX1) (y := yX1_weighThrees) (bytes := cX1_weighThrees) rfl rfl rfl (by decide +kernel) [725, 63, 727, 23, 220] (by decide +kernel) (by decide +kernel) (by decide +kernel) (by decide +kernel)
theorem tj_19 : ts_jok 19 := ts_jok_of (ops := op_19) (own := RX1) (y := yX1_weigh) (bytes := cX1_weigh) rfl rfl rfl (by decide +kernel) [222, 221, 218, 218, 218, 713, 599, 67, 600, 713, 599, 67, 600, 221, 221, 219, 219, 219] (by decide +kernel) (by decide +kernel) (by decide +kernel) (by decide +kernel)
theorem tj_20 : ts_jok 20 := ts_jok_of (ops := op_20) (own := RX1) (y := yX1_formAt) (bytes := cX1_formAt) rfl rfl rfl (by decide +kernel) [220, 219] (by decide +kernel) (by decide +kernel) (by decide +kernel) (by decide +kernel)
theorem tj_21 : ts_jok 21 := ts_jok_of (ops := op_21) (own := RX1) (y := yX1_total) (bytes := cX1_total) rfl rfl rfl (by decide +kernel) [221] (by decide +kernel) (by decide +kernel) (by decide +kernel) (by decide +kernel)
theorem tj_22 : ts_jok 22 := ts_jok_of (ops := op_22) (own := RX2) (y := yX2_init) (bytes := cX2_init) rfl rfl rfl (by decide +kernel) [190, 75, 76, 210, 191, 210, 192, 102, 193, 102, 194, 195, 196, 193, 193, 193] (by decide +kernel) (by decide +kernel) (by decide +kernel) (by decide +kernel)
theorem tj_23 : ts_jok 23 := ts_jok_of (ops := op_23) (own := RX2) (y := yX2_find) (bytes := cX2_find) rfl rfl rfl (by decide +kernel) [597, 497, 67, 498, 598, 599, 67, 600, 196, 196, 601, 62, 603, 13, 616, 62, 618, 14, 192, 196, 192, 624, 62, 626, 15, 192, 196, 195, 196, 194, 195, 605, 62, 606] (by decide +kernel) (by decide +kernel) (by decide +kernel) (by decide +kernel)
theorem tj_24 : ts_jok 24 := ts_jok_of (ops := op_24) (own := RX2) (y := yX2_digitShift) (bytes := cX2_digitShift) rfl rfl rfl (by decide +kernel) [] (by decide +kernel) (by decide +kernel) (by decide +kernel) (by decide +kernel)
theorem tj_25 : ts_jok 25 := ts_jok_of (ops := op_25) (own := RX2) (y := yX2_keyGroupsUpTo) (bytes := cX2_keyGroupsUpTo) rfl rfl rfl (by decide +kernel) [191, 605, 62, 606, 608, 62, 609, 191, 615, 193, 605, 62, 606, 191, 615, 191] (by decide +kernel) (by decide +kernel) (by decide +kernel) (by decide +kernel)
theorem tj_26 : ts_jok 26 := ts_jok_of (ops := op_26) (own := RX2) (y := yX2_costOfJoining) (bytes := cX2_costOfJoining) rfl rfl rfl (by decide +kernel) [611, 61, 612, 613] (by decide +kernel) (by decide +kernel) (by decide +kernel) (by decide +kernel)
theorem tj_27 : ts_jok 27 := ts_jok_of (ops := op_27) (own := RX2) (y := yX2_dropTornGroups) (bytes := cX2_dropTornGroups) rfl rfl rfl (by decide +kernel) [196, 620, 61, 621, 622, 196, 191, 615] (by decide +kernel) (by decide +kernel) (by decide +kernel) (by decide +kernel)
theorem tj_28 : ts_jok 28 := ts_jok_of (ops := op_28) (own := RX2) (y := yX2_leastFor) (bytes := cX2_leastFor) rfl rfl rfl (by decide +kernel) [193, 615, 628, 68, 629, 191, 192, 615, 615, 634, 635, 67, 636] (by decide +kernel) (by decide +kernel) (by decide +kernel) (by decide +kernel)
theorem tj_29 : ts_jok 29 := ts_jok_of (ops := op_29) (own := RX2) (y := yX2_exists) (bytes := cX2_exists) rfl rfl rfl (by decide +kernel) [195, 615] (by decide +kernel) (by decide +kernel) (by decide +kernel) (by decide +kernel)
theorem tj_30 : ts_jok 30 := ts_jok_of (ops := op_30) (own := RX2) (y := yX2_total) (bytes := cX2_total) rfl rfl rfl (by decide +kernel) [195] (by decide +kernel) (by decide +kernel) (by decide +kernel) (by decide +kernel)
theorem tj_31 : ts_jok 31 := ts_jok_of (ops := op_31) (own := RX2) (y := yX2_firstOf) (bytes := cX2_firstOf) rfl rfl rfl (by decide +kernel) [196, 194] (by decide +kernel) (by decide +kernel) (by decide +kernel) (by decide +kernel)
theorem tj_32 : ts_jok 32 := ts_jok_of (ops := op_32) (own := RX2) (y := yX2_size) (bytes := cX2_size) rfl rfl rfl (by decide +kernel) [196, 661, 62, 642, 643] (by decide +kernel) (by decide +kernel) (by decide +kernel) (by decide +kernel)
theorem tj_33 : ts_jok 33 := ts_jok_of (ops := op_33) (own := RX2) (y := yX2_membersOf) (bytes := cX2_membersOf) rfl rfl rfl (by decide +kernel) [196, 661, 62, 642, 643] (by decide +kernel) (by decide +kernel) (by decide +kernel) (by decide +kernel)
theorem tj_34 : ts_jok 34 := ts_jok_of (ops := op_34) (own := RX3) (y := yX3_init) (bytes := cX3_init) rfl rfl rfl (by decide +kernel) [164, 75, 76, 165, 102, 167] (by decide +kernel) (by decide +kernel) (by decide +kernel) (by decide +kernel)
theorem tj_35 : ts_jok 35 := ts_jok_of (ops := op_35) (own := RX3) (y := yX3_fits) (bytes := cX3_fits) rfl rfl rfl (by decide +kernel) [] (by decide +kernel) (by decide +kernel) (by decide +kernel) (by decide +kernel)
theorem tj_36 : ts_jok 36 := ts_jok_of (ops := op_36) (own := RX3) (y := yX3_tell) (bytes := cX3_tell) rfl rfl rfl (by decide +kernel) [464, 60, 465, 167, 167] (by decide +kernel) (by decide +kernel) (by decide +kernel) (by decide +kernel)
theorem tj_37 : ts_jok 37 := ts_jok_of (ops := op_37) (own := RX3) (y := yX3_wordOf) (bytes := cX3_wordOf) rfl rfl rfl (by decide +kernel) [464, 60, 465, 167] (by decide +kernel) (by decide +kernel) (by decide +kernel) (by decide +kernel)
theorem tj_38 : ts_jok 38 := ts_jok_of (ops := op_38) (own := RX3) (y := yX3_pairsTold) (bytes := cX3_pairsTold) rfl rfl rfl (by decide +kernel) [167] (by decide +kernel) (by decide +kernel) (by decide +kernel) (by decide +kernel)
theorem tj_39 : ts_jok 39 := ts_jok_of (ops := op_39) (own := RX4) (y := yX4_init) (bytes := cX4_init) rfl rfl rfl (by decide +kernel) [148, 75, 76, 149, 152, 152, 149, 84, 57, 151, 57, 86, 153] (by decide +kernel) (by decide +kernel) (by decide +kernel) (by decide +kernel)
theorem tj_40 : ts_jok 40 := ts_jok_of (ops := op_40) (own := RX4) (y := yX4_forget) (bytes := cX4_forget) rfl rfl rfl (by decide +kernel) [152, 491, 57, 313, 314, 153] (by decide +kernel) (by decide +kernel) (by decide +kernel) (by decide +kernel)
theorem tj_41 : ts_jok 41 := ts_jok_of (ops := op_41) (own := RX4) (y := yX4_learn) (bytes := cX4_learn) rfl rfl rfl (by decide +kernel) [153, 496, 497, 67, 498, 153, 152, 499, 57, 398, 399] (by decide +kernel) (by decide +kernel) (by decide +kernel) (by decide +kernel)
theorem tj_42 : ts_jok 42 := ts_jok_of (ops := op_42) (own := RX4) (y := yX4_size) (bytes := cX4_size) rfl rfl rfl (by decide +kernel) [153] (by decide +kernel) (by decide +kernel) (by decide +kernel) (by decide +kernel)
theorem tj_43 : ts_jok 43 := ts_jok_of (ops := op_43) (own := RX4) (y := yX4_factsOf) (bytes := cX4_factsOf) rfl rfl rfl (by decide +kernel) [153, 152] (by decide +kernel) (by decide +kernel) (by decide +kernel) (by decide +kernel)
theorem tj_44 : ts_jok 44 := ts_jok_of (ops := op_44) (own := RX4) (y := yX4_valueOf) (bytes := cX4_valueOf) rfl rfl rfl (by decide +kernel) [504, 59, 505, 506, 508, 57, 509, 510] (by decide +kernel) (by decide +kernel) (by decide +kernel) (by decide +kernel)
theorem tj_45 : ts_jok 45 := ts_jok_of (ops := op_45) (own := RX4) (y := yX4_highOf) (bytes := cX4_highOf) rfl rfl rfl (by decide +kernel) [504, 59, 505, 506, 521, 57, 522, 523] (by decide +kernel) (by decide +kernel) (by decide +kernel) (by decide +kernel)
theorem tj_46 : ts_jok 46 := ts_jok_of (ops := op_46) (own := RX4) (y := yX4_shapeOf) (bytes := cX4_shapeOf) rfl rfl rfl (by decide +kernel) [504, 59, 505, 506, 699, 57, 378, 379] (by decide +kernel) (by decide +kernel) (by decide +kernel) (by decide +kernel)
theorem tj_47 : ts_jok 47 := ts_jok_of (ops := op_47) (own := RX4) (y := yX4_holdersOf) (bytes := cX4_holdersOf) rfl rfl rfl (by decide +kernel) [153, 152, 570, 57, 347, 348] (by decide +kernel) (by decide +kernel) (by decide +kernel) (by decide +kernel)
theorem tj_48 : ts_jok 48 := ts_jok_of (ops := op_48) (own := RX5) (y := yX5_init) (bytes := cX5_init) rfl rfl rfl (by decide +kernel) [122, 75, 76, 123, 127, 125, 84, 57, 126, 57, 86, 128, 129, 130, 131] (by decide +kernel) (by decide +kernel) (by decide +kernel) (by decide +kernel)
theorem tj_49 : ts_jok 49 := ts_jok_of (ops := op_49) (own := RX5) (y := yX5_reports) (bytes := cX5_reports) rfl rfl rfl (by decide +kernel) [130] (by decide +kernel) (by decide +kernel) (by decide +kernel) (by decide +kernel)
theorem tj_50 : ts_jok 50 := ts_jok_of (ops := op_50) (own := RX5) (y := yX5_changes) (bytes := cX5_changes) rfl rfl rfl (by decide +kernel) [131] (by decide +kernel) (by decide +kernel) (by decide +kernel) (by decide +kernel)
theorem tj_51 : ts_jok 51 := ts_jok_of (ops := op_51) (own := RX5) (y := yX5_hasReport) (bytes := cX5_hasReport) rfl rfl rfl (by decide +kernel) [130] (by decide +kernel) (by decide +kernel) (by decide +kernel) (by decide +kernel)
theorem tj_52 : ts_jok 52 := ts_jok_of (ops := op_52) (own := RX5) (y := yX5_takesChange) (bytes := cX5_takesChange) rfl rfl rfl (by decide +kernel) [439, 58, 440, 441, 131] (by decide +kernel) (by decide +kernel) (by decide +kernel) (by decide +kernel)
theorem tj_53 : ts_jok 53 := ts_jok_of (ops := op_53) (own := RX5) (y := yX5_addReport) (bytes := cX5_addReport) rfl rfl rfl (by decide +kernel) [130, 393, 58, 395, 9, 130, 130] (by decide +kernel) (by decide +kernel) (by decide +kernel) (by decide +kernel)
theorem tj_54 : ts_jok 54 := ts_jok_of (ops := op_54) (own := RX5) (y := yX5_addCorrection) (bytes := cX5_addCorrection) rfl rfl rfl (by decide +kernel) [393, 58, 395, 9, 131, 131] (by decide +kernel) (by decide +kernel) (by decide +kernel) (by decide +kernel)
theorem tj_55 : ts_jok 55 := ts_jok_of (ops := op_55) (own := RX5) (y := yX5_addDenial) (bytes := cX5_addDenial) rfl rfl rfl (by decide +kernel) [123, 404, 66, 128, 406, 66, 407, 427, 58, 429, 10, 131, 131] (by decide +kernel) (by decide +kernel) (by decide +kernel) (by decide +kernel)
theorem tj_56 : ts_jok 56 := ts_jok_of (ops := op_56) (own := RX5) (y := yX5_addText) (bytes := cX5_addText) rfl rfl rfl (by decide +kernel) [125, 84, 57, 126, 57, 86, 397, 57, 398, 399, 123, 404, 66, 405, 57, 378, 379, 406, 66, 407, 427, 58, 429, 10] (by decide +kernel) (by decide +kernel) (by decide +kernel) (by decide +kernel)
theorem tj_57 : ts_jok 57 := ts_jok_of (ops := op_57) (own := RX5) (y := yX5_add) (bytes := cX5_add) rfl rfl rfl (by decide +kernel) [129, 127, 129, 129, 129] (by decide +kernel) (by decide +kernel) (by decide +kernel) (by decide +kernel)
theorem tj_58 : ts_jok 58 := ts_jok_of (ops := op_58) (own := RX5) (y := yX5_retell) (bytes := cX5_retell) rfl rfl rfl (by decide +kernel) [487, 59, 488, 489, 129, 127, 492, 59, 493, 494] (by decide +kernel) (by decide +kernel) (by decide +kernel) (by decide +kernel)
theorem tj_59 : ts_jok 59 := ts_jok_of (ops := op_59) (own := RX6) (y := yX6_init) (bytes := cX6_init) rfl rfl rfl (by decide +kernel) [176, 75, 76, 177, 102, 178, 102, 179] (by decide +kernel) (by decide +kernel) (by decide +kernel) (by decide +kernel)
theorem tj_60 : ts_jok 60 := ts_jok_of (ops := op_60) (own := RX6) (y := yX6_reckon) (bytes := cX6_reckon) rfl rfl rfl (by decide +kernel) [587, 59, 588, 589, 179, 587, 59, 588, 589, 178, 591, 61, 543, 546, 60, 547, 548, 179] (by decide +kernel) (by decide +kernel) (by decide +kernel) (by decide +kernel)
theorem tj_61 : ts_jok 61 := ts_jok_of (ops := op_61) (own := RX6) (y := yX6_reckoned) (bytes := cX6_reckoned) rfl rfl rfl (by decide +kernel) [178] (by decide +kernel) (by decide +kernel) (by decide +kernel) (by decide +kernel)
theorem tj_62 : ts_jok 62 := ts_jok_of (ops := op_62) (own := RX6) (y := yX6_partnersOf) (bytes := cX6_partnersOf) rfl rfl rfl (by decide +kernel) [179] (by decide +kernel) (by decide +kernel) (by decide +kernel) (by decide +kernel)
theorem tj_63 : ts_jok 63 := ts_jok_of (ops := op_63) (own := RX6) (y := yX6_between) (bytes := cX6_between) rfl rfl rfl (by decide +kernel) [545, 59, 505, 506, 545, 59, 505, 506, 546, 60, 547, 548, 550, 61, 551, 555, 61, 556, 555, 61, 556, 561, 61, 562, 550, 61, 551, 571, 61, 572] (by decide +kernel) (by decide +kernel) (by decide +kernel) (by decide +kernel)
theorem tj_64 : ts_jok 64 := ts_jok_of (ops := op_64) (own := RX6) (y := yX6_differ) (bytes := cX6_differ) rfl rfl rfl (by decide +kernel) [553, 57, 335, 336, 553, 57, 335, 336, 554, 57, 509, 510, 554, 57, 509, 510] (by decide +kernel) (by decide +kernel) (by decide +kernel) (by decide +kernel)
theorem tj_65 : ts_jok 65 := ts_jok_of (ops := op_65) (own := RX6) (y := yX6_datesApart) (bytes := cX6_datesApart) rfl rfl rfl (by decide +kernel) [550, 61, 551, 554, 57, 509, 510, 554, 57, 509, 510, 558, 559, 67, 560] (by decide +kernel) (by decide +kernel) (by decide +kernel) (by decide +kernel)
theorem tj_66 : ts_jok 66 := ts_jok_of (ops := op_66) (own := RX6) (y := yX6_numbersPart) (bytes := cX6_numbersPart) rfl rfl rfl (by decide +kernel) [553, 57, 335, 336, 553, 57, 335, 336, 574, 57, 522, 523, 554, 57, 509, 510, 574, 57, 522, 523, 554, 57, 509, 510] (by decide +kernel) (by decide +kernel) (by decide +kernel) (by decide +kernel)
theorem tj_67 : ts_jok 67 := ts_jok_of (ops := op_67) (own := RX6) (y := yX6_nameGain) (bytes := cX6_nameGain) rfl rfl rfl (by decide +kernel) [564, 57, 535, 536, 565, 57, 347, 348, 566, 59, 567, 568] (by decide +kernel) (by decide +kernel) (by decide +kernel) (by decide +kernel)
theorem tj_68 : ts_jok 68 := ts_jok_of (ops := op_68) (own := RX7) (y := yX7_init) (bytes := cX7_init) rfl rfl rfl (by decide +kernel) [82, 75, 76, 102, 103, 104, 105, 83, 84, 57, 85, 57, 86, 106] (by decide +kernel) (by decide +kernel) (by decide +kernel) (by decide +kernel)
theorem tj_69 : ts_jok 69 := ts_jok_of (ops := op_69) (own := RX7) (y := yX7_byteOf) (bytes := cX7_byteOf) rfl rfl rfl (by decide +kernel) [] (by decide +kernel) (by decide +kernel) (by decide +kernel) (by decide +kernel)
theorem tj_70 : ts_jok 70 := ts_jok_of (ops := op_70) (own := RX7) (y := yX7_bytesIn) (bytes := cX7_bytesIn) rfl rfl rfl (by decide +kernel) [285, 56, 286] (by decide +kernel) (by decide +kernel) (by decide +kernel) (by decide +kernel)
theorem tj_71 : ts_jok 71 := ts_jok_of (ops := op_71) (own := RX7) (y := yX7_size) (bytes := cX7_size) rfl rfl rfl (by decide +kernel) [104] (by decide +kernel) (by decide +kernel) (by decide +kernel) (by decide +kernel)
theorem tj_72 : ts_jok 72 := ts_jok_of (ops := op_72) (own := RX7) (y := yX7_append) (bytes := cX7_append) rfl rfl rfl (by decide +kernel) [285, 56, 286, 104, 103, 104, 104, 104] (by decide +kernel) (by decide +kernel) (by decide +kernel) (by decide +kernel)
theorem tj_73 : ts_jok 73 := ts_jok_of (ops := op_73) (own := RX7) (y := yX7_cut) (bytes := cX7_cut) rfl rfl rfl (by decide +kernel) [104, 104] (by decide +kernel) (by decide +kernel) (by decide +kernel) (by decide +kernel)
theorem tj_74 : ts_jok 74 := ts_jok_of (ops := op_74) (own := RX7) (y := yX7_read) (bytes := cX7_read) rfl rfl rfl (by decide +kernel) [106, 312, 57, 313, 314, 105, 316, 56, 318, 0, 105, 104, 105, 324, 56, 326, 2, 320, 56, 322, 1, 320, 56, 322, 1, 105, 316, 56, 318, 0, 106, 377, 57, 378, 379, 104] (by decide +kernel) (by decide +kernel) (by decide +kernel) (by decide +kernel)
theorem tj_75 : ts_jok 75 := ts_jok_of (ops := op_75) (own := RX7) (y := yX7_peek) (bytes := cX7_peek) rfl rfl rfl (by decide +kernel) [105, 105, 104, 105, 103, 105] (by decide +kernel) (by decide +kernel) (by decide +kernel) (by decide +kernel)
theorem tj_76 : ts_jok 76 := ts_jok_of (ops := op_76) (own := RX7) (y := yX7_skipBlanks) (bytes := cX7_skipBlanks) rfl rfl rfl (by decide +kernel) [320, 56, 322, 1, 105, 105] (by decide +kernel) (by decide +kernel) (by decide +kernel) (by decide +kernel)
theorem tj_77 : ts_jok 77 := ts_jok_of (ops := op_77) (own := RX7) (y := yX7_readItem) (bytes := cX7_readItem) rfl rfl rfl (by decide +kernel) [328, 56, 330, 3, 106, 334, 57, 335, 336, 105, 105, 338, 56, 340, 4, 358, 56, 360, 6, 372, 56, 374, 8] (by decide +kernel) (by decide +kernel) (by decide +kernel) (by decide +kernel)
theorem tj_78 : ts_jok 78 := ts_jok_of (ops := op_78) (own := RX7) (y := yX7_markedField) (bytes := cX7_markedField) rfl rfl rfl (by decide +kernel) [320, 56, 322, 1, 332] (by decide +kernel) (by decide +kernel) (by decide +kernel) (by decide +kernel)
theorem tj_79 : ts_jok 79 := ts_jok_of (ops := op_79) (own := RX7) (y := yX7_readValue) (bytes := cX7_readValue) rfl rfl rfl (by decide +kernel) [362, 56, 364, 7, 366, 106, 376, 57, 355, 356] (by decide +kernel) (by decide +kernel) (by decide +kernel) (by decide +kernel)
theorem tj_80 : ts_jok 80 := ts_jok_of (ops := op_80) (own := RX7) (y := yX7_readSpan) (bytes := cX7_readSpan) rfl rfl rfl (by decide +kernel) [362, 56, 364, 7, 320, 56, 322, 1, 105, 105, 362, 56, 364, 7, 366, 106, 368, 57, 369, 370] (by decide +kernel) (by decide +kernel) (by decide +kernel) (by decide +kernel)
theorem tj_81 : ts_jok 81 := ts_jok_of (ops := op_81) (own := RX7) (y := yX7_readDigits) (bytes := cX7_readDigits) rfl rfl rfl (by decide +kernel) [320, 56, 322, 1, 320, 56, 322, 1, 320, 56, 322, 1, 105, 105] (by decide +kernel) (by decide +kernel) (by decide +kernel) (by decide +kernel)
theorem tj_82 : ts_jok 82 := ts_jok_of (ops := op_82) (own := RX7) (y := yX7_readNames) (bytes := cX7_readNames) rfl rfl rfl (by decide +kernel) [342, 56, 344, 5, 106, 346, 57, 347, 348, 106, 350, 57, 351, 352, 320, 56, 322, 1, 105, 105] (by decide +kernel) (by decide +kernel) (by decide +kernel) (by decide +kernel)
theorem tj_83 : ts_jok 83 := ts_jok_of (ops := op_83) (own := RX7) (y := yX7_readName) (bytes := cX7_readName) rfl rfl rfl (by decide +kernel) [320, 56, 322, 1, 320, 56, 322, 1, 320, 56, 322, 1, 105, 105] (by decide +kernel) (by decide +kernel) (by decide +kernel) (by decide +kernel)
theorem tj_84 : ts_jok 84 := ts_jok_of (ops := op_84) (own := RX8) (y := yX8_init) (bytes := cX8_init) rfl rfl rfl (by decide +kernel) [409, 75, 76, 410, 412, 414, 416] (by decide +kernel) (by decide +kernel) (by decide +kernel) (by decide +kernel)
theorem tj_85 : ts_jok 85 := ts_jok_of (ops := op_85) (own := RX9) (y := yX9_init) (bytes := cX9_init) rfl rfl rfl (by decide +kernel) [74, 75, 76, 77, 78, 56, 79, 56, 80, 234, 117, 118, 58, 119, 58, 120, 235, 143, 144, 59, 145, 59, 146, 236, 159, 160, 60, 161, 60, 162, 237, 171, 172, 61, 173, 61, 174, 238, 185, 186, 62, 187, 62, 188, 239, 211, 212, 63, 213, 63, 214, 240, 241, 242, 243, 244, 245, 246] (by decide +kernel) (by decide +kernel) (by decide +kernel) (by decide +kernel)
theorem tj_86 : ts_jok 86 := ts_jok_of (ops := op_86) (own := RX9) (y := yX9_days) (bytes := cX9_days) rfl rfl rfl (by decide +kernel) [241, 241, 241, 241] (by decide +kernel) (by decide +kernel) (by decide +kernel) (by decide +kernel)
theorem tj_87 : ts_jok 87 := ts_jok_of (ops := op_87) (own := RX9) (y := yX9_feed) (bytes := cX9_feed) rfl rfl rfl (by decide +kernel) [282, 56, 283, 282, 56, 283, 282, 56, 283, 282, 56, 283, 282, 56, 283, 234, 288, 56, 289, 290, 234, 292, 56, 293, 294, 234, 292, 56, 293, 294, 234, 292, 56, 293, 294, 234, 292, 56, 293, 294, 234, 292, 56, 293, 294, 234, 288, 56, 289, 290] (by decide +kernel) (by decide +kernel) (by decide +kernel) (by decide +kernel)
theorem tj_88 : ts_jok 88 := ts_jok_of (ops := op_88) (own := RX9) (y := yX9_end) (bytes := cX9_end) rfl rfl rfl (by decide +kernel) [234, 300, 56, 301, 302] (by decide +kernel) (by decide +kernel) (by decide +kernel) (by decide +kernel)
theorem tj_89 : ts_jok 89 := ts_jok_of (ops := op_89) (own := RX9) (y := yX9_fault) (bytes := cX9_fault) rfl rfl rfl (by decide +kernel) [234, 308, 56, 309, 310] (by decide +kernel) (by decide +kernel) (by decide +kernel) (by decide +kernel)
theorem tj_90 : ts_jok 90 := ts_jok_of (ops := op_90) (own := RX9) (y := yX9_report) (bytes := cX9_report) rfl rfl rfl (by decide +kernel) [235, 385, 58, 386, 387, 234, 308, 56, 309, 310, 235, 241, 234, 389, 58, 390, 391, 234, 300, 56, 301, 302, 244] (by decide +kernel) (by decide +kernel) (by decide +kernel) (by decide +kernel)
theorem tj_91 : ts_jok 91 := ts_jok_of (ops := op_91) (own := RX9) (y := yX9_correct) (bytes := cX9_correct) rfl rfl rfl (by decide +kernel) [235, 435, 58, 436, 437, 234, 308, 56, 309, 310, 235, 241, 234, 443, 58, 444, 445, 234, 300, 56, 301, 302, 244] (by decide +kernel) (by decide +kernel) (by decide +kernel) (by decide +kernel)
theorem tj_92 : ts_jok 92 := ts_jok_of (ops := op_92) (own := RX9) (y := yX9_deny) (bytes := cX9_deny) rfl rfl rfl (by decide +kernel) [235, 435, 58, 436, 437, 235, 241, 451, 58, 452, 453, 244] (by decide +kernel) (by decide +kernel) (by decide +kernel) (by decide +kernel)
theorem tj_93 : ts_jok 93 := ts_jok_of (ops := op_93) (own := RX9) (y := yX9_hand) (bytes := cX9_hand) rfl rfl rfl (by decide +kernel) [235, 459, 58, 440, 441, 235, 459, 58, 440, 441, 237, 460, 60, 461, 462, 245] (by decide +kernel) (by decide +kernel) (by decide +kernel) (by decide +kernel)
theorem tj_94 : ts_jok 94 := ts_jok_of (ops := op_94) (own := RX9) (y := yX9_opens) (bytes := cX9_opens) rfl rfl rfl (by decide +kernel) [242, 245] (by decide +kernel) (by decide +kernel) (by decide +kernel) (by decide +kernel)
theorem tj_95 : ts_jok 95 := ts_jok_of (ops := op_95) (own := RX9) (y := yX9_price) (bytes := cX9_price) rfl rfl rfl (by decide +kernel) [243, 246] (by decide +kernel) (by decide +kernel) (by decide +kernel) (by decide +kernel)
theorem tj_96 : ts_jok 96 := ts_jok_of (ops := op_96) (own := RX9) (y := yX9_field) (bytes := cX9_field) rfl rfl rfl (by decide +kernel) [479, 55, 481, 11, 236, 500, 59, 501, 502] (by decide +kernel) (by decide +kernel) (by decide +kernel) (by decide +kernel)
theorem tj_97 : ts_jok 97 := ts_jok_of (ops := op_97) (own := RX9) (y := yX9_upper) (bytes := cX9_upper) rfl rfl rfl (by decide +kernel) [479, 55, 481, 11, 236, 517, 59, 518, 519] (by decide +kernel) (by decide +kernel) (by decide +kernel) (by decide +kernel)
theorem tj_98 : ts_jok 98 := ts_jok_of (ops := op_98) (own := RX9) (y := yX9_letter) (bytes := cX9_letter) rfl rfl rfl (by decide +kernel) [479, 55, 481, 11, 236, 529, 59, 505, 506, 530, 57, 531, 532] (by decide +kernel) (by decide +kernel) (by decide +kernel) (by decide +kernel)
theorem tj_99 : ts_jok 99 := ts_jok_of (ops := op_99) (own := RX9) (y := yX9_pair) (bytes := cX9_pair) rfl rfl rfl (by decide +kernel) [479, 55, 481, 11, 236, 237, 542, 61, 543] (by decide +kernel) (by decide +kernel) (by decide +kernel) (by decide +kernel)
end
section
theorem tj_100 : ts_jok 100 := ts_jok_of (ops := op_100) (own := RX9) (y := yX9_group) (bytes := cX9_group) rfl rfl rfl (by decide +kernel) [579, 55, 581, 12, 239, 641, 62, 642, 643] (by decide +kernel) (by decide +kernel) (by decide +kernel) (by decide +kernel)
theorem tj_101 : ts_jok 101 := ts_jok_of (ops := op_101) (own := RX9) (y := yX9_cost) (bytes := cX9_cost) rfl rfl rfl (by decide +kernel) [579, 55, 581, 12, 239, 649, 62, 650, 651] (by decide +kernel) (by decide +kernel) (by decide +kernel) (by decide +kernel)
theorem tj_102 : ts_jok 102 := ts_jok_of (ops := op_102) (own := RX9) (y := yX9_groups) (bytes := cX9_groups) rfl rfl rfl (by decide +kernel) [579, 55, 581, 12, 239, 657, 62, 658, 659] (by decide +kernel) (by decide +kernel) (by decide +kernel) (by decide +kernel)
theorem tj_103 : ts_jok 103 := ts_jok_of (ops := op_103) (own := RX9) (y := yX9_happening) (bytes := cX9_happening) rfl rfl rfl (by decide +kernel) [579, 55, 581, 12, 239, 641, 62, 642, 643, 666, 55, 668, 16, 666, 55, 668, 16, 670, 55, 672, 17, 674, 55, 676, 18, 670, 55, 672, 17, 679, 55, 681, 19, 666, 55, 668, 16, 239, 683, 62, 684, 685, 670, 55, 672, 17] (by decide +kernel) (by decide +kernel) (by decide +kernel) (by decide +kernel)
theorem tj_104 : ts_jok 104 := ts_jok_of (ops := op_104) (own := RX9) (y := yX9_at) (bytes := cX9_at) rfl rfl rfl (by decide +kernel) [579, 55, 581, 12, 236, 592, 59, 588, 589, 239, 641, 62, 642, 643, 666, 55, 668, 16] (by decide +kernel) (by decide +kernel) (by decide +kernel) (by decide +kernel)
theorem tj_105 : ts_jok 105 := ts_jok_of (ops := op_105) (own := RX9) (y := yX9_shape) (bytes := cX9_shape) rfl rfl rfl (by decide +kernel) [479, 55, 481, 11, 236, 695, 59, 696, 697] (by decide +kernel) (by decide +kernel) (by decide +kernel) (by decide +kernel)
theorem tj_106 : ts_jok 106 := ts_jok_of (ops := op_106) (own := RX9) (y := yX9_form) (bytes := cX9_form) rfl rfl rfl (by decide +kernel) [704, 55, 706, 20, 240, 737, 63, 738, 739] (by decide +kernel) (by decide +kernel) (by decide +kernel) (by decide +kernel)
theorem tj_107 : ts_jok 107 := ts_jok_of (ops := op_107) (own := RX9) (y := yX9_forms) (bytes := cX9_forms) rfl rfl rfl (by decide +kernel) [704, 55, 706, 20, 240, 745, 63, 746, 747] (by decide +kernel) (by decide +kernel) (by decide +kernel) (by decide +kernel)
theorem tj_108 : ts_jok 108 := ts_jok_of (ops := op_108) (own := RX9) (y := yX9_count) (bytes := cX9_count) rfl rfl rfl (by decide +kernel) [241, 235, 385, 58, 386, 387, 235, 753, 58, 754, 755, 234, 288, 56, 289, 290, 237, 757, 60, 758, 759, 237, 757, 60, 758, 759] (by decide +kernel) (by decide +kernel) (by decide +kernel) (by decide +kernel)
theorem tj_109 : ts_jok 109 := ts_jok_of (ops := op_109) (own := RX9) (y := yX9_look) (bytes := cX9_look) rfl rfl rfl (by decide +kernel) [241, 244, 235, 236, 483, 58, 484, 485, 244, 245, 246] (by decide +kernel) (by decide +kernel) (by decide +kernel) (by decide +kernel)
theorem tj_110 : ts_jok 110 := ts_jok_of (ops := op_110) (own := RX9) (y := yX9_lookGrouped) (bytes := cX9_lookGrouped) rfl rfl rfl (by decide +kernel) [479, 55, 481, 11, 245, 238, 236, 237, 583, 61, 584, 585, 239, 238, 236, 592, 59, 588, 589, 242, 593, 62, 594, 595, 245, 239, 637, 62, 638, 639] (by decide +kernel) (by decide +kernel) (by decide +kernel) (by decide +kernel)
theorem tj_111 : ts_jok 111 := ts_jok_of (ops := op_111) (own := RX9) (y := yX9_lookSearched) (bytes := cX9_lookSearched) rfl rfl rfl (by decide +kernel) [479, 55, 481, 11, 246, 240, 236, 243, 708, 63, 709, 710, 246] (by decide +kernel) (by decide +kernel) (by decide +kernel) (by decide +kernel)
theorem tj_112 : ts_jok 112 := ts_jok_of (ops := op_112) (own := RX9) (y := yX9_agreed) (bytes := cX9_agreed) rfl rfl rfl (by decide +kernel) [236, 592, 59, 588, 589, 239, 641, 62, 642, 643, 236, 500, 59, 501, 502] (by decide +kernel) (by decide +kernel) (by decide +kernel) (by decide +kernel)
theorem tj_113 : ts_jok 113 := ts_jok_of (ops := op_113) (own := RX9) (y := yX9_lowEnd) (bytes := cX9_lowEnd) rfl rfl rfl (by decide +kernel) [236, 592, 59, 588, 589, 239, 641, 62, 642, 643, 236, 500, 59, 501, 502, 678, 497, 67, 498] (by decide +kernel) (by decide +kernel) (by decide +kernel) (by decide +kernel)
theorem tj_114 : ts_jok 114 := ts_jok_of (ops := op_114) (own := RX9) (y := yX9_highEnd) (bytes := cX9_highEnd) rfl rfl rfl (by decide +kernel) [236, 592, 59, 588, 589, 239, 641, 62, 642, 643, 236, 517, 59, 518, 519] (by decide +kernel) (by decide +kernel) (by decide +kernel) (by decide +kernel)
theorem tj_115 : ts_jok 115 := ts_jok_of (ops := op_115) (own := RX9) (y := yX9_quarrels) (bytes := cX9_quarrels) rfl rfl rfl (by decide +kernel) [674, 55, 676, 18, 679, 55, 681, 19] (by decide +kernel) (by decide +kernel) (by decide +kernel) (by decide +kernel)
theorem tj_116 : ts_jok 116 := ts_jok_of (ops := op_116) (own := RX10) (y := yX10_init) (bytes := cX10_init) rfl rfl rfl (by decide +kernel) [766, 75, 76, 770, 771, 102, 772, 102, 776, 102, 778, 102, 779, 102, 782, 102, 783, 102, 784, 102, 785, 102, 786, 102, 787, 102, 788, 102, 789, 102, 790, 102, 791, 102, 792, 102, 794, 102, 795, 102, 796, 102, 797, 102, 798, 102, 802, 102, 803] (by decide +kernel) (by decide +kernel) (by decide +kernel) (by decide +kernel)
theorem tj_117 : ts_jok 117 := ts_jok_of (ops := op_117) (own := RX10) (y := yX10_in) (bytes := cX10_in) rfl rfl rfl (by decide +kernel) [] (by decide +kernel) (by decide +kernel) (by decide +kernel) (by decide +kernel)
theorem tj_118 : ts_jok 118 := ts_jok_of (ops := op_118) (own := RX10) (y := yX10_days) (bytes := cX10_days) rfl rfl rfl (by decide +kernel) [889, 64, 890, 767, 767, 767, 767] (by decide +kernel) (by decide +kernel) (by decide +kernel) (by decide +kernel)
theorem tj_119 : ts_jok 119 := ts_jok_of (ops := op_119) (own := RX10) (y := yX10_byteOf) (bytes := cX10_byteOf) rfl rfl rfl (by decide +kernel) [] (by decide +kernel) (by decide +kernel) (by decide +kernel) (by decide +kernel)
theorem tj_120 : ts_jok 120 := ts_jok_of (ops := op_120) (own := RX10) (y := yX10_feed) (bytes := cX10_feed) rfl rfl rfl (by decide +kernel) [896, 64, 897, 773, 896, 64, 897, 772, 773, 773, 773, 773] (by decide +kernel) (by decide +kernel) (by decide +kernel) (by decide +kernel)
theorem tj_121 : ts_jok 121 := ts_jok_of (ops := op_121) (own := RX10) (y := yX10_end) (bytes := cX10_end) rfl rfl rfl (by decide +kernel) [773, 773] (by decide +kernel) (by decide +kernel) (by decide +kernel) (by decide +kernel)
theorem tj_122 : ts_jok 122 := ts_jok_of (ops := op_122) (own := RX10) (y := yX10_byteAt) (bytes := cX10_byteAt) rfl rfl rfl (by decide +kernel) [773, 772] (by decide +kernel) (by decide +kernel) (by decide +kernel) (by decide +kernel)
theorem tj_123 : ts_jok 123 := ts_jok_of (ops := op_123) (own := RX10) (y := yX10_isDigit) (bytes := cX10_isDigit) rfl rfl rfl (by decide +kernel) [] (by decide +kernel) (by decide +kernel) (by decide +kernel) (by decide +kernel)
theorem tj_124 : ts_jok 124 := ts_jok_of (ops := op_124) (own := RX10) (y := yX10_isSmall) (bytes := cX10_isSmall) rfl rfl rfl (by decide +kernel) [] (by decide +kernel) (by decide +kernel) (by decide +kernel) (by decide +kernel)
theorem tj_125 : ts_jok 125 := ts_jok_of (ops := op_125) (own := RX10) (y := yX10_digits) (bytes := cX10_digits) rfl rfl rfl (by decide +kernel) [911, 64, 913, 27, 934, 64, 935, 772, 780] (by decide +kernel) (by decide +kernel) (by decide +kernel) (by decide +kernel)
theorem tj_126 : ts_jok 126 := ts_jok_of (ops := op_126) (own := RX10) (y := yX10_most) (bytes := cX10_most) rfl rfl rfl (by decide +kernel) [] (by decide +kernel) (by decide +kernel) (by decide +kernel) (by decide +kernel)
theorem tj_127 : ts_jok 127 := ts_jok_of (ops := op_127) (own := RX10) (y := yX10_item) (bytes := cX10_item) rfl rfl rfl (by decide +kernel) [772, 774, 774, 774, 919, 64, 921, 29, 930, 64, 932, 31, 780, 937, 64, 938, 776, 780, 780, 777, 777, 911, 64, 913, 27, 930, 64, 932, 31, 780, 780, 776, 780, 777] (by decide +kernel) (by decide +kernel) (by decide +kernel) (by decide +kernel)
theorem tj_128 : ts_jok 128 := ts_jok_of (ops := op_128) (own := RX10) (y := yX10_isLikeRead) (bytes := cX10_isLikeRead) rfl rfl rfl (by decide +kernel) [779, 779, 779, 778, 778] (by decide +kernel) (by decide +kernel) (by decide +kernel) (by decide +kernel)
theorem tj_129 : ts_jok 129 := ts_jok_of (ops := op_129) (own := RX10) (y := yX10_names) (bytes := cX10_names) rfl rfl rfl (by decide +kernel) [775, 911, 64, 913, 27, 923, 64, 924, 775, 778, 775, 772, 775, 779, 775, 775, 775, 926, 64, 928, 30, 775, 775, 911, 64, 913, 27] (by decide +kernel) (by decide +kernel) (by decide +kernel) (by decide +kernel)
theorem tj_130 : ts_jok 130 := ts_jok_of (ops := op_130) (own := RX10) (y := yX10_blanks) (bytes := cX10_blanks) rfl rfl rfl (by decide +kernel) [911, 64, 913, 27] (by decide +kernel) (by decide +kernel) (by decide +kernel) (by decide +kernel)
theorem tj_131 : ts_jok 131 := ts_jok_of (ops := op_131) (own := RX10) (y := yX10_fault) (bytes := cX10_fault) rfl rfl rfl (by decide +kernel) [774, 775, 907, 64, 909, 26, 773, 773, 773, 915, 64, 917, 28, 773, 772, 907, 64, 909, 26] (by decide +kernel) (by decide +kernel) (by decide +kernel) (by decide +kernel)
theorem tj_132 : ts_jok 132 := ts_jok_of (ops := op_132) (own := RX10) (y := yX10_tell) (bytes := cX10_tell) rfl rfl rfl (by decide +kernel) [781, 781, 781, 782, 783, 767, 784, 774, 785, 787, 777, 788, 775, 786, 776, 789, 778, 790, 779, 773] (by decide +kernel) (by decide +kernel) (by decide +kernel) (by decide +kernel)
theorem tj_133 : ts_jok 133 := ts_jok_of (ops := op_133) (own := RX10) (y := yX10_report) (bytes := cX10_report) rfl rfl rfl (by decide +kernel) [768, 944, 64, 904, 905, 791, 768, 767, 768, 768, 768, 945, 64, 947, 32, 768] (by decide +kernel) (by decide +kernel) (by decide +kernel) (by decide +kernel)
theorem tj_134 : ts_jok 134 := ts_jok_of (ops := op_134) (own := RX10) (y := yX10_isReport) (bytes := cX10_isReport) rfl rfl rfl (by decide +kernel) [768, 889, 64, 890] (by decide +kernel) (by decide +kernel) (by decide +kernel) (by decide +kernel)
theorem tj_135 : ts_jok 135 := ts_jok_of (ops := op_135) (own := RX10) (y := yX10_correct) (bytes := cX10_correct) rfl rfl rfl (by decide +kernel) [953, 64, 955, 33, 769, 944, 64, 904, 905, 769, 769, 945, 64, 947, 32] (by decide +kernel) (by decide +kernel) (by decide +kernel) (by decide +kernel)
theorem tj_136 : ts_jok 136 := ts_jok_of (ops := op_136) (own := RX10) (y := yX10_deny) (bytes := cX10_deny) rfl rfl rfl (by decide +kernel) [953, 64, 955, 33, 889, 64, 890, 769, 769, 769, 781, 781, 781, 782, 783, 767, 784, 785] (by decide +kernel) (by decide +kernel) (by decide +kernel) (by decide +kernel)
theorem tj_137 : ts_jok 137 := ts_jok_of (ops := op_137) (own := RX10) (y := yX10_rowFor) (bytes := cX10_rowFor) rfl rfl rfl (by decide +kernel) [781, 782, 783, 784, 785] (by decide +kernel) (by decide +kernel) (by decide +kernel) (by decide +kernel)
theorem tj_138 : ts_jok 138 := ts_jok_of (ops := op_138) (own := RX10) (y := yX10_isKnown) (bytes := cX10_isKnown) rfl rfl rfl (by decide +kernel) [953, 64, 955, 33, 767, 889, 64, 890, 791] (by decide +kernel) (by decide +kernel) (by decide +kernel) (by decide +kernel)
theorem tj_139 : ts_jok 139 := ts_jok_of (ops := op_139) (own := RX10) (y := yX10_know) (bytes := cX10_know) rfl rfl rfl (by decide +kernel) [793, 768, 792, 969, 64, 971, 35, 791, 794, 793, 793, 793] (by decide +kernel) (by decide +kernel) (by decide +kernel) (by decide +kernel)
theorem tj_140 : ts_jok 140 := ts_jok_of (ops := op_140) (own := RX10) (y := yX10_has) (bytes := cX10_has) rfl rfl rfl (by decide +kernel) [792] (by decide +kernel) (by decide +kernel) (by decide +kernel) (by decide +kernel)
theorem tj_141 : ts_jok 141 := ts_jok_of (ops := op_141) (own := RX10) (y := yX10_get) (bytes := cX10_get) rfl rfl rfl (by decide +kernel) [786, 792] (by decide +kernel) (by decide +kernel) (by decide +kernel) (by decide +kernel)
theorem tj_142 : ts_jok 142 := ts_jok_of (ops := op_142) (own := RX10) (y := yX10_upperOf) (bytes := cX10_upperOf) rfl rfl rfl (by decide +kernel) [787, 792] (by decide +kernel) (by decide +kernel) (by decide +kernel) (by decide +kernel)
theorem tj_143 : ts_jok 143 := ts_jok_of (ops := op_143) (own := RX10) (y := yX10_field) (bytes := cX10_field) rfl rfl rfl (by decide +kernel) [965, 64, 967, 34, 889, 64, 890, 969, 64, 971, 35, 788, 786] (by decide +kernel) (by decide +kernel) (by decide +kernel) (by decide +kernel)
theorem tj_144 : ts_jok 144 := ts_jok_of (ops := op_144) (own := RX10) (y := yX10_upper) (bytes := cX10_upper) rfl rfl rfl (by decide +kernel) [965, 64, 967, 34, 969, 64, 971, 35, 787] (by decide +kernel) (by decide +kernel) (by decide +kernel) (by decide +kernel)
theorem tj_145 : ts_jok 145 := ts_jok_of (ops := op_145) (own := RX10) (y := yX10_letter) (bytes := cX10_letter) rfl rfl rfl (by decide +kernel) [965, 64, 967, 34, 969, 64, 971, 35, 788, 889, 64, 890, 790, 889, 64, 890, 789] (by decide +kernel) (by decide +kernel) (by decide +kernel) (by decide +kernel)
theorem tj_146 : ts_jok 146 := ts_jok_of (ops := op_146) (own := RX10) (y := yX10_hand) (bytes := cX10_hand) rfl rfl rfl (by decide +kernel) [953, 64, 955, 33, 953, 64, 955, 33, 889, 64, 890, 795, 795] (by decide +kernel) (by decide +kernel) (by decide +kernel) (by decide +kernel)
theorem tj_147 : ts_jok 147 := ts_jok_of (ops := op_147) (own := RX10) (y := yX10_opens) (bytes := cX10_opens) rfl rfl rfl (by decide +kernel) [889, 64, 890, 770] (by decide +kernel) (by decide +kernel) (by decide +kernel) (by decide +kernel)
theorem tj_148 : ts_jok 148 := ts_jok_of (ops := op_148) (own := RX10) (y := yX10_price) (bytes := cX10_price) rfl rfl rfl (by decide +kernel) [889, 64, 890, 771] (by decide +kernel) (by decide +kernel) (by decide +kernel) (by decide +kernel)
theorem tj_149 : ts_jok 149 := ts_jok_of (ops := op_149) (own := RX10) (y := yX10_isName) (bytes := cX10_isName) rfl rfl rfl (by decide +kernel) [790, 790, 789, 789] (by decide +kernel) (by decide +kernel) (by decide +kernel) (by decide +kernel)
theorem tj_150 : ts_jok 150 := ts_jok_of (ops := op_150) (own := RX10) (y := yX10_hasName) (bytes := cX10_hasName) rfl rfl rfl (by decide +kernel) [792, 788, 1026, 64, 1028, 43] (by decide +kernel) (by decide +kernel) (by decide +kernel) (by decide +kernel)
theorem tj_151 : ts_jok 151 := ts_jok_of (ops := op_151) (own := RX10) (y := yX10_namesOff) (bytes := cX10_namesOff) rfl rfl rfl (by decide +kernel) [792, 788, 1022, 64, 1024, 42, 793, 794, 1022, 64, 1024, 42] (by decide +kernel) (by decide +kernel) (by decide +kernel) (by decide +kernel)
theorem tj_152 : ts_jok 152 := ts_jok_of (ops := op_152) (own := RX10) (y := yX10_pairOf) (bytes := cX10_pairOf) rfl rfl rfl (by decide +kernel) [795, 1005, 64, 1007, 38, 1005, 64, 1007, 38, 1009, 64, 1011, 39, 1009, 64, 1011, 39, 1005, 64, 1007, 38, 1005, 64, 1007, 38, 1009, 64, 1011, 39, 1009, 64, 1011, 39, 1013, 559, 67, 560, 1005, 64, 1007, 38, 1005, 64, 1007, 38, 1009, 64, 1011, 39, 1009, 64, 1011, 39, 1005, 64, 1007, 38, 1005, 64, 1007, 38, 1009, 64, 1011, 39, 1014, 64, 1016, 40, 1009, 64, 1011, 39, 1014, 64, 1016, 40, 1018, 64, 1020, 41] (by decide +kernel) (by decide +kernel) (by decide +kernel) (by decide +kernel)
theorem tj_153 : ts_jok 153 := ts_jok_of (ops := op_153) (own := RX10) (y := yX10_pair) (bytes := cX10_pair) rfl rfl rfl (by decide +kernel) [965, 64, 967, 34, 965, 64, 967, 34, 997, 64, 999, 36, 1001, 64, 1003, 37] (by decide +kernel) (by decide +kernel) (by decide +kernel) (by decide +kernel)
theorem tj_154 : ts_jok 154 := ts_jok_of (ops := op_154) (own := RX10) (y := yX10_joining) (bytes := cX10_joining) rfl rfl rfl (by decide +kernel) [795, 794, 794, 797, 796, 1046, 796, 1046] (by decide +kernel) (by decide +kernel) (by decide +kernel) (by decide +kernel)
theorem tj_155 : ts_jok 155 := ts_jok_of (ops := op_155) (own := RX10) (y := yX10_place) (bytes := cX10_place) rfl rfl rfl (by decide +kernel) [793, 801, 799, 801, 799, 800, 793, 798, 797, 1042, 64, 1044, 46, 1046, 797, 770, 1038, 64, 1040, 45] (by decide +kernel) (by decide +kernel) (by decide +kernel) (by decide +kernel)
theorem tj_156 : ts_jok 156 := ts_jok_of (ops := op_156) (own := RX10) (y := yX10_groupAll) (bytes := cX10_groupAll) rfl rfl rfl (by decide +kernel) [997, 64, 999, 36, 793, 793, 796, 794, 794, 1001, 64, 1003, 37, 801, 799, 800, 1038, 64, 1040, 45, 801] (by decide +kernel) (by decide +kernel) (by decide +kernel) (by decide +kernel)
theorem tj_157 : ts_jok 157 := ts_jok_of (ops := op_157) (own := RX10) (y := yX10_placeOf) (bytes := cX10_placeOf) rfl rfl rfl (by decide +kernel) [794] (by decide +kernel) (by decide +kernel) (by decide +kernel) (by decide +kernel)
theorem tj_158 : ts_jok 158 := ts_jok_of (ops := op_158) (own := RX10) (y := yX10_group) (bytes := cX10_group) rfl rfl rfl (by decide +kernel) [965, 64, 967, 34, 1034, 64, 1036, 44, 798, 1047, 64, 1049, 47, 798, 794] (by decide +kernel) (by decide +kernel) (by decide +kernel) (by decide +kernel)
theorem tj_159 : ts_jok 159 := ts_jok_of (ops := op_159) (own := RX10) (y := yX10_cost) (bytes := cX10_cost) rfl rfl rfl (by decide +kernel) [767, 889, 64, 890, 1034, 64, 1036, 44, 799] (by decide +kernel) (by decide +kernel) (by decide +kernel) (by decide +kernel)
theorem tj_160 : ts_jok 160 := ts_jok_of (ops := op_160) (own := RX10) (y := yX10_groups) (bytes := cX10_groups) rfl rfl rfl (by decide +kernel) [767, 889, 64, 890, 1034, 64, 1036, 44, 800] (by decide +kernel) (by decide +kernel) (by decide +kernel) (by decide +kernel)
theorem tj_161 : ts_jok 161 := ts_jok_of (ops := op_161) (own := RX10) (y := yX10_common) (bytes := cX10_common) rfl rfl rfl (by decide +kernel) [793, 798, 794, 1005, 64, 1007, 38, 794, 1009, 64, 1011, 39] (by decide +kernel) (by decide +kernel) (by decide +kernel) (by decide +kernel)
theorem tj_162 : ts_jok 162 := ts_jok_of (ops := op_162) (own := RX10) (y := yX10_span) (bytes := cX10_span) rfl rfl rfl (by decide +kernel) [793, 798, 794, 1005, 64, 1007, 38, 794, 1014, 64, 1016, 40, 794, 1009, 64, 1011, 39, 1067, 599, 67, 600, 1068, 497, 67, 498] (by decide +kernel) (by decide +kernel) (by decide +kernel) (by decide +kernel)
theorem tj_163 : ts_jok 163 := ts_jok_of (ops := op_163) (own := RX10) (y := yX10_happening) (bytes := cX10_happening) rfl rfl rfl (by decide +kernel) [965, 64, 967, 34, 1034, 64, 1036, 44, 798, 1047, 64, 1049, 47, 793, 798, 1063, 64, 1065, 48, 1063, 64, 1065, 48, 1069, 64, 1071, 49, 1069, 64, 1071, 49, 1063, 64, 1065, 48, 1063, 64, 1065, 48, 1069, 64, 1071, 49] (by decide +kernel) (by decide +kernel) (by decide +kernel) (by decide +kernel)
theorem tj_164 : ts_jok 164 := ts_jok_of (ops := op_164) (own := RX10) (y := yX10_at) (bytes := cX10_at) rfl rfl rfl (by decide +kernel) [889, 64, 890, 767, 889, 64, 890, 1034, 64, 1036, 44, 800, 1069, 64, 1071, 49] (by decide +kernel) (by decide +kernel) (by decide +kernel) (by decide +kernel)
theorem tj_165 : ts_jok 165 := ts_jok_of (ops := op_165) (own := RX10) (y := yX10_shapeOf) (bytes := cX10_shapeOf) rfl rfl rfl (by decide +kernel) [1005, 64, 1007, 38] (by decide +kernel) (by decide +kernel) (by decide +kernel) (by decide +kernel)
theorem tj_166 : ts_jok 166 := ts_jok_of (ops := op_166) (own := RX10) (y := yX10_shape) (bytes := cX10_shape) rfl rfl rfl (by decide +kernel) [965, 64, 967, 34, 997, 64, 999, 36, 1081, 64, 1083, 50] (by decide +kernel) (by decide +kernel) (by decide +kernel) (by decide +kernel)
theorem tj_167 : ts_jok 167 := ts_jok_of (ops := op_167) (own := RX10) (y := yX10_misfit) (bytes := cX10_misfit) rfl rfl rfl (by decide +kernel) [1104, 68, 629, 1104, 68, 629] (by decide +kernel) (by decide +kernel) (by decide +kernel) (by decide +kernel)
theorem tj_168 : ts_jok 168 := ts_jok_of (ops := op_168) (own := RX10) (y := yX10_costOf) (bytes := cX10_costOf) rfl rfl rfl (by decide +kernel) [771, 793, 802, 1101, 64, 1102, 802, 1101, 64, 1102, 1067, 599, 67, 600, 802, 1101, 64, 1102, 1067, 599, 67, 600] (by decide +kernel) (by decide +kernel) (by decide +kernel) (by decide +kernel)
theorem tj_169 : ts_jok 169 := ts_jok_of (ops := op_169) (own := RX10) (y := yX10_tryForms) (bytes := cX10_tryForms) rfl rfl rfl (by decide +kernel) [1097, 64, 1099, 53, 804, 805, 804, 805, 803, 803, 803] (by decide +kernel) (by decide +kernel) (by decide +kernel) (by decide +kernel)
theorem tj_170 : ts_jok 170 := ts_jok_of (ops := op_170) (own := RX10) (y := yX10_findForms) (bytes := cX10_findForms) rfl rfl rfl (by decide +kernel) [997, 64, 999, 36, 804, 805, 793, 793, 802, 794, 1081, 64, 1083, 50, 1093, 64, 1095, 52, 1093, 64, 1095, 52, 1093, 64, 1095, 52] (by decide +kernel) (by decide +kernel) (by decide +kernel) (by decide +kernel)
theorem tj_171 : ts_jok 171 := ts_jok_of (ops := op_171) (own := RX10) (y := yX10_form) (bytes := cX10_form) rfl rfl rfl (by decide +kernel) [767, 889, 64, 890, 1089, 64, 1091, 51, 804, 889, 64, 890, 803] (by decide +kernel) (by decide +kernel) (by decide +kernel) (by decide +kernel)
theorem tj_172 : ts_jok 172 := ts_jok_of (ops := op_172) (own := RX10) (y := yX10_forms) (bytes := cX10_forms) rfl rfl rfl (by decide +kernel) [767, 889, 64, 890, 1089, 64, 1091, 51, 805] (by decide +kernel) (by decide +kernel) (by decide +kernel) (by decide +kernel)
theorem tj_173 : ts_jok 173 := ts_jok_of (ops := op_173) (own := RX10) (y := yX10_count) (bytes := cX10_count) rfl rfl rfl (by decide +kernel) [768, 795, 795, 767, 768, 769, 773] (by decide +kernel) (by decide +kernel) (by decide +kernel) (by decide +kernel)
theorem tj_174 : ts_jok 174 := ts_jok_of (ops := op_174) (own := RJ6) (y := yJ6_bitCount_0f7a4) (bytes := cJ6_bitCount_0f7a4) rfl rfl rfl (by decide +kernel) [631, 632, 632, 633] (by decide +kernel) (by decide +kernel) (by decide +kernel) (by decide +kernel)
end
section
theorem ts_ck2 {p : Nat × Instr × tm_X → Bool} {ops : List (Nat × Instr × tm_X)} {k : Nat} (h0 : ((ops.drop k).take 25).all p = true) (h1 : (ops.drop (k + 25)).all p = true) : (ops.drop k).all p = true := by
  rw [← List.take_append_drop 25 (ops.drop k), List.all_append, h0, List.drop_drop, h1]
  rfl
theorem lw_c0 : ((op_175.drop 0).take 25).all (fun q => decide (decode cL_law q.1 = .ok (q.2.1, ts_ln q.2.1 q.2.2))) = true := by decide +kernel
theorem lw_c25 : ((op_175.drop 25).take 25).all (fun q => decide (decode cL_law q.1 = .ok (q.2.1, ts_ln q.2.1 q.2.2))) = true := by decide +kernel
theorem lw_c50 : ((op_175.drop 50).take 25).all (fun q => decide (decode cL_law q.1 = .ok (q.2.1, ts_ln q.2.1 q.2.2))) = true := by decide +kernel
theorem lw_c75 : ((op_175.drop 75).take 25).all (fun q => decide (decode cL_law q.1 = .ok (q.2.1, ts_ln q.2.1 q.2.2))) = true := by decide +kernel
theorem lw_c100 : ((op_175.drop 100).take 25).all (fun q => decide (decode cL_law q.1 = .ok (q.2.1, ts_ln q.2.1 q.2.2))) = true := by decide +kernel
theorem lw_c125 : ((op_175.drop 125).take 25).all (fun q => decide (decode cL_law q.1 = .ok (q.2.1, ts_ln q.2.1 q.2.2))) = true := by decide +kernel
theorem lw_c150 : ((op_175.drop 150).take 25).all (fun q => decide (decode cL_law q.1 = .ok (q.2.1, ts_ln q.2.1 q.2.2))) = true := by decide +kernel
theorem lw_c175 : ((op_175.drop 175).take 25).all (fun q => decide (decode cL_law q.1 = .ok (q.2.1, ts_ln q.2.1 q.2.2))) = true := by decide +kernel
theorem lw_c200 : ((op_175.drop 200).take 25).all (fun q => decide (decode cL_law q.1 = .ok (q.2.1, ts_ln q.2.1 q.2.2))) = true := by decide +kernel
theorem lw_c225 : ((op_175.drop 225).take 25).all (fun q => decide (decode cL_law q.1 = .ok (q.2.1, ts_ln q.2.1 q.2.2))) = true := by decide +kernel
theorem lw_c250 : ((op_175.drop 250).take 25).all (fun q => decide (decode cL_law q.1 = .ok (q.2.1, ts_ln q.2.1 q.2.2))) = true := by decide +kernel
theorem lw_c275 : ((op_175.drop 275).take 25).all (fun q => decide (decode cL_law q.1 = .ok (q.2.1, ts_ln q.2.1 q.2.2))) = true := by decide +kernel
theorem lw_c300 : ((op_175.drop 300).take 25).all (fun q => decide (decode cL_law q.1 = .ok (q.2.1, ts_ln q.2.1 q.2.2))) = true := by decide +kernel
theorem lw_c325 : ((op_175.drop 325).take 25).all (fun q => decide (decode cL_law q.1 = .ok (q.2.1, ts_ln q.2.1 q.2.2))) = true := by decide +kernel
theorem lw_c350 : ((op_175.drop 350).take 25).all (fun q => decide (decode cL_law q.1 = .ok (q.2.1, ts_ln q.2.1 q.2.2))) = true := by decide +kernel
theorem lw_c375 : ((op_175.drop 375).take 25).all (fun q => decide (decode cL_law q.1 = .ok (q.2.1, ts_ln q.2.1 q.2.2))) = true := by decide +kernel
theorem lw_c400 : ((op_175.drop 400).take 25).all (fun q => decide (decode cL_law q.1 = .ok (q.2.1, ts_ln q.2.1 q.2.2))) = true := by decide +kernel
theorem lw_c425 : ((op_175.drop 425).take 25).all (fun q => decide (decode cL_law q.1 = .ok (q.2.1, ts_ln q.2.1 q.2.2))) = true := by decide +kernel
theorem lw_c450 : ((op_175.drop 450).take 25).all (fun q => decide (decode cL_law q.1 = .ok (q.2.1, ts_ln q.2.1 q.2.2))) = true := by decide +kernel
theorem lw_c475 : ((op_175.drop 475).take 25).all (fun q => decide (decode cL_law q.1 = .ok (q.2.1, ts_ln q.2.1 q.2.2))) = true := by decide +kernel
theorem lw_c500 : ((op_175.drop 500).take 25).all (fun q => decide (decode cL_law q.1 = .ok (q.2.1, ts_ln q.2.1 q.2.2))) = true := by decide +kernel
theorem lw_c525 : ((op_175.drop 525).take 25).all (fun q => decide (decode cL_law q.1 = .ok (q.2.1, ts_ln q.2.1 q.2.2))) = true := by decide +kernel
theorem lw_c550 : ((op_175.drop 550).take 25).all (fun q => decide (decode cL_law q.1 = .ok (q.2.1, ts_ln q.2.1 q.2.2))) = true := by decide +kernel
theorem lw_c575 : ((op_175.drop 575).take 25).all (fun q => decide (decode cL_law q.1 = .ok (q.2.1, ts_ln q.2.1 q.2.2))) = true := by decide +kernel
theorem lw_c600 : ((op_175.drop 600).take 25).all (fun q => decide (decode cL_law q.1 = .ok (q.2.1, ts_ln q.2.1 q.2.2))) = true := by decide +kernel
theorem lw_d625 : (op_175.drop 625).all (fun q => decide (decode cL_law q.1 = .ok (q.2.1, ts_ln q.2.1 q.2.2))) = true := by decide +kernel
theorem lw_d600 : (op_175.drop 600).all (fun q => decide (decode cL_law q.1 = .ok (q.2.1, ts_ln q.2.1 q.2.2))) = true := ts_ck2 lw_c600 lw_d625
theorem lw_d575 : (op_175.drop 575).all (fun q => decide (decode cL_law q.1 = .ok (q.2.1, ts_ln q.2.1 q.2.2))) = true := ts_ck2 lw_c575 lw_d600
theorem lw_d550 : (op_175.drop 550).all (fun q => decide (decode cL_law q.1 = .ok (q.2.1, ts_ln q.2.1 q.2.2))) = true := ts_ck2 lw_c550 lw_d575
theorem lw_d525 : (op_175.drop 525).all (fun q => decide (decode cL_law q.1 = .ok (q.2.1, ts_ln q.2.1 q.2.2))) = true := ts_ck2 lw_c525 lw_d550
theorem lw_d500 : (op_175.drop 500).all (fun q => decide (decode cL_law q.1 = .ok (q.2.1, ts_ln q.2.1 q.2.2))) = true := ts_ck2 lw_c500 lw_d525
theorem lw_d475 : (op_175.drop 475).all (fun q => decide (decode cL_law q.1 = .ok (q.2.1, ts_ln q.2.1 q.2.2))) = true := ts_ck2 lw_c475 lw_d500
theorem lw_d450 : (op_175.drop 450).all (fun q => decide (decode cL_law q.1 = .ok (q.2.1, ts_ln q.2.1 q.2.2))) = true := ts_ck2 lw_c450 lw_d475
theorem lw_d425 : (op_175.drop 425).all (fun q => decide (decode cL_law q.1 = .ok (q.2.1, ts_ln q.2.1 q.2.2))) = true := ts_ck2 lw_c425 lw_d450
theorem lw_d400 : (op_175.drop 400).all (fun q => decide (decode cL_law q.1 = .ok (q.2.1, ts_ln q.2.1 q.2.2))) = true := ts_ck2 lw_c400 lw_d425
theorem lw_d375 : (op_175.drop 375).all (fun q => decide (decode cL_law q.1 = .ok (q.2.1, ts_ln q.2.1 q.2.2))) = true := ts_ck2 lw_c375 lw_d400
theorem lw_d350 : (op_175.drop 350).all (fun q => decide (decode cL_law q.1 = .ok (q.2.1, ts_ln q.2.1 q.2.2))) = true := ts_ck2 lw_c350 lw_d375
theorem lw_d325 : (op_175.drop 325).all (fun q => decide (decode cL_law q.1 = .ok (q.2.1, ts_ln q.2.1 q.2.2))) = true := ts_ck2 lw_c325 lw_d350
theorem lw_d300 : (op_175.drop 300).all (fun q => decide (decode cL_law q.1 = .ok (q.2.1, ts_ln q.2.1 q.2.2))) = true := ts_ck2 lw_c300 lw_d325
theorem lw_d275 : (op_175.drop 275).all (fun q => decide (decode cL_law q.1 = .ok (q.2.1, ts_ln q.2.1 q.2.2))) = true := ts_ck2 lw_c275 lw_d300
theorem lw_d250 : (op_175.drop 250).all (fun q => decide (decode cL_law q.1 = .ok (q.2.1, ts_ln q.2.1 q.2.2))) = true := ts_ck2 lw_c250 lw_d275
theorem lw_d225 : (op_175.drop 225).all (fun q => decide (decode cL_law q.1 = .ok (q.2.1, ts_ln q.2.1 q.2.2))) = true := ts_ck2 lw_c225 lw_d250
theorem lw_d200 : (op_175.drop 200).all (fun q => decide (decode cL_law q.1 = .ok (q.2.1, ts_ln q.2.1 q.2.2))) = true := ts_ck2 lw_c200 lw_d225
theorem lw_d175 : (op_175.drop 175).all (fun q => decide (decode cL_law q.1 = .ok (q.2.1, ts_ln q.2.1 q.2.2))) = true := ts_ck2 lw_c175 lw_d200
theorem lw_d150 : (op_175.drop 150).all (fun q => decide (decode cL_law q.1 = .ok (q.2.1, ts_ln q.2.1 q.2.2))) = true := ts_ck2 lw_c150 lw_d175
theorem lw_d125 : (op_175.drop 125).all (fun q => decide (decode cL_law q.1 = .ok (q.2.1, ts_ln q.2.1 q.2.2))) = true := ts_ck2 lw_c125 lw_d150
theorem lw_d100 : (op_175.drop 100).all (fun q => decide (decode cL_law q.1 = .ok (q.2.1, ts_ln q.2.1 q.2.2))) = true := ts_ck2 lw_c100 lw_d125
theorem lw_d75 : (op_175.drop 75).all (fun q => decide (decode cL_law q.1 = .ok (q.2.1, ts_ln q.2.1 q.2.2))) = true := ts_ck2 lw_c75 lw_d100
theorem lw_d50 : (op_175.drop 50).all (fun q => decide (decode cL_law q.1 = .ok (q.2.1, ts_ln q.2.1 q.2.2))) = true := ts_ck2 lw_c50 lw_d75
theorem lw_d25 : (op_175.drop 25).all (fun q => decide (decode cL_law q.1 = .ok (q.2.1, ts_ln q.2.1 q.2.2))) = true := ts_ck2 lw_c25 lw_d50
theorem lw_d0 : (op_175.drop 0).all (fun q => decide (decode cL_law q.1 = .ok (q.2.1, ts_ln q.2.1 q.2.2))) = true := ts_ck2 lw_c0 lw_d25
set_option maxRecDepth 20000 in
theorem tj_175 : ts_jok 175 := ts_jok_of (ops := op_175) (own := RL) (y := yL_law) (bytes := cL_law) rfl rfl rfl lw_d0 [69, 70, 55, 71, 55, 72, 761, 762, 64, 763, 64, 764, 274, 55, 275, 276, 885, 64, 886, 887, 278, 55, 279, 280, 892, 64, 893, 894, 296, 55, 297, 298, 899, 64, 900, 901, 304, 55, 305, 306, 903, 64, 904, 905, 381, 55, 382, 383, 940, 64, 941, 942, 431, 55, 432, 433, 949, 64, 950, 951, 447, 55, 448, 449, 957, 64, 958, 959, 455, 55, 456, 457, 981, 64, 982, 983, 467, 55, 468, 469, 985, 64, 986, 987, 471, 55, 472, 473, 989, 64, 990, 991, 475, 55, 476, 477, 961, 64, 962, 963, 513, 55, 514, 515, 973, 64, 974, 975, 525, 55, 526, 527, 977, 64, 978, 979, 538, 55, 539, 540, 993, 64, 994, 995, 575, 55, 576, 577, 1030, 64, 1031, 1032, 645, 55, 646, 647, 1051, 64, 1052, 1053, 653, 55, 654, 655, 1055, 64, 1056, 1057, 662, 55, 663, 664, 1059, 64, 1060, 1061, 687, 55, 688, 689, 1073, 64, 1074, 1075, 691, 55, 692, 693, 1077, 64, 1078, 1079, 700, 55, 701, 702, 1085, 64, 1086, 1087, 741, 55, 742, 743, 1105, 64, 1106, 1107, 749, 55, 750, 751, 1109, 64, 1110, 1111] (by decide +kernel) (by decide +kernel) (by decide +kernel) (by decide +kernel)
end
section
theorem te_0 : Cond.code (ts_mt 0).2.1 (ts_mt 0).2.2.1 (ts_mt 0).2.2.2.1 (ts_mt 0).2.2.2.2 ∈ ts_G := List.mem_filter.mpr ⟨List.mem_of_getElem? (i := 87) (by decide +kernel), rfl⟩
theorem te_1 : Cond.code (ts_mt 1).2.1 (ts_mt 1).2.2.1 (ts_mt 1).2.2.2.1 (ts_mt 1).2.2.2.2 ∈ ts_G := List.mem_filter.mpr ⟨List.mem_of_getElem? (i := 315) (by decide +kernel), rfl⟩
theorem te_2 : Cond.code (ts_mt 2).2.1 (ts_mt 2).2.2.1 (ts_mt 2).2.2.2.1 (ts_mt 2).2.2.2.2 ∈ ts_G := List.mem_filter.mpr ⟨List.mem_of_getElem? (i := 380) (by decide +kernel), rfl⟩
theorem te_3 : Cond.code (ts_mt 3).2.1 (ts_mt 3).2.2.1 (ts_mt 3).2.2.2.1 (ts_mt 3).2.2.2.2 ∈ ts_G := List.mem_filter.mpr ⟨List.mem_of_getElem? (i := 337) (by decide +kernel), rfl⟩
theorem te_4 : Cond.code (ts_mt 4).2.1 (ts_mt 4).2.2.1 (ts_mt 4).2.2.2.1 (ts_mt 4).2.2.2.2 ∈ ts_G := List.mem_filter.mpr ⟨List.mem_of_getElem? (i := 511) (by decide +kernel), rfl⟩
theorem te_5 : Cond.code (ts_mt 5).2.1 (ts_mt 5).2.2.1 (ts_mt 5).2.2.2.1 (ts_mt 5).2.2.2.2 ∈ ts_G := List.mem_filter.mpr ⟨List.mem_of_getElem? (i := 524) (by decide +kernel), rfl⟩
theorem te_6 : Cond.code (ts_mt 6).2.1 (ts_mt 6).2.2.1 (ts_mt 6).2.2.2.1 (ts_mt 6).2.2.2.2 ∈ ts_G := List.mem_filter.mpr ⟨List.mem_of_getElem? (i := 537) (by decide +kernel), rfl⟩
theorem te_7 : Cond.code (ts_mt 7).2.1 (ts_mt 7).2.2.1 (ts_mt 7).2.2.2.1 (ts_mt 7).2.2.2.2 ∈ ts_G := List.mem_filter.mpr ⟨List.mem_of_getElem? (i := 533) (by decide +kernel), rfl⟩
theorem te_8 : Cond.code (ts_mt 8).2.1 (ts_mt 8).2.2.1 (ts_mt 8).2.2.2.1 (ts_mt 8).2.2.2.2 ∈ ts_G := List.mem_filter.mpr ⟨List.mem_of_getElem? (i := 349) (by decide +kernel), rfl⟩
theorem te_9 : Cond.code (ts_mt 9).2.1 (ts_mt 9).2.2.1 (ts_mt 9).2.2.2.1 (ts_mt 9).2.2.2.2 ∈ ts_G := List.mem_filter.mpr ⟨List.mem_of_getElem? (i := 357) (by decide +kernel), rfl⟩
theorem te_10 : Cond.code (ts_mt 10).2.1 (ts_mt 10).2.2.1 (ts_mt 10).2.2.2.1 (ts_mt 10).2.2.2.2 ∈ ts_G := List.mem_filter.mpr ⟨List.mem_of_getElem? (i := 371) (by decide +kernel), rfl⟩
theorem te_11 : Cond.code (ts_mt 11).2.1 (ts_mt 11).2.2.1 (ts_mt 11).2.2.2.1 (ts_mt 11).2.2.2.2 ∈ ts_G := List.mem_filter.mpr ⟨List.mem_of_getElem? (i := 353) (by decide +kernel), rfl⟩
theorem te_12 : Cond.code (ts_mt 12).2.1 (ts_mt 12).2.2.1 (ts_mt 12).2.2.2.1 (ts_mt 12).2.2.2.2 ∈ ts_G := List.mem_filter.mpr ⟨List.mem_of_getElem? (i := 400) (by decide +kernel), rfl⟩
theorem te_13 : Cond.code (ts_mt 13).2.1 (ts_mt 13).2.2.1 (ts_mt 13).2.2.2.1 (ts_mt 13).2.2.2.2 ∈ ts_G := List.mem_filter.mpr ⟨List.mem_of_getElem? (i := 215) (by decide +kernel), rfl⟩
theorem te_14 : Cond.code (ts_mt 14).2.1 (ts_mt 14).2.2.1 (ts_mt 14).2.2.2.1 (ts_mt 14).2.2.2.2 ∈ ts_G := List.mem_filter.mpr ⟨List.mem_of_getElem? (i := 711) (by decide +kernel), rfl⟩
theorem te_15 : Cond.code (ts_mt 15).2.1 (ts_mt 15).2.2.1 (ts_mt 15).2.2.2.1 (ts_mt 15).2.2.2.2 ∈ ts_G := List.mem_filter.mpr ⟨List.mem_of_getElem? (i := 717) (by decide +kernel), rfl⟩
theorem te_16 : Cond.code (ts_mt 16).2.1 (ts_mt 16).2.2.1 (ts_mt 16).2.2.2.1 (ts_mt 16).2.2.2.2 ∈ ts_G := List.mem_filter.mpr ⟨List.mem_of_getElem? (i := 724) (by decide +kernel), rfl⟩
theorem te_17 : Cond.code (ts_mt 17).2.1 (ts_mt 17).2.2.1 (ts_mt 17).2.2.2.1 (ts_mt 17).2.2.2.2 ∈ ts_G := List.mem_filter.mpr ⟨List.mem_of_getElem? (i := 732) (by decide +kernel), rfl⟩
theorem te_18 : Cond.code (ts_mt 18).2.1 (ts_mt 18).2.2.1 (ts_mt 18).2.2.2.1 (ts_mt 18).2.2.2.2 ∈ ts_G := List.mem_filter.mpr ⟨List.mem_of_getElem? (i := 736) (by decide +kernel), rfl⟩
theorem te_19 : Cond.code (ts_mt 19).2.1 (ts_mt 19).2.2.1 (ts_mt 19).2.2.2.1 (ts_mt 19).2.2.2.2 ∈ ts_G := List.mem_filter.mpr ⟨List.mem_of_getElem? (i := 728) (by decide +kernel), rfl⟩
theorem te_20 : Cond.code (ts_mt 20).2.1 (ts_mt 20).2.2.1 (ts_mt 20).2.2.2.1 (ts_mt 20).2.2.2.2 ∈ ts_G := List.mem_filter.mpr ⟨List.mem_of_getElem? (i := 740) (by decide +kernel), rfl⟩
theorem te_21 : Cond.code (ts_mt 21).2.1 (ts_mt 21).2.2.1 (ts_mt 21).2.2.2.1 (ts_mt 21).2.2.2.2 ∈ ts_G := List.mem_filter.mpr ⟨List.mem_of_getElem? (i := 748) (by decide +kernel), rfl⟩
theorem te_22 : Cond.code (ts_mt 22).2.1 (ts_mt 22).2.2.1 (ts_mt 22).2.2.2.1 (ts_mt 22).2.2.2.2 ∈ ts_G := List.mem_filter.mpr ⟨List.mem_of_getElem? (i := 189) (by decide +kernel), rfl⟩
theorem te_23 : Cond.code (ts_mt 23).2.1 (ts_mt 23).2.2.1 (ts_mt 23).2.2.2.1 (ts_mt 23).2.2.2.2 ∈ ts_G := List.mem_filter.mpr ⟨List.mem_of_getElem? (i := 596) (by decide +kernel), rfl⟩
theorem te_24 : Cond.code (ts_mt 24).2.1 (ts_mt 24).2.2.1 (ts_mt 24).2.2.2.1 (ts_mt 24).2.2.2.2 ∈ ts_G := List.mem_filter.mpr ⟨List.mem_of_getElem? (i := 607) (by decide +kernel), rfl⟩
theorem te_25 : Cond.code (ts_mt 25).2.1 (ts_mt 25).2.2.1 (ts_mt 25).2.2.2.1 (ts_mt 25).2.2.2.2 ∈ ts_G := List.mem_filter.mpr ⟨List.mem_of_getElem? (i := 604) (by decide +kernel), rfl⟩
theorem te_26 : Cond.code (ts_mt 26).2.1 (ts_mt 26).2.2.1 (ts_mt 26).2.2.2.1 (ts_mt 26).2.2.2.2 ∈ ts_G := List.mem_filter.mpr ⟨List.mem_of_getElem? (i := 610) (by decide +kernel), rfl⟩
theorem te_27 : Cond.code (ts_mt 27).2.1 (ts_mt 27).2.2.1 (ts_mt 27).2.2.2.1 (ts_mt 27).2.2.2.2 ∈ ts_G := List.mem_filter.mpr ⟨List.mem_of_getElem? (i := 619) (by decide +kernel), rfl⟩
theorem te_28 : Cond.code (ts_mt 28).2.1 (ts_mt 28).2.2.1 (ts_mt 28).2.2.2.1 (ts_mt 28).2.2.2.2 ∈ ts_G := List.mem_filter.mpr ⟨List.mem_of_getElem? (i := 627) (by decide +kernel), rfl⟩
theorem te_29 : Cond.code (ts_mt 29).2.1 (ts_mt 29).2.2.1 (ts_mt 29).2.2.2.1 (ts_mt 29).2.2.2.2 ∈ ts_G := List.mem_filter.mpr ⟨List.mem_of_getElem? (i := 640) (by decide +kernel), rfl⟩
theorem te_30 : Cond.code (ts_mt 30).2.1 (ts_mt 30).2.2.1 (ts_mt 30).2.2.2.1 (ts_mt 30).2.2.2.2 ∈ ts_G := List.mem_filter.mpr ⟨List.mem_of_getElem? (i := 652) (by decide +kernel), rfl⟩
theorem te_31 : Cond.code (ts_mt 31).2.1 (ts_mt 31).2.2.1 (ts_mt 31).2.2.2.1 (ts_mt 31).2.2.2.2 ∈ ts_G := List.mem_filter.mpr ⟨List.mem_of_getElem? (i := 644) (by decide +kernel), rfl⟩
theorem te_32 : Cond.code (ts_mt 32).2.1 (ts_mt 32).2.2.1 (ts_mt 32).2.2.2.1 (ts_mt 32).2.2.2.2 ∈ ts_G := List.mem_filter.mpr ⟨List.mem_of_getElem? (i := 660) (by decide +kernel), rfl⟩
theorem te_33 : Cond.code (ts_mt 33).2.1 (ts_mt 33).2.2.1 (ts_mt 33).2.2.2.1 (ts_mt 33).2.2.2.2 ∈ ts_G := List.mem_filter.mpr ⟨List.mem_of_getElem? (i := 686) (by decide +kernel), rfl⟩
theorem te_34 : Cond.code (ts_mt 34).2.1 (ts_mt 34).2.2.1 (ts_mt 34).2.2.2.1 (ts_mt 34).2.2.2.2 ∈ ts_G := List.mem_filter.mpr ⟨List.mem_of_getElem? (i := 163) (by decide +kernel), rfl⟩
theorem te_35 : Cond.code (ts_mt 35).2.1 (ts_mt 35).2.2.1 (ts_mt 35).2.2.2.1 (ts_mt 35).2.2.2.2 ∈ ts_G := List.mem_filter.mpr ⟨List.mem_of_getElem? (i := 466) (by decide +kernel), rfl⟩
theorem te_36 : Cond.code (ts_mt 36).2.1 (ts_mt 36).2.2.1 (ts_mt 36).2.2.2.1 (ts_mt 36).2.2.2.2 ∈ ts_G := List.mem_filter.mpr ⟨List.mem_of_getElem? (i := 463) (by decide +kernel), rfl⟩
theorem te_37 : Cond.code (ts_mt 37).2.1 (ts_mt 37).2.2.1 (ts_mt 37).2.2.2.1 (ts_mt 37).2.2.2.2 ∈ ts_G := List.mem_filter.mpr ⟨List.mem_of_getElem? (i := 549) (by decide +kernel), rfl⟩
theorem te_38 : Cond.code (ts_mt 38).2.1 (ts_mt 38).2.2.1 (ts_mt 38).2.2.2.1 (ts_mt 38).2.2.2.2 ∈ ts_G := List.mem_filter.mpr ⟨List.mem_of_getElem? (i := 760) (by decide +kernel), rfl⟩
theorem te_39 : Cond.code (ts_mt 39).2.1 (ts_mt 39).2.2.1 (ts_mt 39).2.2.2.1 (ts_mt 39).2.2.2.2 ∈ ts_G := List.mem_filter.mpr ⟨List.mem_of_getElem? (i := 147) (by decide +kernel), rfl⟩
theorem te_40 : Cond.code (ts_mt 40).2.1 (ts_mt 40).2.2.1 (ts_mt 40).2.2.2.1 (ts_mt 40).2.2.2.2 ∈ ts_G := List.mem_filter.mpr ⟨List.mem_of_getElem? (i := 490) (by decide +kernel), rfl⟩
theorem te_41 : Cond.code (ts_mt 41).2.1 (ts_mt 41).2.2.1 (ts_mt 41).2.2.2.1 (ts_mt 41).2.2.2.2 ∈ ts_G := List.mem_filter.mpr ⟨List.mem_of_getElem? (i := 495) (by decide +kernel), rfl⟩
theorem te_42 : Cond.code (ts_mt 42).2.1 (ts_mt 42).2.2.1 (ts_mt 42).2.2.2.1 (ts_mt 42).2.2.2.2 ∈ ts_G := List.mem_filter.mpr ⟨List.mem_of_getElem? (i := 590) (by decide +kernel), rfl⟩
theorem te_43 : Cond.code (ts_mt 43).2.1 (ts_mt 43).2.2.1 (ts_mt 43).2.2.2.1 (ts_mt 43).2.2.2.2 ∈ ts_G := List.mem_filter.mpr ⟨List.mem_of_getElem? (i := 507) (by decide +kernel), rfl⟩
theorem te_44 : Cond.code (ts_mt 44).2.1 (ts_mt 44).2.2.1 (ts_mt 44).2.2.2.1 (ts_mt 44).2.2.2.2 ∈ ts_G := List.mem_filter.mpr ⟨List.mem_of_getElem? (i := 503) (by decide +kernel), rfl⟩
theorem te_45 : Cond.code (ts_mt 45).2.1 (ts_mt 45).2.2.1 (ts_mt 45).2.2.2.1 (ts_mt 45).2.2.2.2 ∈ ts_G := List.mem_filter.mpr ⟨List.mem_of_getElem? (i := 520) (by decide +kernel), rfl⟩
theorem te_46 : Cond.code (ts_mt 46).2.1 (ts_mt 46).2.2.1 (ts_mt 46).2.2.2.1 (ts_mt 46).2.2.2.2 ∈ ts_G := List.mem_filter.mpr ⟨List.mem_of_getElem? (i := 698) (by decide +kernel), rfl⟩
theorem te_47 : Cond.code (ts_mt 47).2.1 (ts_mt 47).2.2.1 (ts_mt 47).2.2.2.1 (ts_mt 47).2.2.2.2 ∈ ts_G := List.mem_filter.mpr ⟨List.mem_of_getElem? (i := 569) (by decide +kernel), rfl⟩
theorem te_48 : Cond.code (ts_mt 48).2.1 (ts_mt 48).2.2.1 (ts_mt 48).2.2.2.1 (ts_mt 48).2.2.2.2 ∈ ts_G := List.mem_filter.mpr ⟨List.mem_of_getElem? (i := 121) (by decide +kernel), rfl⟩
theorem te_49 : Cond.code (ts_mt 49).2.1 (ts_mt 49).2.2.1 (ts_mt 49).2.2.2.1 (ts_mt 49).2.2.2.2 ∈ ts_G := List.mem_filter.mpr ⟨List.mem_of_getElem? (i := 388) (by decide +kernel), rfl⟩
theorem te_50 : Cond.code (ts_mt 50).2.1 (ts_mt 50).2.2.1 (ts_mt 50).2.2.2.1 (ts_mt 50).2.2.2.2 ∈ ts_G := List.mem_filter.mpr ⟨List.mem_of_getElem? (i := 756) (by decide +kernel), rfl⟩
theorem te_51 : Cond.code (ts_mt 51).2.1 (ts_mt 51).2.2.1 (ts_mt 51).2.2.2.1 (ts_mt 51).2.2.2.2 ∈ ts_G := List.mem_filter.mpr ⟨List.mem_of_getElem? (i := 442) (by decide +kernel), rfl⟩
theorem te_52 : Cond.code (ts_mt 52).2.1 (ts_mt 52).2.2.1 (ts_mt 52).2.2.2.1 (ts_mt 52).2.2.2.2 ∈ ts_G := List.mem_filter.mpr ⟨List.mem_of_getElem? (i := 438) (by decide +kernel), rfl⟩
theorem te_53 : Cond.code (ts_mt 53).2.1 (ts_mt 53).2.2.1 (ts_mt 53).2.2.2.1 (ts_mt 53).2.2.2.2 ∈ ts_G := List.mem_filter.mpr ⟨List.mem_of_getElem? (i := 392) (by decide +kernel), rfl⟩
theorem te_54 : Cond.code (ts_mt 54).2.1 (ts_mt 54).2.2.1 (ts_mt 54).2.2.2.1 (ts_mt 54).2.2.2.2 ∈ ts_G := List.mem_filter.mpr ⟨List.mem_of_getElem? (i := 446) (by decide +kernel), rfl⟩
theorem te_55 : Cond.code (ts_mt 55).2.1 (ts_mt 55).2.2.1 (ts_mt 55).2.2.2.1 (ts_mt 55).2.2.2.2 ∈ ts_G := List.mem_filter.mpr ⟨List.mem_of_getElem? (i := 454) (by decide +kernel), rfl⟩
theorem te_56 : Cond.code (ts_mt 56).2.1 (ts_mt 56).2.2.1 (ts_mt 56).2.2.2.1 (ts_mt 56).2.2.2.2 ∈ ts_G := List.mem_filter.mpr ⟨List.mem_of_getElem? (i := 396) (by decide +kernel), rfl⟩
theorem te_57 : Cond.code (ts_mt 57).2.1 (ts_mt 57).2.2.1 (ts_mt 57).2.2.2.1 (ts_mt 57).2.2.2.2 ∈ ts_G := List.mem_filter.mpr ⟨List.mem_of_getElem? (i := 430) (by decide +kernel), rfl⟩
theorem te_58 : Cond.code (ts_mt 58).2.1 (ts_mt 58).2.2.1 (ts_mt 58).2.2.2.1 (ts_mt 58).2.2.2.2 ∈ ts_G := List.mem_filter.mpr ⟨List.mem_of_getElem? (i := 486) (by decide +kernel), rfl⟩
theorem te_59 : Cond.code (ts_mt 59).2.1 (ts_mt 59).2.2.1 (ts_mt 59).2.2.2.1 (ts_mt 59).2.2.2.2 ∈ ts_G := List.mem_filter.mpr ⟨List.mem_of_getElem? (i := 175) (by decide +kernel), rfl⟩
theorem te_60 : Cond.code (ts_mt 60).2.1 (ts_mt 60).2.2.1 (ts_mt 60).2.2.2.1 (ts_mt 60).2.2.2.2 ∈ ts_G := List.mem_filter.mpr ⟨List.mem_of_getElem? (i := 586) (by decide +kernel), rfl⟩
theorem te_61 : Cond.code (ts_mt 61).2.1 (ts_mt 61).2.2.1 (ts_mt 61).2.2.2.1 (ts_mt 61).2.2.2.2 ∈ ts_G := List.mem_filter.mpr ⟨List.mem_of_getElem? (i := 614) (by decide +kernel), rfl⟩
theorem te_62 : Cond.code (ts_mt 62).2.1 (ts_mt 62).2.2.1 (ts_mt 62).2.2.2.1 (ts_mt 62).2.2.2.2 ∈ ts_G := List.mem_filter.mpr ⟨List.mem_of_getElem? (i := 623) (by decide +kernel), rfl⟩
theorem te_63 : Cond.code (ts_mt 63).2.1 (ts_mt 63).2.2.1 (ts_mt 63).2.2.2.1 (ts_mt 63).2.2.2.2 ∈ ts_G := List.mem_filter.mpr ⟨List.mem_of_getElem? (i := 544) (by decide +kernel), rfl⟩
theorem te_64 : Cond.code (ts_mt 64).2.1 (ts_mt 64).2.2.1 (ts_mt 64).2.2.2.1 (ts_mt 64).2.2.2.2 ∈ ts_G := List.mem_filter.mpr ⟨List.mem_of_getElem? (i := 552) (by decide +kernel), rfl⟩
theorem te_65 : Cond.code (ts_mt 65).2.1 (ts_mt 65).2.2.1 (ts_mt 65).2.2.2.1 (ts_mt 65).2.2.2.2 ∈ ts_G := List.mem_filter.mpr ⟨List.mem_of_getElem? (i := 557) (by decide +kernel), rfl⟩
theorem te_66 : Cond.code (ts_mt 66).2.1 (ts_mt 66).2.2.1 (ts_mt 66).2.2.2.1 (ts_mt 66).2.2.2.2 ∈ ts_G := List.mem_filter.mpr ⟨List.mem_of_getElem? (i := 573) (by decide +kernel), rfl⟩
theorem te_67 : Cond.code (ts_mt 67).2.1 (ts_mt 67).2.2.1 (ts_mt 67).2.2.2.1 (ts_mt 67).2.2.2.2 ∈ ts_G := List.mem_filter.mpr ⟨List.mem_of_getElem? (i := 563) (by decide +kernel), rfl⟩
theorem te_68 : Cond.code (ts_mt 68).2.1 (ts_mt 68).2.2.1 (ts_mt 68).2.2.2.1 (ts_mt 68).2.2.2.2 ∈ ts_G := List.mem_filter.mpr ⟨List.mem_of_getElem? (i := 81) (by decide +kernel), rfl⟩
theorem te_69 : Cond.code (ts_mt 69).2.1 (ts_mt 69).2.2.1 (ts_mt 69).2.2.2.1 (ts_mt 69).2.2.2.2 ∈ ts_G := List.mem_filter.mpr ⟨List.mem_of_getElem? (i := 287) (by decide +kernel), rfl⟩
theorem te_70 : Cond.code (ts_mt 70).2.1 (ts_mt 70).2.2.1 (ts_mt 70).2.2.2.1 (ts_mt 70).2.2.2.2 ∈ ts_G := List.mem_filter.mpr ⟨List.mem_of_getElem? (i := 284) (by decide +kernel), rfl⟩
theorem te_71 : Cond.code (ts_mt 71).2.1 (ts_mt 71).2.2.1 (ts_mt 71).2.2.2.1 (ts_mt 71).2.2.2.2 ∈ ts_G := List.mem_filter.mpr ⟨List.mem_of_getElem? (i := 291) (by decide +kernel), rfl⟩
theorem te_72 : Cond.code (ts_mt 72).2.1 (ts_mt 72).2.2.1 (ts_mt 72).2.2.2.1 (ts_mt 72).2.2.2.2 ∈ ts_G := List.mem_filter.mpr ⟨List.mem_of_getElem? (i := 295) (by decide +kernel), rfl⟩
theorem te_73 : Cond.code (ts_mt 73).2.1 (ts_mt 73).2.2.1 (ts_mt 73).2.2.2.1 (ts_mt 73).2.2.2.2 ∈ ts_G := List.mem_filter.mpr ⟨List.mem_of_getElem? (i := 303) (by decide +kernel), rfl⟩
theorem te_74 : Cond.code (ts_mt 74).2.1 (ts_mt 74).2.2.1 (ts_mt 74).2.2.2.1 (ts_mt 74).2.2.2.2 ∈ ts_G := List.mem_filter.mpr ⟨List.mem_of_getElem? (i := 311) (by decide +kernel), rfl⟩
theorem te_75 : Cond.code (ts_mt 75).2.1 (ts_mt 75).2.2.1 (ts_mt 75).2.2.2.1 (ts_mt 75).2.2.2.2 ∈ ts_G := List.mem_filter.mpr ⟨List.mem_of_getElem? (i := 323) (by decide +kernel), rfl⟩
theorem te_76 : Cond.code (ts_mt 76).2.1 (ts_mt 76).2.2.1 (ts_mt 76).2.2.2.1 (ts_mt 76).2.2.2.2 ∈ ts_G := List.mem_filter.mpr ⟨List.mem_of_getElem? (i := 319) (by decide +kernel), rfl⟩
theorem te_77 : Cond.code (ts_mt 77).2.1 (ts_mt 77).2.2.1 (ts_mt 77).2.2.2.1 (ts_mt 77).2.2.2.2 ∈ ts_G := List.mem_filter.mpr ⟨List.mem_of_getElem? (i := 327) (by decide +kernel), rfl⟩
theorem te_78 : Cond.code (ts_mt 78).2.1 (ts_mt 78).2.2.1 (ts_mt 78).2.2.2.1 (ts_mt 78).2.2.2.2 ∈ ts_G := List.mem_filter.mpr ⟨List.mem_of_getElem? (i := 331) (by decide +kernel), rfl⟩
theorem te_79 : Cond.code (ts_mt 79).2.1 (ts_mt 79).2.2.1 (ts_mt 79).2.2.2.1 (ts_mt 79).2.2.2.2 ∈ ts_G := List.mem_filter.mpr ⟨List.mem_of_getElem? (i := 375) (by decide +kernel), rfl⟩
theorem te_80 : Cond.code (ts_mt 80).2.1 (ts_mt 80).2.2.1 (ts_mt 80).2.2.2.1 (ts_mt 80).2.2.2.2 ∈ ts_G := List.mem_filter.mpr ⟨List.mem_of_getElem? (i := 361) (by decide +kernel), rfl⟩
theorem te_81 : Cond.code (ts_mt 81).2.1 (ts_mt 81).2.2.1 (ts_mt 81).2.2.2.1 (ts_mt 81).2.2.2.2 ∈ ts_G := List.mem_filter.mpr ⟨List.mem_of_getElem? (i := 365) (by decide +kernel), rfl⟩
theorem te_82 : Cond.code (ts_mt 82).2.1 (ts_mt 82).2.2.1 (ts_mt 82).2.2.2.1 (ts_mt 82).2.2.2.2 ∈ ts_G := List.mem_filter.mpr ⟨List.mem_of_getElem? (i := 341) (by decide +kernel), rfl⟩
theorem te_83 : Cond.code (ts_mt 83).2.1 (ts_mt 83).2.2.1 (ts_mt 83).2.2.2.1 (ts_mt 83).2.2.2.2 ∈ ts_G := List.mem_filter.mpr ⟨List.mem_of_getElem? (i := 345) (by decide +kernel), rfl⟩
theorem te_84 : Cond.code (ts_mt 84).2.1 (ts_mt 84).2.2.1 (ts_mt 84).2.2.2.1 (ts_mt 84).2.2.2.2 ∈ ts_G := List.mem_filter.mpr ⟨List.mem_of_getElem? (i := 408) (by decide +kernel), rfl⟩
theorem te_85 : Cond.code (ts_mt 85).2.1 (ts_mt 85).2.2.1 (ts_mt 85).2.2.2.1 (ts_mt 85).2.2.2.2 ∈ ts_G := List.mem_filter.mpr ⟨List.mem_of_getElem? (i := 73) (by decide +kernel), rfl⟩
theorem te_86 : Cond.code (ts_mt 86).2.1 (ts_mt 86).2.2.1 (ts_mt 86).2.2.2.1 (ts_mt 86).2.2.2.2 ∈ ts_G := List.mem_filter.mpr ⟨List.mem_of_getElem? (i := 277) (by decide +kernel), rfl⟩
theorem te_87 : Cond.code (ts_mt 87).2.1 (ts_mt 87).2.2.1 (ts_mt 87).2.2.2.1 (ts_mt 87).2.2.2.2 ∈ ts_G := List.mem_filter.mpr ⟨List.mem_of_getElem? (i := 281) (by decide +kernel), rfl⟩
theorem te_88 : Cond.code (ts_mt 88).2.1 (ts_mt 88).2.2.1 (ts_mt 88).2.2.2.1 (ts_mt 88).2.2.2.2 ∈ ts_G := List.mem_filter.mpr ⟨List.mem_of_getElem? (i := 299) (by decide +kernel), rfl⟩
theorem te_89 : Cond.code (ts_mt 89).2.1 (ts_mt 89).2.2.1 (ts_mt 89).2.2.2.1 (ts_mt 89).2.2.2.2 ∈ ts_G := List.mem_filter.mpr ⟨List.mem_of_getElem? (i := 307) (by decide +kernel), rfl⟩
theorem te_90 : Cond.code (ts_mt 90).2.1 (ts_mt 90).2.2.1 (ts_mt 90).2.2.2.1 (ts_mt 90).2.2.2.2 ∈ ts_G := List.mem_filter.mpr ⟨List.mem_of_getElem? (i := 384) (by decide +kernel), rfl⟩
theorem te_91 : Cond.code (ts_mt 91).2.1 (ts_mt 91).2.2.1 (ts_mt 91).2.2.2.1 (ts_mt 91).2.2.2.2 ∈ ts_G := List.mem_filter.mpr ⟨List.mem_of_getElem? (i := 434) (by decide +kernel), rfl⟩
theorem te_92 : Cond.code (ts_mt 92).2.1 (ts_mt 92).2.2.1 (ts_mt 92).2.2.2.1 (ts_mt 92).2.2.2.2 ∈ ts_G := List.mem_filter.mpr ⟨List.mem_of_getElem? (i := 450) (by decide +kernel), rfl⟩
theorem te_93 : Cond.code (ts_mt 93).2.1 (ts_mt 93).2.2.1 (ts_mt 93).2.2.2.1 (ts_mt 93).2.2.2.2 ∈ ts_G := List.mem_filter.mpr ⟨List.mem_of_getElem? (i := 458) (by decide +kernel), rfl⟩
theorem te_94 : Cond.code (ts_mt 94).2.1 (ts_mt 94).2.2.1 (ts_mt 94).2.2.2.1 (ts_mt 94).2.2.2.2 ∈ ts_G := List.mem_filter.mpr ⟨List.mem_of_getElem? (i := 470) (by decide +kernel), rfl⟩
theorem te_95 : Cond.code (ts_mt 95).2.1 (ts_mt 95).2.2.1 (ts_mt 95).2.2.2.1 (ts_mt 95).2.2.2.2 ∈ ts_G := List.mem_filter.mpr ⟨List.mem_of_getElem? (i := 474) (by decide +kernel), rfl⟩
theorem te_96 : Cond.code (ts_mt 96).2.1 (ts_mt 96).2.2.1 (ts_mt 96).2.2.2.1 (ts_mt 96).2.2.2.2 ∈ ts_G := List.mem_filter.mpr ⟨List.mem_of_getElem? (i := 478) (by decide +kernel), rfl⟩
theorem te_97 : Cond.code (ts_mt 97).2.1 (ts_mt 97).2.2.1 (ts_mt 97).2.2.2.1 (ts_mt 97).2.2.2.2 ∈ ts_G := List.mem_filter.mpr ⟨List.mem_of_getElem? (i := 516) (by decide +kernel), rfl⟩
theorem te_98 : Cond.code (ts_mt 98).2.1 (ts_mt 98).2.2.1 (ts_mt 98).2.2.2.1 (ts_mt 98).2.2.2.2 ∈ ts_G := List.mem_filter.mpr ⟨List.mem_of_getElem? (i := 528) (by decide +kernel), rfl⟩
theorem te_99 : Cond.code (ts_mt 99).2.1 (ts_mt 99).2.2.1 (ts_mt 99).2.2.2.1 (ts_mt 99).2.2.2.2 ∈ ts_G := List.mem_filter.mpr ⟨List.mem_of_getElem? (i := 541) (by decide +kernel), rfl⟩
theorem te_100 : Cond.code (ts_mt 100).2.1 (ts_mt 100).2.2.1 (ts_mt 100).2.2.2.1 (ts_mt 100).2.2.2.2 ∈ ts_G := List.mem_filter.mpr ⟨List.mem_of_getElem? (i := 578) (by decide +kernel), rfl⟩
theorem te_101 : Cond.code (ts_mt 101).2.1 (ts_mt 101).2.2.1 (ts_mt 101).2.2.2.1 (ts_mt 101).2.2.2.2 ∈ ts_G := List.mem_filter.mpr ⟨List.mem_of_getElem? (i := 648) (by decide +kernel), rfl⟩
theorem te_102 : Cond.code (ts_mt 102).2.1 (ts_mt 102).2.2.1 (ts_mt 102).2.2.2.1 (ts_mt 102).2.2.2.2 ∈ ts_G := List.mem_filter.mpr ⟨List.mem_of_getElem? (i := 656) (by decide +kernel), rfl⟩
theorem te_103 : Cond.code (ts_mt 103).2.1 (ts_mt 103).2.2.1 (ts_mt 103).2.2.2.1 (ts_mt 103).2.2.2.2 ∈ ts_G := List.mem_filter.mpr ⟨List.mem_of_getElem? (i := 665) (by decide +kernel), rfl⟩
theorem te_104 : Cond.code (ts_mt 104).2.1 (ts_mt 104).2.2.1 (ts_mt 104).2.2.2.1 (ts_mt 104).2.2.2.2 ∈ ts_G := List.mem_filter.mpr ⟨List.mem_of_getElem? (i := 690) (by decide +kernel), rfl⟩
theorem te_105 : Cond.code (ts_mt 105).2.1 (ts_mt 105).2.2.1 (ts_mt 105).2.2.2.1 (ts_mt 105).2.2.2.2 ∈ ts_G := List.mem_filter.mpr ⟨List.mem_of_getElem? (i := 694) (by decide +kernel), rfl⟩
theorem te_106 : Cond.code (ts_mt 106).2.1 (ts_mt 106).2.2.1 (ts_mt 106).2.2.2.1 (ts_mt 106).2.2.2.2 ∈ ts_G := List.mem_filter.mpr ⟨List.mem_of_getElem? (i := 703) (by decide +kernel), rfl⟩
theorem te_107 : Cond.code (ts_mt 107).2.1 (ts_mt 107).2.2.1 (ts_mt 107).2.2.2.1 (ts_mt 107).2.2.2.2 ∈ ts_G := List.mem_filter.mpr ⟨List.mem_of_getElem? (i := 744) (by decide +kernel), rfl⟩
theorem te_108 : Cond.code (ts_mt 108).2.1 (ts_mt 108).2.2.1 (ts_mt 108).2.2.2.1 (ts_mt 108).2.2.2.2 ∈ ts_G := List.mem_filter.mpr ⟨List.mem_of_getElem? (i := 752) (by decide +kernel), rfl⟩
theorem te_109 : Cond.code (ts_mt 109).2.1 (ts_mt 109).2.2.1 (ts_mt 109).2.2.2.1 (ts_mt 109).2.2.2.2 ∈ ts_G := List.mem_filter.mpr ⟨List.mem_of_getElem? (i := 482) (by decide +kernel), rfl⟩
theorem te_110 : Cond.code (ts_mt 110).2.1 (ts_mt 110).2.2.1 (ts_mt 110).2.2.2.1 (ts_mt 110).2.2.2.2 ∈ ts_G := List.mem_filter.mpr ⟨List.mem_of_getElem? (i := 582) (by decide +kernel), rfl⟩
theorem te_111 : Cond.code (ts_mt 111).2.1 (ts_mt 111).2.2.1 (ts_mt 111).2.2.2.1 (ts_mt 111).2.2.2.2 ∈ ts_G := List.mem_filter.mpr ⟨List.mem_of_getElem? (i := 707) (by decide +kernel), rfl⟩
theorem te_112 : Cond.code (ts_mt 112).2.1 (ts_mt 112).2.2.1 (ts_mt 112).2.2.2.1 (ts_mt 112).2.2.2.2 ∈ ts_G := List.mem_filter.mpr ⟨List.mem_of_getElem? (i := 669) (by decide +kernel), rfl⟩
theorem te_113 : Cond.code (ts_mt 113).2.1 (ts_mt 113).2.2.1 (ts_mt 113).2.2.2.1 (ts_mt 113).2.2.2.2 ∈ ts_G := List.mem_filter.mpr ⟨List.mem_of_getElem? (i := 677) (by decide +kernel), rfl⟩
theorem te_114 : Cond.code (ts_mt 114).2.1 (ts_mt 114).2.2.1 (ts_mt 114).2.2.2.1 (ts_mt 114).2.2.2.2 ∈ ts_G := List.mem_filter.mpr ⟨List.mem_of_getElem? (i := 682) (by decide +kernel), rfl⟩
theorem te_115 : Cond.code (ts_mt 115).2.1 (ts_mt 115).2.2.1 (ts_mt 115).2.2.2.1 (ts_mt 115).2.2.2.2 ∈ ts_G := List.mem_filter.mpr ⟨List.mem_of_getElem? (i := 673) (by decide +kernel), rfl⟩
theorem te_116 : Cond.code (ts_mt 116).2.1 (ts_mt 116).2.2.1 (ts_mt 116).2.2.2.1 (ts_mt 116).2.2.2.2 ∈ ts_G := List.mem_filter.mpr ⟨List.mem_of_getElem? (i := 765) (by decide +kernel), rfl⟩
theorem te_117 : Cond.code (ts_mt 117).2.1 (ts_mt 117).2.2.1 (ts_mt 117).2.2.2.1 (ts_mt 117).2.2.2.2 ∈ ts_G := List.mem_filter.mpr ⟨List.mem_of_getElem? (i := 891) (by decide +kernel), rfl⟩
theorem te_118 : Cond.code (ts_mt 118).2.1 (ts_mt 118).2.2.1 (ts_mt 118).2.2.2.1 (ts_mt 118).2.2.2.2 ∈ ts_G := List.mem_filter.mpr ⟨List.mem_of_getElem? (i := 888) (by decide +kernel), rfl⟩
theorem te_119 : Cond.code (ts_mt 119).2.1 (ts_mt 119).2.2.1 (ts_mt 119).2.2.2.1 (ts_mt 119).2.2.2.2 ∈ ts_G := List.mem_filter.mpr ⟨List.mem_of_getElem? (i := 898) (by decide +kernel), rfl⟩
theorem te_120 : Cond.code (ts_mt 120).2.1 (ts_mt 120).2.2.1 (ts_mt 120).2.2.2.1 (ts_mt 120).2.2.2.2 ∈ ts_G := List.mem_filter.mpr ⟨List.mem_of_getElem? (i := 895) (by decide +kernel), rfl⟩
theorem te_121 : Cond.code (ts_mt 121).2.1 (ts_mt 121).2.2.1 (ts_mt 121).2.2.2.1 (ts_mt 121).2.2.2.2 ∈ ts_G := List.mem_filter.mpr ⟨List.mem_of_getElem? (i := 902) (by decide +kernel), rfl⟩
theorem te_122 : Cond.code (ts_mt 122).2.1 (ts_mt 122).2.2.1 (ts_mt 122).2.2.2.1 (ts_mt 122).2.2.2.2 ∈ ts_G := List.mem_filter.mpr ⟨List.mem_of_getElem? (i := 914) (by decide +kernel), rfl⟩
theorem te_123 : Cond.code (ts_mt 123).2.1 (ts_mt 123).2.2.1 (ts_mt 123).2.2.2.1 (ts_mt 123).2.2.2.2 ∈ ts_G := List.mem_filter.mpr ⟨List.mem_of_getElem? (i := 936) (by decide +kernel), rfl⟩
theorem te_124 : Cond.code (ts_mt 124).2.1 (ts_mt 124).2.2.1 (ts_mt 124).2.2.2.1 (ts_mt 124).2.2.2.2 ∈ ts_G := List.mem_filter.mpr ⟨List.mem_of_getElem? (i := 925) (by decide +kernel), rfl⟩
theorem te_125 : Cond.code (ts_mt 125).2.1 (ts_mt 125).2.2.1 (ts_mt 125).2.2.2.1 (ts_mt 125).2.2.2.2 ∈ ts_G := List.mem_filter.mpr ⟨List.mem_of_getElem? (i := 933) (by decide +kernel), rfl⟩
theorem te_126 : Cond.code (ts_mt 126).2.1 (ts_mt 126).2.2.1 (ts_mt 126).2.2.2.1 (ts_mt 126).2.2.2.2 ∈ ts_G := List.mem_filter.mpr ⟨List.mem_of_getElem? (i := 939) (by decide +kernel), rfl⟩
theorem te_127 : Cond.code (ts_mt 127).2.1 (ts_mt 127).2.2.1 (ts_mt 127).2.2.2.1 (ts_mt 127).2.2.2.2 ∈ ts_G := List.mem_filter.mpr ⟨List.mem_of_getElem? (i := 918) (by decide +kernel), rfl⟩
theorem te_128 : Cond.code (ts_mt 128).2.1 (ts_mt 128).2.2.1 (ts_mt 128).2.2.2.1 (ts_mt 128).2.2.2.2 ∈ ts_G := List.mem_filter.mpr ⟨List.mem_of_getElem? (i := 929) (by decide +kernel), rfl⟩
theorem te_129 : Cond.code (ts_mt 129).2.1 (ts_mt 129).2.2.1 (ts_mt 129).2.2.2.1 (ts_mt 129).2.2.2.2 ∈ ts_G := List.mem_filter.mpr ⟨List.mem_of_getElem? (i := 922) (by decide +kernel), rfl⟩
theorem te_130 : Cond.code (ts_mt 130).2.1 (ts_mt 130).2.2.1 (ts_mt 130).2.2.2.1 (ts_mt 130).2.2.2.2 ∈ ts_G := List.mem_filter.mpr ⟨List.mem_of_getElem? (i := 910) (by decide +kernel), rfl⟩
theorem te_131 : Cond.code (ts_mt 131).2.1 (ts_mt 131).2.2.1 (ts_mt 131).2.2.2.1 (ts_mt 131).2.2.2.2 ∈ ts_G := List.mem_filter.mpr ⟨List.mem_of_getElem? (i := 906) (by decide +kernel), rfl⟩
theorem te_132 : Cond.code (ts_mt 132).2.1 (ts_mt 132).2.2.1 (ts_mt 132).2.2.2.1 (ts_mt 132).2.2.2.2 ∈ ts_G := List.mem_filter.mpr ⟨List.mem_of_getElem? (i := 948) (by decide +kernel), rfl⟩
theorem te_133 : Cond.code (ts_mt 133).2.1 (ts_mt 133).2.2.1 (ts_mt 133).2.2.2.1 (ts_mt 133).2.2.2.2 ∈ ts_G := List.mem_filter.mpr ⟨List.mem_of_getElem? (i := 943) (by decide +kernel), rfl⟩
theorem te_134 : Cond.code (ts_mt 134).2.1 (ts_mt 134).2.2.1 (ts_mt 134).2.2.2.1 (ts_mt 134).2.2.2.2 ∈ ts_G := List.mem_filter.mpr ⟨List.mem_of_getElem? (i := 956) (by decide +kernel), rfl⟩
theorem te_135 : Cond.code (ts_mt 135).2.1 (ts_mt 135).2.2.1 (ts_mt 135).2.2.2.1 (ts_mt 135).2.2.2.2 ∈ ts_G := List.mem_filter.mpr ⟨List.mem_of_getElem? (i := 952) (by decide +kernel), rfl⟩
theorem te_136 : Cond.code (ts_mt 136).2.1 (ts_mt 136).2.2.1 (ts_mt 136).2.2.2.1 (ts_mt 136).2.2.2.2 ∈ ts_G := List.mem_filter.mpr ⟨List.mem_of_getElem? (i := 960) (by decide +kernel), rfl⟩
theorem te_137 : Cond.code (ts_mt 137).2.1 (ts_mt 137).2.2.1 (ts_mt 137).2.2.2.1 (ts_mt 137).2.2.2.2 ∈ ts_G := List.mem_filter.mpr ⟨List.mem_of_getElem? (i := 972) (by decide +kernel), rfl⟩
theorem te_138 : Cond.code (ts_mt 138).2.1 (ts_mt 138).2.2.1 (ts_mt 138).2.2.2.1 (ts_mt 138).2.2.2.2 ∈ ts_G := List.mem_filter.mpr ⟨List.mem_of_getElem? (i := 968) (by decide +kernel), rfl⟩
theorem te_139 : Cond.code (ts_mt 139).2.1 (ts_mt 139).2.2.1 (ts_mt 139).2.2.2.1 (ts_mt 139).2.2.2.2 ∈ ts_G := List.mem_filter.mpr ⟨List.mem_of_getElem? (i := 1000) (by decide +kernel), rfl⟩
theorem te_140 : Cond.code (ts_mt 140).2.1 (ts_mt 140).2.2.1 (ts_mt 140).2.2.2.1 (ts_mt 140).2.2.2.2 ∈ ts_G := List.mem_filter.mpr ⟨List.mem_of_getElem? (i := 1008) (by decide +kernel), rfl⟩
theorem te_141 : Cond.code (ts_mt 141).2.1 (ts_mt 141).2.2.1 (ts_mt 141).2.2.2.1 (ts_mt 141).2.2.2.2 ∈ ts_G := List.mem_filter.mpr ⟨List.mem_of_getElem? (i := 1012) (by decide +kernel), rfl⟩
theorem te_142 : Cond.code (ts_mt 142).2.1 (ts_mt 142).2.2.1 (ts_mt 142).2.2.2.1 (ts_mt 142).2.2.2.2 ∈ ts_G := List.mem_filter.mpr ⟨List.mem_of_getElem? (i := 1017) (by decide +kernel), rfl⟩
theorem te_143 : Cond.code (ts_mt 143).2.1 (ts_mt 143).2.2.1 (ts_mt 143).2.2.2.1 (ts_mt 143).2.2.2.2 ∈ ts_G := List.mem_filter.mpr ⟨List.mem_of_getElem? (i := 964) (by decide +kernel), rfl⟩
theorem te_144 : Cond.code (ts_mt 144).2.1 (ts_mt 144).2.2.1 (ts_mt 144).2.2.2.1 (ts_mt 144).2.2.2.2 ∈ ts_G := List.mem_filter.mpr ⟨List.mem_of_getElem? (i := 976) (by decide +kernel), rfl⟩
theorem te_145 : Cond.code (ts_mt 145).2.1 (ts_mt 145).2.2.1 (ts_mt 145).2.2.2.1 (ts_mt 145).2.2.2.2 ∈ ts_G := List.mem_filter.mpr ⟨List.mem_of_getElem? (i := 980) (by decide +kernel), rfl⟩
theorem te_146 : Cond.code (ts_mt 146).2.1 (ts_mt 146).2.2.1 (ts_mt 146).2.2.2.1 (ts_mt 146).2.2.2.2 ∈ ts_G := List.mem_filter.mpr ⟨List.mem_of_getElem? (i := 984) (by decide +kernel), rfl⟩
theorem te_147 : Cond.code (ts_mt 147).2.1 (ts_mt 147).2.2.1 (ts_mt 147).2.2.2.1 (ts_mt 147).2.2.2.2 ∈ ts_G := List.mem_filter.mpr ⟨List.mem_of_getElem? (i := 988) (by decide +kernel), rfl⟩
theorem te_148 : Cond.code (ts_mt 148).2.1 (ts_mt 148).2.2.1 (ts_mt 148).2.2.2.1 (ts_mt 148).2.2.2.2 ∈ ts_G := List.mem_filter.mpr ⟨List.mem_of_getElem? (i := 992) (by decide +kernel), rfl⟩
theorem te_149 : Cond.code (ts_mt 149).2.1 (ts_mt 149).2.2.1 (ts_mt 149).2.2.2.1 (ts_mt 149).2.2.2.2 ∈ ts_G := List.mem_filter.mpr ⟨List.mem_of_getElem? (i := 1029) (by decide +kernel), rfl⟩
theorem te_150 : Cond.code (ts_mt 150).2.1 (ts_mt 150).2.2.1 (ts_mt 150).2.2.2.1 (ts_mt 150).2.2.2.2 ∈ ts_G := List.mem_filter.mpr ⟨List.mem_of_getElem? (i := 1025) (by decide +kernel), rfl⟩
theorem te_151 : Cond.code (ts_mt 151).2.1 (ts_mt 151).2.2.1 (ts_mt 151).2.2.2.1 (ts_mt 151).2.2.2.2 ∈ ts_G := List.mem_filter.mpr ⟨List.mem_of_getElem? (i := 1021) (by decide +kernel), rfl⟩
theorem te_152 : Cond.code (ts_mt 152).2.1 (ts_mt 152).2.2.1 (ts_mt 152).2.2.2.1 (ts_mt 152).2.2.2.2 ∈ ts_G := List.mem_filter.mpr ⟨List.mem_of_getElem? (i := 1004) (by decide +kernel), rfl⟩
theorem te_153 : Cond.code (ts_mt 153).2.1 (ts_mt 153).2.2.1 (ts_mt 153).2.2.2.1 (ts_mt 153).2.2.2.2 ∈ ts_G := List.mem_filter.mpr ⟨List.mem_of_getElem? (i := 996) (by decide +kernel), rfl⟩
theorem te_154 : Cond.code (ts_mt 154).2.1 (ts_mt 154).2.2.1 (ts_mt 154).2.2.2.1 (ts_mt 154).2.2.2.2 ∈ ts_G := List.mem_filter.mpr ⟨List.mem_of_getElem? (i := 1045) (by decide +kernel), rfl⟩
theorem te_155 : Cond.code (ts_mt 155).2.1 (ts_mt 155).2.2.1 (ts_mt 155).2.2.2.1 (ts_mt 155).2.2.2.2 ∈ ts_G := List.mem_filter.mpr ⟨List.mem_of_getElem? (i := 1041) (by decide +kernel), rfl⟩
theorem te_156 : Cond.code (ts_mt 156).2.1 (ts_mt 156).2.2.1 (ts_mt 156).2.2.2.1 (ts_mt 156).2.2.2.2 ∈ ts_G := List.mem_filter.mpr ⟨List.mem_of_getElem? (i := 1037) (by decide +kernel), rfl⟩
theorem te_157 : Cond.code (ts_mt 157).2.1 (ts_mt 157).2.2.1 (ts_mt 157).2.2.2.1 (ts_mt 157).2.2.2.2 ∈ ts_G := List.mem_filter.mpr ⟨List.mem_of_getElem? (i := 1050) (by decide +kernel), rfl⟩
theorem te_158 : Cond.code (ts_mt 158).2.1 (ts_mt 158).2.2.1 (ts_mt 158).2.2.2.1 (ts_mt 158).2.2.2.2 ∈ ts_G := List.mem_filter.mpr ⟨List.mem_of_getElem? (i := 1033) (by decide +kernel), rfl⟩
theorem te_159 : Cond.code (ts_mt 159).2.1 (ts_mt 159).2.2.1 (ts_mt 159).2.2.2.1 (ts_mt 159).2.2.2.2 ∈ ts_G := List.mem_filter.mpr ⟨List.mem_of_getElem? (i := 1054) (by decide +kernel), rfl⟩
theorem te_160 : Cond.code (ts_mt 160).2.1 (ts_mt 160).2.2.1 (ts_mt 160).2.2.2.1 (ts_mt 160).2.2.2.2 ∈ ts_G := List.mem_filter.mpr ⟨List.mem_of_getElem? (i := 1058) (by decide +kernel), rfl⟩
theorem te_161 : Cond.code (ts_mt 161).2.1 (ts_mt 161).2.2.1 (ts_mt 161).2.2.2.1 (ts_mt 161).2.2.2.2 ∈ ts_G := List.mem_filter.mpr ⟨List.mem_of_getElem? (i := 1072) (by decide +kernel), rfl⟩
theorem te_162 : Cond.code (ts_mt 162).2.1 (ts_mt 162).2.2.1 (ts_mt 162).2.2.2.1 (ts_mt 162).2.2.2.2 ∈ ts_G := List.mem_filter.mpr ⟨List.mem_of_getElem? (i := 1066) (by decide +kernel), rfl⟩
theorem te_163 : Cond.code (ts_mt 163).2.1 (ts_mt 163).2.2.1 (ts_mt 163).2.2.2.1 (ts_mt 163).2.2.2.2 ∈ ts_G := List.mem_filter.mpr ⟨List.mem_of_getElem? (i := 1062) (by decide +kernel), rfl⟩
theorem te_164 : Cond.code (ts_mt 164).2.1 (ts_mt 164).2.2.1 (ts_mt 164).2.2.2.1 (ts_mt 164).2.2.2.2 ∈ ts_G := List.mem_filter.mpr ⟨List.mem_of_getElem? (i := 1076) (by decide +kernel), rfl⟩
theorem te_165 : Cond.code (ts_mt 165).2.1 (ts_mt 165).2.2.1 (ts_mt 165).2.2.2.1 (ts_mt 165).2.2.2.2 ∈ ts_G := List.mem_filter.mpr ⟨List.mem_of_getElem? (i := 1084) (by decide +kernel), rfl⟩
theorem te_166 : Cond.code (ts_mt 166).2.1 (ts_mt 166).2.2.1 (ts_mt 166).2.2.2.1 (ts_mt 166).2.2.2.2 ∈ ts_G := List.mem_filter.mpr ⟨List.mem_of_getElem? (i := 1080) (by decide +kernel), rfl⟩
theorem te_167 : Cond.code (ts_mt 167).2.1 (ts_mt 167).2.2.1 (ts_mt 167).2.2.2.1 (ts_mt 167).2.2.2.2 ∈ ts_G := List.mem_filter.mpr ⟨List.mem_of_getElem? (i := 1103) (by decide +kernel), rfl⟩
theorem te_168 : Cond.code (ts_mt 168).2.1 (ts_mt 168).2.2.1 (ts_mt 168).2.2.2.1 (ts_mt 168).2.2.2.2 ∈ ts_G := List.mem_filter.mpr ⟨List.mem_of_getElem? (i := 1100) (by decide +kernel), rfl⟩
theorem te_169 : Cond.code (ts_mt 169).2.1 (ts_mt 169).2.2.1 (ts_mt 169).2.2.2.1 (ts_mt 169).2.2.2.2 ∈ ts_G := List.mem_filter.mpr ⟨List.mem_of_getElem? (i := 1096) (by decide +kernel), rfl⟩
theorem te_170 : Cond.code (ts_mt 170).2.1 (ts_mt 170).2.2.1 (ts_mt 170).2.2.2.1 (ts_mt 170).2.2.2.2 ∈ ts_G := List.mem_filter.mpr ⟨List.mem_of_getElem? (i := 1092) (by decide +kernel), rfl⟩
theorem te_171 : Cond.code (ts_mt 171).2.1 (ts_mt 171).2.2.1 (ts_mt 171).2.2.2.1 (ts_mt 171).2.2.2.2 ∈ ts_G := List.mem_filter.mpr ⟨List.mem_of_getElem? (i := 1088) (by decide +kernel), rfl⟩
theorem te_172 : Cond.code (ts_mt 172).2.1 (ts_mt 172).2.2.1 (ts_mt 172).2.2.2.1 (ts_mt 172).2.2.2.2 ∈ ts_G := List.mem_filter.mpr ⟨List.mem_of_getElem? (i := 1108) (by decide +kernel), rfl⟩
theorem te_173 : Cond.code (ts_mt 173).2.1 (ts_mt 173).2.2.1 (ts_mt 173).2.2.2.1 (ts_mt 173).2.2.2.2 ∈ ts_G := List.mem_filter.mpr ⟨List.mem_of_getElem? (i := 1112) (by decide +kernel), rfl⟩
theorem te_174 : Cond.code (ts_mt 174).2.1 (ts_mt 174).2.2.1 (ts_mt 174).2.2.2.1 (ts_mt 174).2.2.2.2 ∈ ts_G := List.mem_filter.mpr ⟨List.mem_of_getElem? (i := 630) (by decide +kernel), rfl⟩
theorem tk_0 : ∀ j, j < 0 → ts_jok j := lt_0
theorem tk_1 : ∀ j, j < 1 → ts_jok j := lt_s tk_0 tj_0
theorem tk_2 : ∀ j, j < 2 → ts_jok j := lt_s tk_1 tj_1
theorem tk_3 : ∀ j, j < 3 → ts_jok j := lt_s tk_2 tj_2
theorem tk_4 : ∀ j, j < 4 → ts_jok j := lt_s tk_3 tj_3
theorem tk_5 : ∀ j, j < 5 → ts_jok j := lt_s tk_4 tj_4
theorem tk_6 : ∀ j, j < 6 → ts_jok j := lt_s tk_5 tj_5
theorem tk_7 : ∀ j, j < 7 → ts_jok j := lt_s tk_6 tj_6
theorem tk_8 : ∀ j, j < 8 → ts_jok j := lt_s tk_7 tj_7
theorem tk_9 : ∀ j, j < 9 → ts_jok j := lt_s tk_8 tj_8
theorem tk_10 : ∀ j, j < 10 → ts_jok j := lt_s tk_9 tj_9
theorem tk_11 : ∀ j, j < 11 → ts_jok j := lt_s tk_10 tj_10
theorem tk_12 : ∀ j, j < 12 → ts_jok j := lt_s tk_11 tj_11
theorem tk_13 : ∀ j, j < 13 → ts_jok j := lt_s tk_12 tj_12
theorem tk_14 : ∀ j, j < 14 → ts_jok j := lt_s tk_13 tj_13
theorem tk_15 : ∀ j, j < 15 → ts_jok j := lt_s tk_14 tj_14
theorem tk_16 : ∀ j, j < 16 → ts_jok j := lt_s tk_15 tj_15
theorem tk_17 : ∀ j, j < 17 → ts_jok j := lt_s tk_16 tj_16
theorem tk_18 : ∀ j, j < 18 → ts_jok j := lt_s tk_17 tj_17
theorem tk_19 : ∀ j, j < 19 → ts_jok j := lt_s tk_18 tj_18
theorem tk_20 : ∀ j, j < 20 → ts_jok j := lt_s tk_19 tj_19
theorem tk_21 : ∀ j, j < 21 → ts_jok j := lt_s tk_20 tj_20
theorem tk_22 : ∀ j, j < 22 → ts_jok j := lt_s tk_21 tj_21
theorem tk_23 : ∀ j, j < 23 → ts_jok j := lt_s tk_22 tj_22
theorem tk_24 : ∀ j, j < 24 → ts_jok j := lt_s tk_23 tj_23
theorem tk_25 : ∀ j, j < 25 → ts_jok j := lt_s tk_24 tj_24
theorem tk_26 : ∀ j, j < 26 → ts_jok j := lt_s tk_25 tj_25
theorem tk_27 : ∀ j, j < 27 → ts_jok j := lt_s tk_26 tj_26
theorem tk_28 : ∀ j, j < 28 → ts_jok j := lt_s tk_27 tj_27
theorem tk_29 : ∀ j, j < 29 → ts_jok j := lt_s tk_28 tj_28
theorem tk_30 : ∀ j, j < 30 → ts_jok j := lt_s tk_29 tj_29
theorem tk_31 : ∀ j, j < 31 → ts_jok j := lt_s tk_30 tj_30
theorem tk_32 : ∀ j, j < 32 → ts_jok j := lt_s tk_31 tj_31
theorem tk_33 : ∀ j, j < 33 → ts_jok j := lt_s tk_32 tj_32
theorem tk_34 : ∀ j, j < 34 → ts_jok j := lt_s tk_33 tj_33
theorem tk_35 : ∀ j, j < 35 → ts_jok j := lt_s tk_34 tj_34
theorem tk_36 : ∀ j, j < 36 → ts_jok j := lt_s tk_35 tj_35
theorem tk_37 : ∀ j, j < 37 → ts_jok j := lt_s tk_36 tj_36
theorem tk_38 : ∀ j, j < 38 → ts_jok j := lt_s tk_37 tj_37
theorem tk_39 : ∀ j, j < 39 → ts_jok j := lt_s tk_38 tj_38
theorem tk_40 : ∀ j, j < 40 → ts_jok j := lt_s tk_39 tj_39
theorem tk_41 : ∀ j, j < 41 → ts_jok j := lt_s tk_40 tj_40
theorem tk_42 : ∀ j, j < 42 → ts_jok j := lt_s tk_41 tj_41
theorem tk_43 : ∀ j, j < 43 → ts_jok j := lt_s tk_42 tj_42
theorem tk_44 : ∀ j, j < 44 → ts_jok j := lt_s tk_43 tj_43
theorem tk_45 : ∀ j, j < 45 → ts_jok j := lt_s tk_44 tj_44
theorem tk_46 : ∀ j, j < 46 → ts_jok j := lt_s tk_45 tj_45
theorem tk_47 : ∀ j, j < 47 → ts_jok j := lt_s tk_46 tj_46
theorem tk_48 : ∀ j, j < 48 → ts_jok j := lt_s tk_47 tj_47
theorem tk_49 : ∀ j, j < 49 → ts_jok j := lt_s tk_48 tj_48
theorem tk_50 : ∀ j, j < 50 → ts_jok j := lt_s tk_49 tj_49
theorem tk_51 : ∀ j, j < 51 → ts_jok j := lt_s tk_50 tj_50
theorem tk_52 : ∀ j, j < 52 → ts_jok j := lt_s tk_51 tj_51
theorem tk_53 : ∀ j, j < 53 → ts_jok j := lt_s tk_52 tj_52
theorem tk_54 : ∀ j, j < 54 → ts_jok j := lt_s tk_53 tj_53
theorem tk_55 : ∀ j, j < 55 → ts_jok j := lt_s tk_54 tj_54
theorem tk_56 : ∀ j, j < 56 → ts_jok j := lt_s tk_55 tj_55
theorem tk_57 : ∀ j, j < 57 → ts_jok j := lt_s tk_56 tj_56
theorem tk_58 : ∀ j, j < 58 → ts_jok j := lt_s tk_57 tj_57
theorem tk_59 : ∀ j, j < 59 → ts_jok j := lt_s tk_58 tj_58
theorem tk_60 : ∀ j, j < 60 → ts_jok j := lt_s tk_59 tj_59
theorem tk_61 : ∀ j, j < 61 → ts_jok j := lt_s tk_60 tj_60
theorem tk_62 : ∀ j, j < 62 → ts_jok j := lt_s tk_61 tj_61
theorem tk_63 : ∀ j, j < 63 → ts_jok j := lt_s tk_62 tj_62
theorem tk_64 : ∀ j, j < 64 → ts_jok j := lt_s tk_63 tj_63
theorem tk_65 : ∀ j, j < 65 → ts_jok j := lt_s tk_64 tj_64
theorem tk_66 : ∀ j, j < 66 → ts_jok j := lt_s tk_65 tj_65
theorem tk_67 : ∀ j, j < 67 → ts_jok j := lt_s tk_66 tj_66
theorem tk_68 : ∀ j, j < 68 → ts_jok j := lt_s tk_67 tj_67
theorem tk_69 : ∀ j, j < 69 → ts_jok j := lt_s tk_68 tj_68
theorem tk_70 : ∀ j, j < 70 → ts_jok j := lt_s tk_69 tj_69
theorem tk_71 : ∀ j, j < 71 → ts_jok j := lt_s tk_70 tj_70
theorem tk_72 : ∀ j, j < 72 → ts_jok j := lt_s tk_71 tj_71
theorem tk_73 : ∀ j, j < 73 → ts_jok j := lt_s tk_72 tj_72
theorem tk_74 : ∀ j, j < 74 → ts_jok j := lt_s tk_73 tj_73
theorem tk_75 : ∀ j, j < 75 → ts_jok j := lt_s tk_74 tj_74
theorem tk_76 : ∀ j, j < 76 → ts_jok j := lt_s tk_75 tj_75
theorem tk_77 : ∀ j, j < 77 → ts_jok j := lt_s tk_76 tj_76
theorem tk_78 : ∀ j, j < 78 → ts_jok j := lt_s tk_77 tj_77
theorem tk_79 : ∀ j, j < 79 → ts_jok j := lt_s tk_78 tj_78
theorem tk_80 : ∀ j, j < 80 → ts_jok j := lt_s tk_79 tj_79
theorem tk_81 : ∀ j, j < 81 → ts_jok j := lt_s tk_80 tj_80
theorem tk_82 : ∀ j, j < 82 → ts_jok j := lt_s tk_81 tj_81
theorem tk_83 : ∀ j, j < 83 → ts_jok j := lt_s tk_82 tj_82
theorem tk_84 : ∀ j, j < 84 → ts_jok j := lt_s tk_83 tj_83
theorem tk_85 : ∀ j, j < 85 → ts_jok j := lt_s tk_84 tj_84
theorem tk_86 : ∀ j, j < 86 → ts_jok j := lt_s tk_85 tj_85
theorem tk_87 : ∀ j, j < 87 → ts_jok j := lt_s tk_86 tj_86
theorem tk_88 : ∀ j, j < 88 → ts_jok j := lt_s tk_87 tj_87
theorem tk_89 : ∀ j, j < 89 → ts_jok j := lt_s tk_88 tj_88
theorem tk_90 : ∀ j, j < 90 → ts_jok j := lt_s tk_89 tj_89
theorem tk_91 : ∀ j, j < 91 → ts_jok j := lt_s tk_90 tj_90
theorem tk_92 : ∀ j, j < 92 → ts_jok j := lt_s tk_91 tj_91
theorem tk_93 : ∀ j, j < 93 → ts_jok j := lt_s tk_92 tj_92
theorem tk_94 : ∀ j, j < 94 → ts_jok j := lt_s tk_93 tj_93
theorem tk_95 : ∀ j, j < 95 → ts_jok j := lt_s tk_94 tj_94
theorem tk_96 : ∀ j, j < 96 → ts_jok j := lt_s tk_95 tj_95
theorem tk_97 : ∀ j, j < 97 → ts_jok j := lt_s tk_96 tj_96
theorem tk_98 : ∀ j, j < 98 → ts_jok j := lt_s tk_97 tj_97
theorem tk_99 : ∀ j, j < 99 → ts_jok j := lt_s tk_98 tj_98
theorem tk_100 : ∀ j, j < 100 → ts_jok j := lt_s tk_99 tj_99
theorem tk_101 : ∀ j, j < 101 → ts_jok j := lt_s tk_100 tj_100
theorem tk_102 : ∀ j, j < 102 → ts_jok j := lt_s tk_101 tj_101
theorem tk_103 : ∀ j, j < 103 → ts_jok j := lt_s tk_102 tj_102
theorem tk_104 : ∀ j, j < 104 → ts_jok j := lt_s tk_103 tj_103
theorem tk_105 : ∀ j, j < 105 → ts_jok j := lt_s tk_104 tj_104
theorem tk_106 : ∀ j, j < 106 → ts_jok j := lt_s tk_105 tj_105
theorem tk_107 : ∀ j, j < 107 → ts_jok j := lt_s tk_106 tj_106
theorem tk_108 : ∀ j, j < 108 → ts_jok j := lt_s tk_107 tj_107
theorem tk_109 : ∀ j, j < 109 → ts_jok j := lt_s tk_108 tj_108
theorem tk_110 : ∀ j, j < 110 → ts_jok j := lt_s tk_109 tj_109
theorem tk_111 : ∀ j, j < 111 → ts_jok j := lt_s tk_110 tj_110
theorem tk_112 : ∀ j, j < 112 → ts_jok j := lt_s tk_111 tj_111
theorem tk_113 : ∀ j, j < 113 → ts_jok j := lt_s tk_112 tj_112
theorem tk_114 : ∀ j, j < 114 → ts_jok j := lt_s tk_113 tj_113
theorem tk_115 : ∀ j, j < 115 → ts_jok j := lt_s tk_114 tj_114
theorem tk_116 : ∀ j, j < 116 → ts_jok j := lt_s tk_115 tj_115
theorem tk_117 : ∀ j, j < 117 → ts_jok j := lt_s tk_116 tj_116
theorem tk_118 : ∀ j, j < 118 → ts_jok j := lt_s tk_117 tj_117
theorem tk_119 : ∀ j, j < 119 → ts_jok j := lt_s tk_118 tj_118
theorem tk_120 : ∀ j, j < 120 → ts_jok j := lt_s tk_119 tj_119
theorem tk_121 : ∀ j, j < 121 → ts_jok j := lt_s tk_120 tj_120
theorem tk_122 : ∀ j, j < 122 → ts_jok j := lt_s tk_121 tj_121
theorem tk_123 : ∀ j, j < 123 → ts_jok j := lt_s tk_122 tj_122
theorem tk_124 : ∀ j, j < 124 → ts_jok j := lt_s tk_123 tj_123
theorem tk_125 : ∀ j, j < 125 → ts_jok j := lt_s tk_124 tj_124
theorem tk_126 : ∀ j, j < 126 → ts_jok j := lt_s tk_125 tj_125
theorem tk_127 : ∀ j, j < 127 → ts_jok j := lt_s tk_126 tj_126
theorem tk_128 : ∀ j, j < 128 → ts_jok j := lt_s tk_127 tj_127
theorem tk_129 : ∀ j, j < 129 → ts_jok j := lt_s tk_128 tj_128
theorem tk_130 : ∀ j, j < 130 → ts_jok j := lt_s tk_129 tj_129
theorem tk_131 : ∀ j, j < 131 → ts_jok j := lt_s tk_130 tj_130
theorem tk_132 : ∀ j, j < 132 → ts_jok j := lt_s tk_131 tj_131
theorem tk_133 : ∀ j, j < 133 → ts_jok j := lt_s tk_132 tj_132
theorem tk_134 : ∀ j, j < 134 → ts_jok j := lt_s tk_133 tj_133
theorem tk_135 : ∀ j, j < 135 → ts_jok j := lt_s tk_134 tj_134
theorem tk_136 : ∀ j, j < 136 → ts_jok j := lt_s tk_135 tj_135
theorem tk_137 : ∀ j, j < 137 → ts_jok j := lt_s tk_136 tj_136
theorem tk_138 : ∀ j, j < 138 → ts_jok j := lt_s tk_137 tj_137
theorem tk_139 : ∀ j, j < 139 → ts_jok j := lt_s tk_138 tj_138
theorem tk_140 : ∀ j, j < 140 → ts_jok j := lt_s tk_139 tj_139
theorem tk_141 : ∀ j, j < 141 → ts_jok j := lt_s tk_140 tj_140
theorem tk_142 : ∀ j, j < 142 → ts_jok j := lt_s tk_141 tj_141
theorem tk_143 : ∀ j, j < 143 → ts_jok j := lt_s tk_142 tj_142
theorem tk_144 : ∀ j, j < 144 → ts_jok j := lt_s tk_143 tj_143
theorem tk_145 : ∀ j, j < 145 → ts_jok j := lt_s tk_144 tj_144
theorem tk_146 : ∀ j, j < 146 → ts_jok j := lt_s tk_145 tj_145
theorem tk_147 : ∀ j, j < 147 → ts_jok j := lt_s tk_146 tj_146
theorem tk_148 : ∀ j, j < 148 → ts_jok j := lt_s tk_147 tj_147
theorem tk_149 : ∀ j, j < 149 → ts_jok j := lt_s tk_148 tj_148
theorem tk_150 : ∀ j, j < 150 → ts_jok j := lt_s tk_149 tj_149
theorem tk_151 : ∀ j, j < 151 → ts_jok j := lt_s tk_150 tj_150
theorem tk_152 : ∀ j, j < 152 → ts_jok j := lt_s tk_151 tj_151
theorem tk_153 : ∀ j, j < 153 → ts_jok j := lt_s tk_152 tj_152
theorem tk_154 : ∀ j, j < 154 → ts_jok j := lt_s tk_153 tj_153
theorem tk_155 : ∀ j, j < 155 → ts_jok j := lt_s tk_154 tj_154
theorem tk_156 : ∀ j, j < 156 → ts_jok j := lt_s tk_155 tj_155
theorem tk_157 : ∀ j, j < 157 → ts_jok j := lt_s tk_156 tj_156
theorem tk_158 : ∀ j, j < 158 → ts_jok j := lt_s tk_157 tj_157
theorem tk_159 : ∀ j, j < 159 → ts_jok j := lt_s tk_158 tj_158
theorem tk_160 : ∀ j, j < 160 → ts_jok j := lt_s tk_159 tj_159
theorem tk_161 : ∀ j, j < 161 → ts_jok j := lt_s tk_160 tj_160
theorem tk_162 : ∀ j, j < 162 → ts_jok j := lt_s tk_161 tj_161
theorem tk_163 : ∀ j, j < 163 → ts_jok j := lt_s tk_162 tj_162
theorem tk_164 : ∀ j, j < 164 → ts_jok j := lt_s tk_163 tj_163
theorem tk_165 : ∀ j, j < 165 → ts_jok j := lt_s tk_164 tj_164
theorem tk_166 : ∀ j, j < 166 → ts_jok j := lt_s tk_165 tj_165
theorem tk_167 : ∀ j, j < 167 → ts_jok j := lt_s tk_166 tj_166
theorem tk_168 : ∀ j, j < 168 → ts_jok j := lt_s tk_167 tj_167
theorem tk_169 : ∀ j, j < 169 → ts_jok j := lt_s tk_168 tj_168
theorem tk_170 : ∀ j, j < 170 → ts_jok j := lt_s tk_169 tj_169
theorem tk_171 : ∀ j, j < 171 → ts_jok j := lt_s tk_170 tj_170
theorem tk_172 : ∀ j, j < 172 → ts_jok j := lt_s tk_171 tj_171
theorem tk_173 : ∀ j, j < 173 → ts_jok j := lt_s tk_172 tj_172
theorem tk_174 : ∀ j, j < 174 → ts_jok j := lt_s tk_173 tj_173
theorem tk_175 : ∀ j, j < 175 → ts_jok j := lt_s tk_174 tj_174
theorem tk_176 : ∀ j, j < 176 → ts_jok j := lt_s tk_175 tj_175
theorem ts_all_ok : ∀ j, j < 176 → ts_jok j := tk_176
def ts_cin (j : Nat) : Prop := Cond.code (ts_mt j).2.1 (ts_mt j).2.2.1 (ts_mt j).2.2.2.1 (ts_mt j).2.2.2.2 ∈ ts_G
theorem tl_0 : ∀ j, j < 0 → ts_cin j := lt_0
theorem tl_1 : ∀ j, j < 1 → ts_cin j := lt_s tl_0 te_0
theorem tl_2 : ∀ j, j < 2 → ts_cin j := lt_s tl_1 te_1
theorem tl_3 : ∀ j, j < 3 → ts_cin j := lt_s tl_2 te_2
theorem tl_4 : ∀ j, j < 4 → ts_cin j := lt_s tl_3 te_3
theorem tl_5 : ∀ j, j < 5 → ts_cin j := lt_s tl_4 te_4
theorem tl_6 : ∀ j, j < 6 → ts_cin j := lt_s tl_5 te_5
theorem tl_7 : ∀ j, j < 7 → ts_cin j := lt_s tl_6 te_6
theorem tl_8 : ∀ j, j < 8 → ts_cin j := lt_s tl_7 te_7
theorem tl_9 : ∀ j, j < 9 → ts_cin j := lt_s tl_8 te_8
theorem tl_10 : ∀ j, j < 10 → ts_cin j := lt_s tl_9 te_9
theorem tl_11 : ∀ j, j < 11 → ts_cin j := lt_s tl_10 te_10
theorem tl_12 : ∀ j, j < 12 → ts_cin j := lt_s tl_11 te_11
theorem tl_13 : ∀ j, j < 13 → ts_cin j := lt_s tl_12 te_12
theorem tl_14 : ∀ j, j < 14 → ts_cin j := lt_s tl_13 te_13
theorem tl_15 : ∀ j, j < 15 → ts_cin j := lt_s tl_14 te_14
theorem tl_16 : ∀ j, j < 16 → ts_cin j := lt_s tl_15 te_15
theorem tl_17 : ∀ j, j < 17 → ts_cin j := lt_s tl_16 te_16
theorem tl_18 : ∀ j, j < 18 → ts_cin j := lt_s tl_17 te_17
theorem tl_19 : ∀ j, j < 19 → ts_cin j := lt_s tl_18 te_18
theorem tl_20 : ∀ j, j < 20 → ts_cin j := lt_s tl_19 te_19
theorem tl_21 : ∀ j, j < 21 → ts_cin j := lt_s tl_20 te_20
theorem tl_22 : ∀ j, j < 22 → ts_cin j := lt_s tl_21 te_21
theorem tl_23 : ∀ j, j < 23 → ts_cin j := lt_s tl_22 te_22
theorem tl_24 : ∀ j, j < 24 → ts_cin j := lt_s tl_23 te_23
theorem tl_25 : ∀ j, j < 25 → ts_cin j := lt_s tl_24 te_24
theorem tl_26 : ∀ j, j < 26 → ts_cin j := lt_s tl_25 te_25
theorem tl_27 : ∀ j, j < 27 → ts_cin j := lt_s tl_26 te_26
theorem tl_28 : ∀ j, j < 28 → ts_cin j := lt_s tl_27 te_27
theorem tl_29 : ∀ j, j < 29 → ts_cin j := lt_s tl_28 te_28
theorem tl_30 : ∀ j, j < 30 → ts_cin j := lt_s tl_29 te_29
theorem tl_31 : ∀ j, j < 31 → ts_cin j := lt_s tl_30 te_30
theorem tl_32 : ∀ j, j < 32 → ts_cin j := lt_s tl_31 te_31
theorem tl_33 : ∀ j, j < 33 → ts_cin j := lt_s tl_32 te_32
theorem tl_34 : ∀ j, j < 34 → ts_cin j := lt_s tl_33 te_33
theorem tl_35 : ∀ j, j < 35 → ts_cin j := lt_s tl_34 te_34
theorem tl_36 : ∀ j, j < 36 → ts_cin j := lt_s tl_35 te_35
theorem tl_37 : ∀ j, j < 37 → ts_cin j := lt_s tl_36 te_36
theorem tl_38 : ∀ j, j < 38 → ts_cin j := lt_s tl_37 te_37
theorem tl_39 : ∀ j, j < 39 → ts_cin j := lt_s tl_38 te_38
theorem tl_40 : ∀ j, j < 40 → ts_cin j := lt_s tl_39 te_39
theorem tl_41 : ∀ j, j < 41 → ts_cin j := lt_s tl_40 te_40
theorem tl_42 : ∀ j, j < 42 → ts_cin j := lt_s tl_41 te_41
theorem tl_43 : ∀ j, j < 43 → ts_cin j := lt_s tl_42 te_42
theorem tl_44 : ∀ j, j < 44 → ts_cin j := lt_s tl_43 te_43
theorem tl_45 : ∀ j, j < 45 → ts_cin j := lt_s tl_44 te_44
theorem tl_46 : ∀ j, j < 46 → ts_cin j := lt_s tl_45 te_45
theorem tl_47 : ∀ j, j < 47 → ts_cin j := lt_s tl_46 te_46
theorem tl_48 : ∀ j, j < 48 → ts_cin j := lt_s tl_47 te_47
theorem tl_49 : ∀ j, j < 49 → ts_cin j := lt_s tl_48 te_48
theorem tl_50 : ∀ j, j < 50 → ts_cin j := lt_s tl_49 te_49
theorem tl_51 : ∀ j, j < 51 → ts_cin j := lt_s tl_50 te_50
theorem tl_52 : ∀ j, j < 52 → ts_cin j := lt_s tl_51 te_51
theorem tl_53 : ∀ j, j < 53 → ts_cin j := lt_s tl_52 te_52
theorem tl_54 : ∀ j, j < 54 → ts_cin j := lt_s tl_53 te_53
theorem tl_55 : ∀ j, j < 55 → ts_cin j := lt_s tl_54 te_54
theorem tl_56 : ∀ j, j < 56 → ts_cin j := lt_s tl_55 te_55
theorem tl_57 : ∀ j, j < 57 → ts_cin j := lt_s tl_56 te_56
theorem tl_58 : ∀ j, j < 58 → ts_cin j := lt_s tl_57 te_57
theorem tl_59 : ∀ j, j < 59 → ts_cin j := lt_s tl_58 te_58
theorem tl_60 : ∀ j, j < 60 → ts_cin j := lt_s tl_59 te_59
theorem tl_61 : ∀ j, j < 61 → ts_cin j := lt_s tl_60 te_60
theorem tl_62 : ∀ j, j < 62 → ts_cin j := lt_s tl_61 te_61
theorem tl_63 : ∀ j, j < 63 → ts_cin j := lt_s tl_62 te_62
theorem tl_64 : ∀ j, j < 64 → ts_cin j := lt_s tl_63 te_63
theorem tl_65 : ∀ j, j < 65 → ts_cin j := lt_s tl_64 te_64
theorem tl_66 : ∀ j, j < 66 → ts_cin j := lt_s tl_65 te_65
theorem tl_67 : ∀ j, j < 67 → ts_cin j := lt_s tl_66 te_66
theorem tl_68 : ∀ j, j < 68 → ts_cin j := lt_s tl_67 te_67
theorem tl_69 : ∀ j, j < 69 → ts_cin j := lt_s tl_68 te_68
theorem tl_70 : ∀ j, j < 70 → ts_cin j := lt_s tl_69 te_69
theorem tl_71 : ∀ j, j < 71 → ts_cin j := lt_s tl_70 te_70
theorem tl_72 : ∀ j, j < 72 → ts_cin j := lt_s tl_71 te_71
theorem tl_73 : ∀ j, j < 73 → ts_cin j := lt_s tl_72 te_72
theorem tl_74 : ∀ j, j < 74 → ts_cin j := lt_s tl_73 te_73
theorem tl_75 : ∀ j, j < 75 → ts_cin j := lt_s tl_74 te_74
theorem tl_76 : ∀ j, j < 76 → ts_cin j := lt_s tl_75 te_75
theorem tl_77 : ∀ j, j < 77 → ts_cin j := lt_s tl_76 te_76
theorem tl_78 : ∀ j, j < 78 → ts_cin j := lt_s tl_77 te_77
theorem tl_79 : ∀ j, j < 79 → ts_cin j := lt_s tl_78 te_78
theorem tl_80 : ∀ j, j < 80 → ts_cin j := lt_s tl_79 te_79
theorem tl_81 : ∀ j, j < 81 → ts_cin j := lt_s tl_80 te_80
theorem tl_82 : ∀ j, j < 82 → ts_cin j := lt_s tl_81 te_81
theorem tl_83 : ∀ j, j < 83 → ts_cin j := lt_s tl_82 te_82
theorem tl_84 : ∀ j, j < 84 → ts_cin j := lt_s tl_83 te_83
theorem tl_85 : ∀ j, j < 85 → ts_cin j := lt_s tl_84 te_84
theorem tl_86 : ∀ j, j < 86 → ts_cin j := lt_s tl_85 te_85
theorem tl_87 : ∀ j, j < 87 → ts_cin j := lt_s tl_86 te_86
theorem tl_88 : ∀ j, j < 88 → ts_cin j := lt_s tl_87 te_87
theorem tl_89 : ∀ j, j < 89 → ts_cin j := lt_s tl_88 te_88
theorem tl_90 : ∀ j, j < 90 → ts_cin j := lt_s tl_89 te_89
theorem tl_91 : ∀ j, j < 91 → ts_cin j := lt_s tl_90 te_90
theorem tl_92 : ∀ j, j < 92 → ts_cin j := lt_s tl_91 te_91
theorem tl_93 : ∀ j, j < 93 → ts_cin j := lt_s tl_92 te_92
theorem tl_94 : ∀ j, j < 94 → ts_cin j := lt_s tl_93 te_93
theorem tl_95 : ∀ j, j < 95 → ts_cin j := lt_s tl_94 te_94
theorem tl_96 : ∀ j, j < 96 → ts_cin j := lt_s tl_95 te_95
theorem tl_97 : ∀ j, j < 97 → ts_cin j := lt_s tl_96 te_96
theorem tl_98 : ∀ j, j < 98 → ts_cin j := lt_s tl_97 te_97
theorem tl_99 : ∀ j, j < 99 → ts_cin j := lt_s tl_98 te_98
theorem tl_100 : ∀ j, j < 100 → ts_cin j := lt_s tl_99 te_99
theorem tl_101 : ∀ j, j < 101 → ts_cin j := lt_s tl_100 te_100
theorem tl_102 : ∀ j, j < 102 → ts_cin j := lt_s tl_101 te_101
theorem tl_103 : ∀ j, j < 103 → ts_cin j := lt_s tl_102 te_102
theorem tl_104 : ∀ j, j < 104 → ts_cin j := lt_s tl_103 te_103
theorem tl_105 : ∀ j, j < 105 → ts_cin j := lt_s tl_104 te_104
theorem tl_106 : ∀ j, j < 106 → ts_cin j := lt_s tl_105 te_105
theorem tl_107 : ∀ j, j < 107 → ts_cin j := lt_s tl_106 te_106
theorem tl_108 : ∀ j, j < 108 → ts_cin j := lt_s tl_107 te_107
theorem tl_109 : ∀ j, j < 109 → ts_cin j := lt_s tl_108 te_108
theorem tl_110 : ∀ j, j < 110 → ts_cin j := lt_s tl_109 te_109
theorem tl_111 : ∀ j, j < 111 → ts_cin j := lt_s tl_110 te_110
theorem tl_112 : ∀ j, j < 112 → ts_cin j := lt_s tl_111 te_111
theorem tl_113 : ∀ j, j < 113 → ts_cin j := lt_s tl_112 te_112
theorem tl_114 : ∀ j, j < 114 → ts_cin j := lt_s tl_113 te_113
theorem tl_115 : ∀ j, j < 115 → ts_cin j := lt_s tl_114 te_114
theorem tl_116 : ∀ j, j < 116 → ts_cin j := lt_s tl_115 te_115
theorem tl_117 : ∀ j, j < 117 → ts_cin j := lt_s tl_116 te_116
theorem tl_118 : ∀ j, j < 118 → ts_cin j := lt_s tl_117 te_117
theorem tl_119 : ∀ j, j < 119 → ts_cin j := lt_s tl_118 te_118
theorem tl_120 : ∀ j, j < 120 → ts_cin j := lt_s tl_119 te_119
theorem tl_121 : ∀ j, j < 121 → ts_cin j := lt_s tl_120 te_120
theorem tl_122 : ∀ j, j < 122 → ts_cin j := lt_s tl_121 te_121
theorem tl_123 : ∀ j, j < 123 → ts_cin j := lt_s tl_122 te_122
theorem tl_124 : ∀ j, j < 124 → ts_cin j := lt_s tl_123 te_123
theorem tl_125 : ∀ j, j < 125 → ts_cin j := lt_s tl_124 te_124
theorem tl_126 : ∀ j, j < 126 → ts_cin j := lt_s tl_125 te_125
theorem tl_127 : ∀ j, j < 127 → ts_cin j := lt_s tl_126 te_126
theorem tl_128 : ∀ j, j < 128 → ts_cin j := lt_s tl_127 te_127
theorem tl_129 : ∀ j, j < 129 → ts_cin j := lt_s tl_128 te_128
theorem tl_130 : ∀ j, j < 130 → ts_cin j := lt_s tl_129 te_129
theorem tl_131 : ∀ j, j < 131 → ts_cin j := lt_s tl_130 te_130
theorem tl_132 : ∀ j, j < 132 → ts_cin j := lt_s tl_131 te_131
theorem tl_133 : ∀ j, j < 133 → ts_cin j := lt_s tl_132 te_132
theorem tl_134 : ∀ j, j < 134 → ts_cin j := lt_s tl_133 te_133
theorem tl_135 : ∀ j, j < 135 → ts_cin j := lt_s tl_134 te_134
theorem tl_136 : ∀ j, j < 136 → ts_cin j := lt_s tl_135 te_135
theorem tl_137 : ∀ j, j < 137 → ts_cin j := lt_s tl_136 te_136
theorem tl_138 : ∀ j, j < 138 → ts_cin j := lt_s tl_137 te_137
theorem tl_139 : ∀ j, j < 139 → ts_cin j := lt_s tl_138 te_138
theorem tl_140 : ∀ j, j < 140 → ts_cin j := lt_s tl_139 te_139
theorem tl_141 : ∀ j, j < 141 → ts_cin j := lt_s tl_140 te_140
theorem tl_142 : ∀ j, j < 142 → ts_cin j := lt_s tl_141 te_141
theorem tl_143 : ∀ j, j < 143 → ts_cin j := lt_s tl_142 te_142
theorem tl_144 : ∀ j, j < 144 → ts_cin j := lt_s tl_143 te_143
theorem tl_145 : ∀ j, j < 145 → ts_cin j := lt_s tl_144 te_144
theorem tl_146 : ∀ j, j < 146 → ts_cin j := lt_s tl_145 te_145
theorem tl_147 : ∀ j, j < 147 → ts_cin j := lt_s tl_146 te_146
theorem tl_148 : ∀ j, j < 148 → ts_cin j := lt_s tl_147 te_147
theorem tl_149 : ∀ j, j < 149 → ts_cin j := lt_s tl_148 te_148
theorem tl_150 : ∀ j, j < 150 → ts_cin j := lt_s tl_149 te_149
theorem tl_151 : ∀ j, j < 151 → ts_cin j := lt_s tl_150 te_150
theorem tl_152 : ∀ j, j < 152 → ts_cin j := lt_s tl_151 te_151
theorem tl_153 : ∀ j, j < 153 → ts_cin j := lt_s tl_152 te_152
theorem tl_154 : ∀ j, j < 154 → ts_cin j := lt_s tl_153 te_153
theorem tl_155 : ∀ j, j < 155 → ts_cin j := lt_s tl_154 te_154
theorem tl_156 : ∀ j, j < 156 → ts_cin j := lt_s tl_155 te_155
theorem tl_157 : ∀ j, j < 157 → ts_cin j := lt_s tl_156 te_156
theorem tl_158 : ∀ j, j < 158 → ts_cin j := lt_s tl_157 te_157
theorem tl_159 : ∀ j, j < 159 → ts_cin j := lt_s tl_158 te_158
theorem tl_160 : ∀ j, j < 160 → ts_cin j := lt_s tl_159 te_159
theorem tl_161 : ∀ j, j < 161 → ts_cin j := lt_s tl_160 te_160
theorem tl_162 : ∀ j, j < 162 → ts_cin j := lt_s tl_161 te_161
theorem tl_163 : ∀ j, j < 163 → ts_cin j := lt_s tl_162 te_162
theorem tl_164 : ∀ j, j < 164 → ts_cin j := lt_s tl_163 te_163
theorem tl_165 : ∀ j, j < 165 → ts_cin j := lt_s tl_164 te_164
theorem tl_166 : ∀ j, j < 166 → ts_cin j := lt_s tl_165 te_165
theorem tl_167 : ∀ j, j < 167 → ts_cin j := lt_s tl_166 te_166
theorem tl_168 : ∀ j, j < 168 → ts_cin j := lt_s tl_167 te_167
theorem tl_169 : ∀ j, j < 169 → ts_cin j := lt_s tl_168 te_168
theorem tl_170 : ∀ j, j < 170 → ts_cin j := lt_s tl_169 te_169
theorem tl_171 : ∀ j, j < 171 → ts_cin j := lt_s tl_170 te_170
theorem tl_172 : ∀ j, j < 172 → ts_cin j := lt_s tl_171 te_171
theorem tl_173 : ∀ j, j < 173 → ts_cin j := lt_s tl_172 te_172
theorem tl_174 : ∀ j, j < 174 → ts_cin j := lt_s tl_173 te_173
theorem tl_175 : ∀ j, j < 175 → ts_cin j := lt_s tl_174 te_174
theorem ts_code_ok : ∀ j, j < 175 → Cond.code (ts_mt j).2.1 (ts_mt j).2.2.1 (ts_mt j).2.2.2.1 (ts_mt j).2.2.2.2 ∈ ts_G := tl_175
end
section
/-! One step of the small machine, and a whole run of it, as the real machine does them. -/
theorem ts_cl_get {ci : Nat} (h : ci < 11) : ∃ (C : String) (T : u_T) (N : Nat), ts_cl[ci]? = some (C, T, N) ∧ ts_N ci = N ∧ (∀ k, ts_ct ci k = T k) ∧ ts_cn ci = C := by
  obtain ⟨⟨C, T, N⟩, hq⟩ : ∃ q, ts_cl[ci]? = some q := ⟨_, List.getElem?_eq_getElem (show ci < ts_cl.length from h)⟩
  exact ⟨C, T, N, hq, by unfold ts_N; rw [hq]; rfl, fun k => by unfold ts_ct; rw [hq]; rfl, by unfold ts_cn; rw [hq]; rfl⟩
def ts_Z (b0 : Nat) (ad : Nat → Nat) (U : State) (H : Heap) : Prop := va_Z "TidingsDesk$Tape" "MARKS" "[C" (.ref (ad 1)) (fun q => b0 ≤ q) U H ∧ va_Z "TidingsDesk$Tape" "HIGHEST" "[I" (.ref (ad 2)) (fun q => b0 ≤ q) U H
def ts_C (b0 : Nat) (ad : Nat → Nat) (D : va_G) (cA : Nat → ClassId) (p : Program) (R : Room) (s : State) (m : MethodId) (args : Array Value) (meth : Method) (c : Code) (j d : Nat) : Prop :=
  p.tables.exec = Jvm.exec ∧ c.code = (ts_mt j).2.2.1 ∧ meth.sig.returnType = (ts_mt j).2.2.2.2 ∧ c.maxLocals = tm_ml j ∧ s.vm.findClass (ts_mt j).1 = some m.cls ∧ (∀ w ∈ ts_G, w.before args s = true) ∧ meth.locks = false ∧ ((ts_mt j).2.1.name = "<init>" → meth.name = "<init>") ∧ va_K D ts_cl (ts_tys cA) s ∧ (∀ w ∈ ts_sp, va_Nw w s) ∧ d ≤ R.frames ∧ 64 * d ≤ R.locals ∧ b0 ≤ s.heap.size ∧ ts_Z b0 ad s s.heap
section TSS
variable {p : Program} {l : Launch} {e : Env} {R : Room} {s : State} {m : MethodId} {args : Array Value} {below : List Frame} {meth : Method} {c : Code} {H : Heap} {locs : List Loc} {cells slots : Nat} {Q : State → Prop}
variable {b0 : Nat} {ad : Nat → Nat} {D : va_G} {cA : Nat → ClassId}
theorem ts_fvI {t a k : Nat} {h : tm_H} (ht : t ≠ 1 ∧ t ≠ 2) : tm_fv t a k h = .int (h.2.1 a k) := by unfold tm_fv; rw [if_neg ht.1, if_neg ht.2]
set_option maxHeartbeats 4000000 in
theorem ts_h {j d pc pc' : Nat} {ls ls' : tm_Lo} {st st' : List Value} {h h' : tm_H} {la : Array Slot} {x : tm_X} {i : Instr} (hA3 : ∀ k, 3 ≤ k → ad k = b0 + (k - 3)) (hj : ts_jok j) (hC : ts_C b0 ad D cA p R s m args meth c j d) (ho : tm_op j pc = some (i, x)) (hR : ts_R b0 ad D cA h s H) (hS : va_S (fun q => b0 ≤ q) s.heap H locs) (hl : ts_L ad (tm_ml j) (ts_lL j) ls la) (hq : tm_h i x pc ls st h = some (pc', ls', st', h')) (hcells : cells + (h'.1.1 - h.1.1) ≤ R.cells) (hslots : slots + (h'.1.2.1 - h.1.2.1) ≤ R.slots)
    (kk : ∀ (H1 : Heap) (locs1 : List Loc) (la' : Array Slot), ts_R b0 ad D cA h' s H1 → va_S (fun q => b0 ≤ q) s.heap H1 locs1 → ts_L ad (tm_ml j) (ts_lL j) ls' la' → W p l e R s m args below meth c H1 locs1 (cells + (h'.1.1 - h.1.1)) (slots + (h'.1.2.1 - h.1.2.1)) Q (F0 m pc' la' (st'.map (ts_v ad)))) : W p l e R s m args below meth c H locs cells slots Q (F0 m pc la (st.map (ts_v ad))) := by
  obtain ⟨hx, hb, hr, hml, hown, hG, hlk, hini, hK, hN, hfr, hlo, hb0, hZ⟩ := hC
  obtain ⟨hd, hw, hwn, hck, hxk⟩ := hj.1 pc i x ho
  have pure : ∀ (w : Nat × tm_Lo × List Value), tm_q i x pc ls st = some w → pc' = w.1 → ls' = w.2.1 → st' = w.2.2 → h' = h → (∀ w9 ∈ ts_wq (ts_mt j).1 i x, w9 ∈ ts_G) → W p l e R s m args below meth c H locs cells slots Q (F0 m pc la (st.map (ts_v ad))) := by
    intro w e1 e2 e3 e4 e5 hwq
    obtain ⟨w1, w2, w3⟩ := w
    dsimp only at e2 e3 e4
    subst e2; subst e3; subst e4; subst e5
    refine ts_q hx hb hown (fun w9 h9 => hG w9 (hwq w9 h9)) hd hck hl e1 (fun la' hl' => ?_)
    have := kk H locs la' hR hS hl'
    rw [Nat.sub_self, Nat.sub_self] at this
    exact this
  have pure' : (tm_q i x pc ls st).map (fun w => (w.1, w.2.1, w.2.2, h)) = some (pc', ls', st', h') → (∀ w9 ∈ ts_wq (ts_mt j).1 i x, w9 ∈ ts_G) → W p l e R s m args below meth c H locs cells slots Q (F0 m pc la (st.map (ts_v ad))) := by
    intro e1 hwq
    obtain ⟨w, f1, f2⟩ := Option.map_eq_some_iff.mp e1
    cases f2
    exact pure w f1 rfl rfl rfl rfl hwq
  have same : ∀ {la1 : Array Slot} {pc1 : Nat} {ls1 : tm_Lo} {st1 : List Value}, h' = h → pc' = pc1 → ls' = ls1 → st' = st1 → ts_L ad (tm_ml j) (ts_lL j) ls1 la1 → W p l e R s m args below meth c H locs cells slots Q (F0 m pc1 la1 (st1.map (ts_v ad))) := by
    intro la1 pc1 ls1 st1 e1 e2 e3 e4 hl1
    subst e1; subst e2; subst e3; subst e4
    have := kk H locs la1 hR hS hl1
    rw [Nat.sub_self, Nat.sub_self] at this
    exact this
  have writ : ∀ (H1 : Heap) (locs1 : List Loc) {pc1 : Nat} {st1 : List Value}, h'.1 = h.1 → pc' = pc1 → ls' = ls → st' = st1 → ts_R b0 ad D cA h' s H1 → va_S (fun q => b0 ≤ q) s.heap H1 locs1 → W p l e R s m args below meth c H1 locs1 cells slots Q (F0 m pc1 la (st1.map (ts_v ad))) := by
    intro H1 locs1 pc1 st1 e1 e2 e3 e4 hR1 hS1
    subst e2; subst e3; subst e4
    have := kk H1 locs1 la hR1 hS1 hl
    rw [e1, Nat.sub_self, Nat.sub_self] at this
    exact this
  cases i with
  | getfield k =>
    obtain ⟨w, e1, e2⟩ := Option.map_eq_some_iff.mp hq
    cases e2
    unfold tm_gf at e1
    split at e1
    next a r =>
      split at e1
      next hsh =>
        cases e1
        simp only [ts_xk, ts_fk, Bool.and_eq_true, decide_eq_true_eq] at hxk
        obtain ⟨C, T, N, hc, eN, eT, eC⟩ := ts_cl_get hxk.1.1
        obtain ⟨c1, c2, c3, c4⟩ := ts_cl_ok _ _ _ _ hc
        refine ts_get hx hb hG c1 hown hK hR hc (by rw [← eN]; exact hxk.1.2) hxk.2 ?_ hd hsh (same rfl rfl rfl rfl hl)
        by_cases hz : x.2.2.2 = 1
        · right
          refine ⟨"TidingsDesk", va_Nw.use rfl (hN _ (hwn _ ?_))⟩
          simp only [ts_wn, hz, if_true, eT]
          exact List.mem_cons_self
        · left
          refine hG _ (hw _ ?_)
          simp only [ts_wh, hz, if_false, eT]
          exact List.mem_cons_self
      next => cases e1
    next => cases e1
  | putfield k =>
    obtain ⟨w, e1, e2⟩ := Option.map_eq_some_iff.mp hq
    cases e2
    simp only [ts_xk, ts_fk, Bool.and_eq_true, Bool.or_eq_true, decide_eq_true_eq] at hxk
    obtain ⟨C, T, N, hc, eN, eT, eC⟩ := ts_cl_get hxk.1.1.1
    obtain ⟨c1, c2, c3, c4⟩ := ts_cl_ok _ _ _ _ hc
    have hf : x.2.2.1 < N := by rw [← eN]; exact hxk.1.1.2
    have hlink : (Cond.fieldLink (ts_mt j).1 k (T x.2.2.1).1 (T x.2.2.1).2.1 (T x.2.2.1).2.2.1).before args s = true := by
      refine hG _ (hw _ ?_)
      simp only [ts_wh, eT]
      exact List.mem_cons_self
    have hfin : (T x.2.2.1).2.2.2 = false ∨ ((T x.2.2.1).2.2.2 = true ∧ meth.name = "<init>" ∧ (T x.2.2.1).1 = (ts_mt j).1) := by
      rcases hxk.2 with q | q
      · left; rw [← eT]; exact q
      · right; rw [← eT]; exact ⟨q.1.1, hini q.1.2, q.2⟩
    have hkd := hxk.1.2
    unfold tm_pf at e1
    split at e1
    next v a r ht =>
      split at e1
      next hsh =>
        cases e1
        rw [ht] at hkd
        have hty : ts_ty x.2.1 x.2.2.1 = .int := by revert hkd; cases ts_ty x.2.1 x.2.2.1 <;> simp [ts_kd]
        refine ts_put (v := .int v) (h' := (h.1, up2 h.2.1 a x.2.2.1 v, h.2.2.1, h.2.2.2)) hA3 hx hb hG c1 c2 c3 hown hK hR hS hc hf hlink hfin (by rw [hty]; rfl) (by rw [hty]; rfl) hd hsh rfl (fun _ hk9 => up2_row hk9) (fun _ _ => rfl) (fun _ _ => rfl) (by rw [hkd]; exact congrArg Value.int up2_at) (fun g hg => ?_) (fun H1 locs1 hR1 hS1 => writ H1 locs1 rfl rfl rfl rfl hR1 hS1)
        unfold tm_fv
        dsimp only
        rw [up2_ne hg]
      next => cases e1
    next v a r ht =>
      split at e1
      next hsh =>
        cases e1
        rw [ht] at hkd
        have hty : ts_ty x.2.1 x.2.2.1 = .long := by revert hkd; cases ts_ty x.2.1 x.2.2.1 <;> simp [ts_kd]
        refine ts_put (v := .long v) (h' := (h.1, h.2.1, up2 h.2.2.1 a x.2.2.1 v, h.2.2.2)) hA3 hx hb hG c1 c2 c3 hown hK hR hS hc hf hlink hfin (by rw [hty]; rfl) (by rw [hty]; rfl) hd hsh rfl (fun _ _ => rfl) (fun _ hk9 => up2_row hk9) (fun _ _ => rfl) (by rw [hkd]; exact congrArg Value.long up2_at) (fun g hg => ?_) (fun H1 locs1 hR1 hS1 => writ H1 locs1 rfl rfl rfl rfl hR1 hS1)
        unfold tm_fv
        dsimp only
        rw [up2_ne hg]
      next => cases e1
    next v a r ht =>
      split at e1
      next hsh =>
        cases e1
        rw [ht] at hkd
        have hty : narrow (ts_ty x.2.1 x.2.2.1) (.ref (ad v)) = .ref (ad v) ∧ fits (ts_ty x.2.1 x.2.2.1) (.ref (ad v)) = true := by
          revert hkd
          cases ts_ty x.2.1 x.2.2.1 <;> simp [ts_kd, narrow, fits]
        refine ts_put (v := .ref v) (h' := (h.1, h.2.1, h.2.2.1, up2 h.2.2.2 a x.2.2.1 (some v))) hA3 hx hb hG c1 c2 c3 hown hK hR hS hc hf hlink hfin hty.1 hty.2 hd hsh rfl (fun _ _ => rfl) (fun _ _ => rfl) (fun _ hk9 => up2_row hk9) (by rw [hkd]; exact congrArg tm_rf up2_at) (fun g hg => ?_) (fun H1 locs1 hR1 hS1 => writ H1 locs1 rfl rfl rfl rfl hR1 hS1)
        unfold tm_fv
        dsimp only
        rw [up2_ne hg]
      next => cases e1
    next v a r ht =>
      split at e1
      next hsh =>
        cases e1
        rw [ht] at hkd
        have hty : ts_ty x.2.1 x.2.2.1 = .boolean := by revert hkd; cases ts_ty x.2.1 x.2.2.1 <;> simp [ts_kd]
        refine ts_put (v := .int v) (h' := (h.1, up2 h.2.1 a x.2.2.1 v, h.2.2.1, h.2.2.2)) hA3 hx hb hG c1 c2 c3 hown hK hR hS hc hf hlink hfin (by rw [hty]; rcases hsh.2 with q | q <;> rw [q] <;> rfl) (by rw [hty]; rcases hsh.2 with q | q <;> rw [q] <;> rfl) hd hsh.1 rfl (fun _ hk9 => up2_row hk9) (fun _ _ => rfl) (fun _ _ => rfl) (by rw [hkd]; exact congrArg Value.int up2_at) (fun g hg => ?_) (fun H1 locs1 hR1 hS1 => writ H1 locs1 rfl rfl rfl rfl hR1 hS1)
        unfold tm_fv
        dsimp only
        rw [up2_ne hg]
      next => cases e1
    next => cases e1
  | iaload =>
    obtain ⟨w, e1, e2⟩ := Option.map_eq_some_iff.mp hq
    cases e2
    unfold tm_al at e1
    split at e1
    next v a r =>
      split at e1
      next hsh => cases e1; exact ts_iald hx hb hK hR hd hsh.1 hsh.2 (same rfl rfl rfl rfl hl)
      next => cases e1
    next => cases e1
  | caload =>
    obtain ⟨w, e1, e2⟩ := Option.map_eq_some_iff.mp hq
    cases e2
    unfold tm_al at e1
    split at e1
    next v a r =>
      split at e1
      next hsh => cases e1; exact ts_cald hx hb hR hd hsh.1 hsh.2 (same rfl rfl rfl rfl hl)
      next => cases e1
    next => cases e1
  | laload =>
    obtain ⟨w, e1, e2⟩ := Option.map_eq_some_iff.mp hq
    cases e2
    unfold tm_al at e1
    split at e1
    next v a r =>
      split at e1
      next hsh => cases e1; exact ts_lald hx hb hK hR hd hsh.1 hsh.2 (same rfl rfl rfl rfl hl)
      next => cases e1
    next => cases e1
  | aaload =>
    obtain ⟨w, e1, e2⟩ := Option.map_eq_some_iff.mp hq
    cases e2
    unfold tm_ala at e1
    split at e1
    next v a r =>
      split at e1
      next hsh => cases e1; exact ts_aald hx hb hK hR hd hsh.1 hsh.2 (same rfl rfl rfl rfl hl)
      next => cases e1
    next => cases e1
  | arraylength =>
    obtain ⟨w, e1, e2⟩ := Option.map_eq_some_iff.mp hq
    cases e2
    unfold tm_len at e1
    split at e1
    next a r =>
      split at e1
      next hsh => cases e1; exact ts_alen hx hb hK hR hd hsh (same rfl rfl rfl rfl hl)
      next => cases e1
    next => cases e1
  | iastore =>
    obtain ⟨w, e1, e2⟩ := Option.map_eq_some_iff.mp hq
    cases e2
    unfold tm_asI at e1
    split at e1
    next u v a r =>
      split at e1
      next hsh => cases e1; exact ts_iast hA3 hx hb hK hR hS hd hsh.1 hsh.2.1 hsh.2.2 (fun H1 locs1 hR1 hS1 => writ H1 locs1 rfl rfl rfl rfl hR1 hS1)
      next => cases e1
    next => cases e1
  | lastore =>
    obtain ⟨w, e1, e2⟩ := Option.map_eq_some_iff.mp hq
    cases e2
    unfold tm_asJ at e1
    split at e1
    next u v a r =>
      split at e1
      next hsh => cases e1; exact ts_last hA3 hx hb hK hR hS hd hsh.1 hsh.2.1 hsh.2.2 (fun H1 locs1 hR1 hS1 => writ H1 locs1 rfl rfl rfl rfl hR1 hS1)
      next => cases e1
    next => cases e1
  | aastore =>
    obtain ⟨w, e1, e2⟩ := Option.map_eq_some_iff.mp hq
    cases e2
    unfold tm_asA at e1
    split at e1
    next u v a r =>
      split at e1
      next hsh =>
        cases e1
        rcases hsh.2.1 with q | q
        · exact ts_aast (ci := 8) (t0 := 3) hA3 hx hb hK hR hS hd hsh.1 (Or.inl q.1) q.2 rfl (by rw [q.1]; rfl) hsh.2.2 (fun H1 locs1 hR1 hS1 => writ H1 locs1 rfl rfl rfl rfl hR1 hS1)
        · exact ts_aast (ci := 0) (t0 := 4) hA3 hx hb hK hR hS hd hsh.1 (Or.inr q.1) q.2 rfl (by rw [q.1]; rfl) hsh.2.2 (fun H1 locs1 hR1 hS1 => writ H1 locs1 rfl rfl rfl rfl hR1 hS1)
      next => cases e1
    next => cases e1
  | new k =>
    cases hq
    simp only [ts_xk, Bool.and_eq_true, decide_eq_true_eq] at hxk
    obtain ⟨C, T, N, hc, eN, eT, eC⟩ := ts_cl_get hxk.1
    obtain ⟨c1, c2, c3, c4⟩ := ts_cl_ok _ _ _ _ hc
    have eN2 : x.2.2.1 = N := by rw [← eN]; exact hxk.2.symm
    have n1 : (tm_nw (0, x.2.1) x.2.2.1 h).1.1 - h.1.1 = 1 := by show h.1.1 + 1 - h.1.1 = 1; omega
    have n2 : (tm_nw (0, x.2.1) x.2.2.1 h).1.2.1 - h.1.2.1 = N := by show h.1.2.1 + x.2.2.1 - h.1.2.1 = N; omega
    rw [n1] at hcells
    rw [n2] at hslots
    have w1 : (Cond.classLink (ts_mt j).1 k C).before args s = true := hG _ (hw _ (by simp [ts_wh, eC]))
    have w2 : (Cond.instantiable C N).before args s = true := hG _ (hw _ (by simp [ts_wh, eC, eN2]))
    have w3 : (Cond.initialized C).before args s = true := hG _ (hw _ (by simp [ts_wh, eC]))
    refine ts_new hA3 hx hb hG c1 c2 c4 hown w1 w2 w3 hK hR hS hc hcells hslots hd (fun H1 hR1 hS1 => ?_)
    rw [eN2] at kk n1 n2
    have := kk H1 locs la hR1 hS1 hl
    rw [n1, n2] at this
    exact this
  | newarray t =>
    obtain ⟨w, e1, e2⟩ := Option.map_eq_some_iff.mp hq
    cases e2
    unfold tm_na at e1
    split at e1
    next v r =>
      split at e1
      next hv =>
        cases e1
        have n1 : (tm_nw (x.1, tm_ix v) (tm_ix v) h).1.1 - h.1.1 = 1 := by show h.1.1 + 1 - h.1.1 = 1; omega
        have n2 : (tm_nw (x.1, tm_ix v) (tm_ix v) h).1.2.1 - h.1.2.1 = tm_ix v := by show h.1.2.1 + tm_ix v - h.1.2.1 = tm_ix v; omega
        dsimp only at hcells hslots kk
        rw [n1] at hcells
        rw [n2] at hslots
        simp only [ts_xk, decide_eq_true_eq] at hxk
        have w1 : (Cond.arrayClass (newarray.typeOf t)).before args s = true := hG _ (hw _ (by simp [ts_wh]))
        refine ts_newa (q := x.1) (t0 := if x.1 = 1 then 0 else 1) hA3 hx hb w1 (by rcases hxk with ⟨q1, q2⟩ | ⟨q1, q2⟩ <;> simp [q1, q2]) hK hR hS hv hcells hslots hd (fun H1 hR1 hS1 => ?_)
        have := kk H1 locs la hR1 hS1 hl
        rw [n1, n2] at this
        exact this
      next => cases e1
    next => cases e1
  | anewarray k =>
    obtain ⟨w, e1, e2⟩ := Option.map_eq_some_iff.mp hq
    cases e2
    unfold tm_na at e1
    split at e1
    next v r =>
      split at e1
      next hv =>
        cases e1
        have n1 : (tm_nw (x.1, tm_ix v) (tm_ix v) h).1.1 - h.1.1 = 1 := by show h.1.1 + 1 - h.1.1 = 1; omega
        have n2 : (tm_nw (x.1, tm_ix v) (tm_ix v) h).1.2.1 - h.1.2.1 = tm_ix v := by show h.1.2.1 + tm_ix v - h.1.2.1 = tm_ix v; omega
        dsimp only at hcells hslots kk
        rw [n1] at hcells
        rw [n2] at hslots
        simp only [ts_xk, decide_eq_true_eq] at hxk
        have w1 := hG _ (hw _ (by simp only [ts_wh]; exact List.mem_cons_self))
        have w2 := hN _ (hwn _ (by simp only [ts_wn]; exact List.mem_cons_self))
        refine ts_anew (q := x.1) (t0 := if x.1 = 4 then 3 else 4) hA3 hx hb hown w1 (ts_over_use w2) hxk (by rcases hxk with q | q <;> simp [q, ts_tys]) hK hR hS hv hcells hslots hd (fun H1 hR1 hS1 => ?_)
        have := kk H1 locs la hR1 hS1 hl
        rw [n1, n2] at this
        exact this
      next => cases e1
    next => cases e1
  | multianewarray k dm =>
    obtain ⟨w, e1, e2⟩ := Option.map_eq_some_iff.mp hq
    cases e2
    unfold tm_mna at e1
    split at e1
    next v u r =>
      split at e1
      next hv =>
        cases e1
        have n1 : (tm_mn (tm_ix u) (tm_ix v) h).1.1 - h.1.1 = 1 + tm_ix u := by show h.1.1 + 1 + tm_ix u - h.1.1 = 1 + tm_ix u; omega
        have n2 : (tm_mn (tm_ix u) (tm_ix v) h).1.2.1 - h.1.2.1 = tm_ix u + tm_ix u * tm_ix v := by show h.1.2.1 + tm_ix u + tm_ix u * tm_ix v - h.1.2.1 = _; omega
        dsimp only at hcells hslots kk
        rw [n1] at hcells
        rw [n2] at hslots
        simp only [ts_xk, decide_eq_true_eq] at hxk
        subst hxk
        have w1 := hG _ (hw (.classLink (ts_mt j).1 k ("[" ++ (FieldType.array .int).toString)) (by simp only [ts_wh]; exact List.mem_cons_self))
        have w3 := hG _ (hw (.arrayClass .int) (by simp only [ts_wh]; exact List.mem_cons_of_mem _ List.mem_cons_self))
        have w2 := hN _ (hwn (.arrayOver (.array .int)) (by simp only [ts_wn]; exact List.mem_cons_self))
        refine ts_mna hA3 hx hb hown w1 (ts_over_use w2) w3 hK hR hS hv.1 hv.2.1 hv.2.2.1 hv.2.2.2 hcells hslots hd (fun H1 hR1 hS1 => ?_)
        have := kk H1 locs la hR1 hS1 hl
        rw [n1, n2, ← Nat.add_assoc, ← Nat.add_assoc] at this
        exact this
      next => cases e1
    next => cases e1
  | getstatic k =>
    cases hq
    simp only [ts_xk, decide_eq_true_eq] at hxk
    have w1 := hG _ (hw _ (by simp only [ts_wh]; exact List.mem_cons_self))
    rcases hxk with q | q
    · simp only [q, if_true] at w1
      have k9 := same (la1 := la) (pc1 := pc + 3) (ls1 := ls) (st1 := .ref x.1 :: st) rfl rfl rfl rfl hl
      rw [q] at k9
      exact va_gets hx hb hZ.1 hS hown w1 (fun _ h9 => h9) hd k9
    · simp only [q] at w1
      have k9 := same (la1 := la) (pc1 := pc + 3) (ls1 := ls) (st1 := .ref x.1 :: st) rfl rfl rfl rfl hl
      rw [q] at k9
      exact va_gets hx hb hZ.2 hS hown w1 (fun _ h9 => h9) hd k9
  | ldc k => exact pure' hq (fun w9 h9 => hw w9 h9)
  | ldc_w k => exact pure' hq (fun w9 h9 => hw w9 h9)
  | ldc2_w k => exact pure' hq (fun w9 h9 => hw w9 h9)
  | _ => exact pure' hq (fun w9 h9 => by cases h9)
end TSS
end
section
/-! A whole run. -/
def ts_fl (as : List Value) : tm_Lo := as.flatMap (fun v => if v.category = 2 then [some v, none] else [some v])
theorem ts_fl_len (ad : Nat → Nat) : ∀ as : List Value, (ts_fl as).length = (lg_sl (as.map (ts_v ad))).length
  | [] => rfl
  | v :: r => by
    have ih := ts_fl_len ad r
    simp only [ts_fl, lg_sl, List.flatMap_cons, List.map_cons, List.length_append, ts_v_cat] at ih ⊢
    rw [ih]
    by_cases h : v.category = 2 <;> simp [h]
theorem ts_fl_get (ad : Nat → Nat) : ∀ (as : List Value) (i : Nat) (v : Value), (ts_fl as)[i]? = some (some v) → (lg_sl (as.map (ts_v ad)))[i]? = some (.val (ts_v ad v))
  | [], i, v, h => by simp [ts_fl] at h
  | w :: r, i, v, h => by
    have ih := ts_fl_get ad r
    simp only [ts_fl, List.flatMap_cons] at h ih
    simp only [lg_sl, List.flatMap_cons, List.map_cons, ts_v_cat] at ih ⊢
    by_cases hc : w.category = 2
    · rw [if_pos hc] at h ⊢
      match i, h with
      | 0, h => simp at h; subst h; simp
      | 1, h => simp at h
      | i + 2, h => simp at h ⊢; exact ih i v (by simpa using h)
    · rw [if_neg hc] at h ⊢
      match i, h with
      | 0, h => simp at h; subst h; simp
      | i + 1, h => simp at h ⊢; exact ih i v (by simpa using h)
theorem ts_fl_long : ∀ (as : List Value) (n i : Nat) (v : Value), (∀ k ∈ as.map tm_vk, k ≠ 9) → (ts_fl as)[i]? = some (some v) → v.category = 2 → n + i ∈ ts_lp n (as.map tm_vk)
  | [], n, i, v, _, h, _ => by simp [ts_fl] at h
  | w :: r, n, i, v, h9, h, hv => by
    have ih := ts_fl_long r
    have h9r : ∀ k ∈ r.map tm_vk, k ≠ 9 := fun k hk => h9 k (List.mem_cons_of_mem _ hk)
    have hw9 : tm_vk w ≠ 9 := h9 _ List.mem_cons_self
    simp only [ts_fl, List.flatMap_cons] at h ih
    simp only [List.map_cons, ts_lp]
    by_cases hc : w.category = 2
    · have hk : tm_vk w = 1 := by cases w <;> simp_all [Value.category, tm_vk]
      rw [if_pos hc] at h
      rw [if_pos hk]
      match i, h with
      | 0, h => exact List.mem_cons_self
      | 1, h => simp at h
      | i + 2, h =>
        simp at h
        refine List.mem_cons_of_mem _ ?_
        have := ih (n + 2) i v h9r (by simpa using h) hv
        rw [show n + (i + 2) = n + 2 + i by omega]
        exact this
    · have hk : ¬ tm_vk w = 1 := by cases w <;> simp_all [Value.category, tm_vk]
      rw [if_neg hc] at h
      rw [if_neg hk]
      match i, h with
      | 0, h => simp at h; subst h; exact absurd hv hc
      | i + 1, h =>
        simp at h
        have := ih (n + 1) i v h9r (by simpa using h) hv
        rw [show n + (i + 1) = n + 1 + i by omega]
        exact this
theorem ts_fl_ls : ∀ as : List Value, (∀ k ∈ as.map tm_vk, k ≠ 9) → (ts_fl as).length = ts_ls (as.map tm_vk)
  | [], _ => rfl
  | w :: r, h9 => by
    have ih := ts_fl_ls r (fun k hk => h9 k (List.mem_cons_of_mem _ hk))
    have hw9 : tm_vk w ≠ 9 := h9 _ List.mem_cons_self
    simp only [ts_fl, List.flatMap_cons, List.length_append, List.map_cons, ts_ls] at ih ⊢
    rw [ih]
    congr 1
    cases w <;> simp_all [Value.category, tm_vk]
theorem ts_ent {ad : Nat → Nat} {ml : Nat} {LL : List Nat} {as : List Value} {ak : List Nat} (hk : as.map tm_vk = ak) (h9 : ∀ k ∈ ak, k ≠ 9) (hls : ts_ls ak ≤ ml) (hLL : ∀ k ∈ ts_lp 0 ak, k ∈ LL) : ts_L ad ml LL (tm_ent ml as) ((lg_sl (as.map (ts_v ad)) ++ List.replicate (ml - (lg_sl (as.map (ts_v ad))).length) Slot.unset).toArray) := by
  subst hk
  have hlen := ts_fl_ls as h9
  have hlen2 := ts_fl_len ad as
  have hle : (lg_sl (as.map (ts_v ad))).length ≤ ml := by rw [← hlen2, hlen]; exact hls
  obtain ⟨g1, g2, g3⟩ := lv_entry (as.map (ts_v ad)) hle
  have hent : tm_ent ml as = ts_fl as ++ List.replicate (ml - (ts_fl as).length) none := rfl
  have key : ∀ (i : Nat) (v : Value), (tm_ent ml as)[i]? = some (some v) → (ts_fl as)[i]? = some (some v) := by
    intro i v h
    rw [hent] at h
    by_cases hi : i < (ts_fl as).length
    · rw [List.getElem?_append_left hi] at h; exact h
    · rw [List.getElem?_append_right (by omega)] at h
      have := List.mem_of_getElem? h
      have := List.eq_of_mem_replicate this
      cases this
  refine ⟨by rw [hent, List.length_append, List.length_replicate]; omega, g1, g2, fun i v h => ?_, fun i v h hv => ?_⟩
  · have h1 := ts_fl_get ad as i v (key i v h)
    have hi : i < (lg_sl (as.map (ts_v ad))).length := (List.getElem?_eq_some_iff.mp h1).1
    rw [List.getElem?_toArray, List.getElem?_append_left hi]
    exact h1
  · have := ts_fl_long as 0 i v h9 (key i v h) hv
    rw [Nat.zero_add] at this
    exact hLL _ this
theorem ts_h_grow {i : Instr} {x : tm_X} {pc pc' : Nat} {ls ls' : tm_Lo} {st st' : List Value} {h h' : tm_H} (e : tm_h i x pc ls st h = some (pc', ls', st', h')) : h.1.1 ≤ h'.1.1 ∧ h.1.2.1 ≤ h'.1.2.1 := by
  have pure : (tm_q i x pc ls st).map (fun w => (w.1, w.2.1, w.2.2, h)) = some (pc', ls', st', h') → h.1.1 ≤ h'.1.1 ∧ h.1.2.1 ≤ h'.1.2.1 := by
    intro e1
    obtain ⟨w, f1, f2⟩ := Option.map_eq_some_iff.mp e1
    cases f2
    exact ⟨Nat.le_refl _, Nat.le_refl _⟩
  have hkk : ∀ {n : Nat} {q : Option (List Value)}, tm_hk pc n ls h q = some (pc', ls', st', h') → h.1.1 ≤ h'.1.1 ∧ h.1.2.1 ≤ h'.1.2.1 := by
    intro n q e1
    obtain ⟨w, f1, f2⟩ := Option.map_eq_some_iff.mp e1
    cases f2
    exact ⟨Nat.le_refl _, Nat.le_refl _⟩
  have hss : ∀ {n : Nat} {q : Option (List Value × tm_H)}, tm_hs pc n ls q = some (pc', ls', st', h') → q = some (st', h') := by
    intro n q e1
    obtain ⟨w, f1, f2⟩ := Option.map_eq_some_iff.mp e1
    cases f2
    exact f1
  cases i with
  | getfield k => exact hkk e
  | iaload => exact hkk e
  | caload => exact hkk e
  | laload => exact hkk e
  | aaload => exact hkk e
  | arraylength => exact hkk e
  | putfield k =>
    have f := hss e
    unfold tm_pf at f
    split at f <;> first | (split at f <;> first | (cases f; exact ⟨Nat.le_refl _, Nat.le_refl _⟩) | cases f) | cases f
  | iastore =>
    have f := hss e
    unfold tm_asI at f
    split at f <;> first | (split at f <;> first | (cases f; exact ⟨Nat.le_refl _, Nat.le_refl _⟩) | cases f) | cases f
  | lastore =>
    have f := hss e
    unfold tm_asJ at f
    split at f <;> first | (split at f <;> first | (cases f; exact ⟨Nat.le_refl _, Nat.le_refl _⟩) | cases f) | cases f
  | aastore =>
    have f := hss e
    unfold tm_asA at f
    split at f <;> first | (split at f <;> first | (cases f; exact ⟨Nat.le_refl _, Nat.le_refl _⟩) | cases f) | cases f
  | new k => cases e; exact ⟨Nat.le_succ _, Nat.le_add_right _ _⟩
  | newarray t =>
    have f := hss e
    unfold tm_na at f
    split at f <;> first | (split at f <;> first | (cases f; exact ⟨Nat.le_succ _, Nat.le_add_right _ _⟩) | cases f) | cases f
  | anewarray t =>
    have f := hss e
    unfold tm_na at f
    split at f <;> first | (split at f <;> first | (cases f; exact ⟨Nat.le_succ _, Nat.le_add_right _ _⟩) | cases f) | cases f
  | multianewarray t n =>
    have f := hss e
    unfold tm_mna at f
    split at f
    next v u r =>
      split at f
      next =>
        cases f
        exact ⟨by show h.1.1 ≤ h.1.1 + 1 + tm_ix u; omega, by show h.1.2.1 ≤ h.1.2.1 + tm_ix u + tm_ix u * tm_ix v; omega⟩
      next => cases f
    next => cases f
  | getstatic k => cases e; exact ⟨Nat.le_refl _, Nat.le_refl _⟩
  | _ => exact pure e
theorem ts_grow : ∀ (n d j pc : Nat) (ls : tm_Lo) (st : List Value) (h : tm_H) (q : Option Value × tm_H), tm_run n d j pc ls st h = some q → h.1.1 ≤ q.2.1.1 ∧ h.1.2.1 ≤ q.2.1.2.1
  | 0, _, _, _, _, _, _, _ => fun e => by cases e
  | n + 1, d, j, pc, ls, st, h, q => fun e => by
    rw [tm_run] at e
    obtain ⟨o, -, e⟩ := Option.bind_eq_some_iff.mp e
    split at e
    next =>
      obtain ⟨w, f1, f2⟩ := Option.map_eq_some_iff.mp e
      cases f2
      exact ⟨Nat.le_refl _, Nat.le_refl _⟩
    next =>
      split at e
      next =>
        split at e
        next => cases e
        next =>
          split at e
          next =>
            obtain ⟨w, f1, f2⟩ := Option.bind_eq_some_iff.mp e
            exact ts_grow n _ _ _ _ _ _ _ f2
          next =>
            split at e
            next =>
              obtain ⟨w, f1, f2⟩ := Option.bind_eq_some_iff.mp e
              have g := ts_grow n _ _ _ _ _ _ _ f2
              unfold tm_cp at f1
              split at f1
              next =>
                split at f1
                next => cases f1; exact g
                next => cases f1
              next => cases f1
            next =>
              split at e
              next =>
                obtain ⟨w, f1, f2⟩ := Option.bind_eq_some_iff.mp e
                exact ts_grow n _ _ _ _ _ _ _ f2
              next =>
               split at e
               next =>
                obtain ⟨w, f1, f2⟩ := Option.bind_eq_some_iff.mp e
                have g1 := ts_grow n _ _ _ _ _ _ _ f1
                have g2 := ts_grow n _ _ _ _ _ _ _ f2
                exact ⟨Nat.le_trans g1.1 g2.1, Nat.le_trans g1.2 g2.2⟩
               next => cases e
      next =>
        obtain ⟨w, f1, f2⟩ := Option.bind_eq_some_iff.mp e
        have g1 := ts_h_grow f1
        have g2 := ts_grow n _ _ _ _ _ _ _ f2
        exact ⟨Nat.le_trans g1.1 g2.1, Nat.le_trans g1.2 g2.2⟩
end
section
def ts_Q (b0 : Nat) (ad : Nat → Nat) (D : va_G) (cA : Nat → ClassId) (r : Option Value) (h' : tm_H) : Array Value → State → Outcome → State → Prop := fun _ s o t => o = .returned (r.map (ts_v ad)) ∧ ts_R b0 ad D cA h' t t.heap ∧ va_F (fun q => b0 ≤ q) s t
def ts_Pc (b0 : Nat) (ad : Nat → Nat) (D : va_G) (cA : Nat → ClassId) (as : List Value) (h : tm_H) : Array Value → State → Prop := fun v U => v = (as.map (ts_v ad)).toArray ∧ ts_R b0 ad D cA h U U.heap ∧ b0 ≤ U.heap.size ∧ va_K D ts_cl (ts_tys cA) U ∧ (∀ w ∈ ts_sp, va_Nw w U) ∧ ts_Z b0 ad U U.heap
theorem ts_Pc_blind {b0 : Nat} {ad : Nat → Nat} {D : va_G} {cA : Nat → ClassId} {as : List Value} {h : tm_H} : FrameBlind (ts_Pc b0 ad D cA as h) := fun a U g mk q => by
  obtain ⟨q0, q1, q2, q3, q4, q5⟩ := q
  have hv : U.vm.Alike (U.calling g mk a).vm := Vm.Alike.refl U.vm
  exact ⟨q0, ts_R.moved hv q1, q2, va_K.moved (u := U) hv q3, ts_sp_same (s := U) (U := U.calling g mk a) rfl q4, ⟨va_Z.moved hv q5.1, va_Z.moved hv q5.2⟩⟩
section TSF
variable {p : Program} {l : Launch} {e : Env} {R : Room} {s : State} {m : MethodId} {args : Array Value} {below : List Frame} {meth : Method} {c : Code} {H : Heap} {locs : List Loc} {cells slots : Nat} {Q : State → Prop}
variable {b0 : Nat} {ad : Nat → Nat} {D : va_G} {cA : Nat → ClassId}
theorem ts_cont {pc mc ms : Nat} {la : Array Slot} {st0 rest : List Value} {a : Array Value} {r1 : Option Value} {h1 : tm_H} (hr : va_Run p l e R s m args below meth c H locs cells slots mc ms (F0 m pc la st0) rest (ts_Q b0 ad D cA r1 h1 a) (fun q => b0 ≤ q)) (hS : va_S (fun q => b0 ≤ q) s.heap H locs)
    (kk : ∀ (H1 : Heap) (locs1 : List Loc), ts_R b0 ad D cA h1 s H1 → va_S (fun q => b0 ≤ q) s.heap H1 locs1 → W p l e R s m args below meth c H1 locs1 (cells + mc) (slots + ms) Q (F0 m (pc + 3) la ((r1.map (ts_v ad)).toList ++ rest))) : W p l e R s m args below meth c H locs cells slots Q (F0 m pc la st0) := by
  intro T hT X
  obtain ⟨v, st₀, t, T', L, h0, X', hL, e1, e2, ⟨hv, hR1, hz, hk⟩, st⟩ := hr T hT X
  cases hv
  rw [h0] at hz hk
  have hal : s.vm.Alike t.vm := by rw [← e2]; exact X'.warmed.alike
  obtain ⟨t2, a1, b1⟩ := kk T'.heap (locs ++ L) (by rw [e1]; exact hR1.moved hal.symm)
    ⟨Nat.le_trans hS.1 (by rw [e1]; exact hz), fun q h1 h2 => by rw [e1, hk q (Nat.lt_of_lt_of_le h1 hS.1) h2]; exact hS.2.1 q h1 h2, fun q hq => by
      rcases List.mem_append.mp hq with h | h
      · exact hS.2.2 q h
      · exact hL q h⟩ T' rfl X'
  exact ⟨t2, st t2 a1, b1⟩
theorem ts_Pc_now {as : List Value} {h : tm_H} (hR : ts_R b0 ad D cA h s H) (hS : va_S (fun q => b0 ≤ q) s.heap H locs) (hK : va_K D ts_cl (ts_tys cA) s) (hN : ∀ w ∈ ts_sp, va_Nw w s) (hb0 : b0 ≤ s.heap.size) (hZ : ts_Z b0 ad s s.heap) : ∀ U : State, U.heap = H → s.WarmedH U.vm → ts_Pc b0 ad D cA as h (as.map (ts_v ad)).toArray U := by
  intro U hU hW
  refine ⟨rfl, by rw [hU]; exact hR.moved hW.alike, by rw [hU]; exact Nat.le_trans hb0 hS.1, va_K.moved hW.alike hK, ts_sp_warm hW hN, ?_⟩
  rw [hU]
  exact ⟨va_Z.moved hW.alike (hZ.1.kept (fun a h1 h2 => hS.2.1 a h1 h2)), va_Z.moved hW.alike (hZ.2.kept (fun a h1 h2 => hS.2.1 a h1 h2))⟩
theorem ts_cats (st : List Value) : ((st.map (ts_v ad)).map (fun v => v.category)).sum = (st.map Value.category).sum := by
  rw [List.map_map]
  congr 1
  apply List.map_congr_left
  intro v _
  exact ts_v_cat ad v
theorem ts_inv_oi {st st' : List Value} (h : tm_oi st = some st') : ∃ a, st = .ref a :: st' ∧ (st'.map Value.category).sum ≤ 8 := by
  unfold tm_oi at h
  split at h
  · split at h
    next hc => cases h; exact ⟨_, rfl, hc⟩
    next => cases h
  · cases h
theorem ts_inv_cp {st : List Value} {h : tm_H} {w : List Value × tm_H} (e : tm_cp st h = some w) : ∃ n dp a sp b r, st = .int n :: .int dp :: .ref a :: .int sp :: .ref b :: r ∧ (3 ≤ a ∧ 3 ≤ b ∧ (h.1.2.2 a).1 = 1 ∧ (h.1.2.2 b).1 = 1 ∧ ¬ sp < 0 ∧ ¬ dp < 0 ∧ ¬ n < 0 ∧ tm_ix sp + tm_ix n ≤ (h.1.2.2 b).2 ∧ tm_ix dp + tm_ix n ≤ (h.1.2.2 a).2 ∧ (r.map Value.category).sum ≤ 8) ∧ w = (r, (h.1, upr h.2.1 a (va_cpy (h.2.1 b) (h.2.1 a) (tm_ix sp) (tm_ix dp) (tm_ix n)), h.2.2.1, h.2.2.2)) := by
  unfold tm_cp at e
  split at e
  · split at e
    next hc => cases e; exact ⟨_, _, _, _, _, _, rfl, hc, rfl⟩
    next => cases e
  · cases e
theorem ts_inv_mp {t : Nat} {st st' : List Value} (e : tm_mp t st = some st') : (∃ x r, t = 6 ∧ st = .int x :: r ∧ (r.map Value.category).sum ≤ 8 ∧ st' = .int (if 0 ≤ x then x else 0 - x) :: r) ∨ (∃ y x r, t = 7 ∧ st = .int y :: .int x :: r ∧ (r.map Value.category).sum ≤ 8 ∧ st' = .int (if x < y then y else x) :: r) ∨ (∃ y x r, t = 8 ∧ st = .int y :: .int x :: r ∧ (r.map Value.category).sum ≤ 8 ∧ st' = .int (if y < x then y else x) :: r) ∨ (∃ y x r, t = 9 ∧ st = .long y :: .long x :: r ∧ (r.map Value.category).sum ≤ 8 ∧ st' = .long (if y < x then y else x) :: r) := by
  unfold tm_mp at e
  split at e
  · split at e
    next hc => cases e; exact Or.inl ⟨_, _, rfl, rfl, hc, rfl⟩
    next => cases e
  · split at e
    next hc => cases e; exact Or.inr (Or.inl ⟨_, _, _, rfl, rfl, hc, rfl⟩)
    next => cases e
  · split at e
    next hc => cases e; exact Or.inr (Or.inr (Or.inl ⟨_, _, _, rfl, rfl, hc, rfl⟩))
    next => cases e
  · split at e
    next hc => cases e; exact Or.inr (Or.inr (Or.inr ⟨_, _, _, rfl, rfl, hc, rfl⟩))
    next => cases e
  · cases e
theorem ts_inv_ret {i : Instr} {k : Nat} {st : List Value} {v : Option Value} (h : tm_ret i k st = some v) : (i = .return_ ∧ k = 0 ∧ st = [] ∧ v = none) ∨ (∃ u, i = .ireturn ∧ k = 1 ∧ st = [.int u] ∧ v = some (.int u)) ∨ (∃ u, i = .ireturn ∧ k = 4 ∧ st = [.int u] ∧ v = some (.int u) ∧ (u = 0 ∨ u = 1)) ∨ (∃ u, i = .lreturn ∧ k = 2 ∧ st = [.long u] ∧ v = some (.long u)) ∨ (∃ u, i = .areturn ∧ k = 3 ∧ st = [.ref u] ∧ v = some (.ref u)) ∨ (i = .areturn ∧ k = 3 ∧ st = [.null] ∧ v = some .null) := by
  unfold tm_ret at h
  split at h
  · cases h; exact Or.inl ⟨rfl, rfl, rfl, rfl⟩
  · cases h; exact Or.inr (Or.inl ⟨_, rfl, rfl, rfl, rfl⟩)
  · split at h
    next h01 => cases h; exact Or.inr (Or.inr (Or.inl ⟨_, rfl, rfl, rfl, rfl, h01⟩))
    next => cases h
  · cases h; exact Or.inr (Or.inr (Or.inr (Or.inl ⟨_, rfl, rfl, rfl, rfl⟩)))
  · cases h; exact Or.inr (Or.inr (Or.inr (Or.inr (Or.inl ⟨_, rfl, rfl, rfl, rfl⟩))))
  · cases h; exact Or.inr (Or.inr (Or.inr (Or.inr (Or.inr ⟨rfl, rfl, rfl, rfl⟩))))
  · cases h
theorem ts_rt0 {r : Option FieldType} (h : ts_rt 0 r = true) : r = none := by cases r <;> simp [ts_rt] at h ⊢
theorem ts_rt1 {r : Option FieldType} (h : ts_rt 1 r = true) : r = some .int := by
  cases r with
  | none => simp [ts_rt] at h
  | some t => cases t <;> simp [ts_rt] at h ⊢
theorem ts_rt2 {r : Option FieldType} (h : ts_rt 2 r = true) : r = some .long := by
  cases r with
  | none => simp [ts_rt] at h
  | some t => cases t <;> simp [ts_rt] at h ⊢
theorem ts_rt4 {r : Option FieldType} (h : ts_rt 4 r = true) : r = some .boolean := by
  cases r with
  | none => simp [ts_rt] at h
  | some t => cases t <;> simp [ts_rt] at h ⊢
theorem ts_rt3 {r : Option FieldType} (h : ts_rt 3 r = true) : ∃ C, r = some (.object C) := by
  cases r with
  | none => simp [ts_rt] at h
  | some t => cases t <;> simp [ts_rt] at h ⊢
set_option maxHeartbeats 4000000 in
theorem ts_sound (hA3 : ∀ k, 3 ≤ k → ad k = b0 + (k - 3)) : ∀ (n d j pc : Nat) (ls : tm_Lo) (st : List Value) (h : tm_H) (q : Option Value × tm_H), j < 176 → tm_run n d j pc ls st h = some q → ∀ {p : Program} {e : Env} {R : Room} {s : State} {m : MethodId} {args : Array Value} {below : List Frame} {meth : Method} {c : Code} {H : Heap} {locs : List Loc} {cells slots : Nat} {la : Array Slot},
    ts_C b0 ad D cA p R s m args meth c j d → ts_R b0 ad D cA h s H → va_S (fun q => b0 ≤ q) s.heap H locs → ts_L ad (tm_ml j) (ts_lL j) ls la → cells + (q.2.1.1 - h.1.1) ≤ R.cells → slots + (q.2.1.2.1 - h.1.2.1) ≤ R.slots →
    W p l e R s m args below meth c H locs cells slots (MQ below (ts_Q b0 ad D cA q.1 q.2) args s (cells + (q.2.1.1 - h.1.1)) (slots + (q.2.1.2.1 - h.1.2.1)) (fun q => b0 ≤ q)) (F0 m pc la (st.map (ts_v ad)))
  | 0, _, _, _, _, _, _, _, _ => fun e1 => by cases e1
  | n + 1, d, j, pc, ls, st, h, q, hj176 => fun e1 => by
    intro p e R s m args below meth c H locs cells slots la hC hR hS hl hcells hslots
    have ih := ts_sound hA3 n
    have hj := ts_all_ok j hj176
    rw [tm_run] at e1
    obtain ⟨⟨i, x⟩, ho, e1⟩ := Option.bind_eq_some_iff.mp e1
    dsimp only at e1
    obtain ⟨hx, hb, hr, hml, hown, hG, hlk, hini, hK, hN, hfr, hlo, hb0, hZ⟩ := id hC
    obtain ⟨hd, hw, hwn, hck, hxk⟩ := hj.1 pc i x ho
    by_cases hret : tm_isRet i = true
    · rw [if_pos hret] at e1
      obtain ⟨v, f1, f2⟩ := Option.map_eq_some_iff.mp e1
      subst f2
      dsimp only at hcells hslots ⊢
      rw [Nat.sub_self, Nat.sub_self, Nat.add_zero, Nat.add_zero]
      have hrt := hj.2.2.1
      have fin : ∀ v9 : Option Value, ∀ t : State, t.heap = H → s.WarmedH t.vm → ts_Q b0 ad D cA v9 h args s (.returned (v9.map (ts_v ad))) t := fun v9 t ht hW => ⟨rfl, by rw [ht]; exact hR.moved hW.alike, hS.F ht⟩
      rcases ts_inv_ret f1 with ⟨rfl, hk, rfl, rfl⟩ | ⟨v1, rfl, hk, rfl, rfl⟩ | ⟨v1, rfl, hk, rfl, rfl, h01⟩ | ⟨v1, rfl, hk, rfl, rfl⟩ | ⟨v1, rfl, hk, rfl, rfl⟩ | ⟨rfl, hk, rfl, rfl⟩
      · rw [hk] at hrt
        exact W.vret hx hb (by rw [hr]; exact ts_rt0 hrt) (fin none) hS.2.2 hd
      · rw [hk] at hrt
        exact W.iret hx hb (by rw [hr]; exact ts_rt1 hrt) (fin (some (.int v1))) hS.2.2 hd
      · rw [hk] at hrt
        exact W.zret (ty := .boolean) hx hb (by rw [hr]; exact ts_rt4 hrt) (by rcases h01 with q9 | q9 <;> rw [q9] <;> rfl) (fin (some (.int v1))) hS.2.2 hd
      · rw [hk] at hrt
        exact W.lret hx hb (by rw [hr]; exact ts_rt2 hrt) (fin (some (.long v1))) hS.2.2 hd
      · rw [hk] at hrt
        obtain ⟨C9, hC9⟩ := ts_rt3 hrt
        exact W.aret (v := .ref (ad v1)) hx hb (by rw [hr, hC9]) (Or.inl ⟨C9, rfl⟩) (Or.inr ⟨_, rfl⟩) (fin (some (.ref v1))) hS.2.2 hd
      · rw [hk] at hrt
        obtain ⟨C9, hC9⟩ := ts_rt3 hrt
        exact W.aret (v := .null) hx hb (by rw [hr, hC9]) (Or.inl ⟨C9, rfl⟩) (Or.inl rfl) (fin (some .null)) hS.2.2 hd
    · rw [if_neg hret] at e1
      by_cases hinv : tm_isInv i = true
      · rw [if_pos hinv] at e1
        split at e1
        next => cases e1
        next hd0 =>
          have hd1 : 1 ≤ d := Nat.one_le_iff_ne_zero.mpr hd0
          split at e1
          next hx4 =>
            obtain ⟨st1, f1, f2⟩ := Option.bind_eq_some_iff.mp e1
            obtain ⟨a, rfl, hcs⟩ := ts_inv_oi f1
            cases i with
            | invokespecial k =>
              have w1 := hG _ (hw (.methodLink (ts_mt j).1 k objectInit) (by simp only [ts_wh, hx4, if_true]; simp))
              have w2 := hG _ (hw (.instanceMethod objectInit) (by simp only [ts_wh, hx4, if_true]; simp))
              have w3 := hG _ (hw (.code objectInit ⟨#[0xb1]⟩ 1 none) (by simp only [ts_wh, hx4, if_true]; simp))
              refine W.objInit hx hb hown w1 w2 w3 rfl (by rw [hml]; exact hl.2.1) rfl hd (Nat.le_trans hd1 hfr) ?_ ?_
              · have h9 : ((st1.map (ts_v ad)).map (fun v => v.category)).sum ≤ 8 := by rw [ts_cats]; exact hcs
                have h8 := lv_room (m := m) (pc := pc) (ls := la) (rest := (Value.ref a :: st1).map (ts_v ad)) h9
                have : (2 * (F0 m pc la ((Value.ref a :: st1).map (ts_v ad))).monitorRoom + ((st1.map (ts_v ad)).map (fun v => v.category)).sum) + 12 ≤ 64 := by omega
                exact Nat.le_trans this (by omega)
              · exact ih d j (pc + 3) ls st1 h q hj176 f2 hC hR hS hl hcells hslots
            | invokestatic k => simp [ts_xk, hx4] at hxk
            | invokevirtual k => simp [ts_xk, hx4] at hxk
            | _ => cases hinv
          next hx4 =>
            split at e1
            next hx5 =>
              obtain ⟨w, f1, f2⟩ := Option.bind_eq_some_iff.mp e1
              obtain ⟨n1, dp, a, sp, b, r, rfl, hc, rfl⟩ := ts_inv_cp f1
              cases i with
              | invokestatic k =>
                have w1 := hG _ (hw (.methodLink (ts_mt j).1 k arraycopyName) (by simp only [ts_wh, hx5, if_true]; simp))
                have w2 := hG _ (hw (.native arraycopyName) (by simp only [ts_wh, hx5, if_true]; simp))
                have w3 := hG _ (hw (.static arraycopyName) (by simp only [ts_wh, hx5, if_true]; simp))
                have w4 := hG _ (hw (.initialized "java/lang/System") (by simp only [ts_wh, hx5, if_true]; simp))
                obtain ⟨k1, k2, k3, k4, k5, k6, k7, k8, k9, k10⟩ := hc
                refine ts_cp hA3 hx hb (by rw [hml]; exact hl.2.1.symm) hown w1 w2 w3 w4 hK hR hS k1 k2 k3 k4 k5 k6 k7 k8 k9 (Nat.le_trans hd1 hfr) ?_ hd (fun H1 locs1 hR1 hS1 => ?_)
                · rw [ts_cats]
                  have h7 : nativeFrameWords "java/lang/System" "arraycopy" 5 ≤ 40 := by decide +kernel
                  exact Nat.le_trans (Nat.add_le_add k10 (Nat.add_le_add_right h7 11)) (by omega)
                · exact ih d j (pc + 3) ls r _ q hj176 f2 hC hR1 hS1 hl hcells hslots
              | invokespecial k => simp [ts_xk, hx5] at hxk
              | invokevirtual k => simp [ts_xk, hx5] at hxk
              | _ => cases hinv
            next hx5 =>
             split at e1
             next hx6 =>
              obtain ⟨st1, f1, f2⟩ := Option.bind_eq_some_iff.mp e1
              have hlo1 : 64 ≤ R.locals := by omega
              have hfr1 : 1 ≤ R.frames := Nat.le_trans hd1 hfr
              have hc9 : cells ≤ R.cells := by omega
              have hs9 : slots ≤ R.slots := by omega
              have hml9 : c.maxLocals = la.size := by rw [hml]; exact hl.2.1.symm
              cases i with
              | invokestatic k =>
                have w1 := hG _ (hw (.methodLink (ts_mt j).1 k (ts_my x.1).1) (by simp only [ts_wh, hx5, hx6, if_false, if_true]; simp))
                have w2 := hG _ (hw (.static (ts_my x.1).1) (by simp only [ts_wh, hx5, hx6, if_false, if_true]; simp))
                have w3 := hG _ (hw (.initialized "java/lang/Math") (by simp only [ts_wh, hx5, hx6, if_false, if_true]; simp))
                have w4 := hG _ (hw (.code (ts_my x.1).1 (ts_my x.1).2.1 (ts_my x.1).2.2.1 (ts_my x.1).2.2.2) (by simp only [ts_wh, hx5, hx6, if_false, if_true]; simp))
                rcases ts_inv_mp f1 with ⟨v, r, heq, rfl, hcs, rfl⟩ | ⟨u, v, r, heq, rfl, hcs, rfl⟩ | ⟨u, v, r, heq, rfl, hcs, rfl⟩ | ⟨u, v, r, heq, rfl, hcs, rfl⟩
                · rw [heq] at w1 w2 w4
                  exact va_mabs hx hb hml9 hown w1 w2 w3 w4 hfr1 (by rw [ts_cats]; omega) hc9 hs9 hd (ih d j (pc + 3) ls _ h q hj176 f2 hC hR hS hl hcells hslots)
                · rw [heq] at w1 w2 w4
                  exact va_mmax hx hb hml9 hown w1 w2 w3 w4 hfr1 (by rw [ts_cats]; omega) hc9 hs9 hd (ih d j (pc + 3) ls _ h q hj176 f2 hC hR hS hl hcells hslots)
                · rw [heq] at w1 w2 w4
                  exact va_mmin hx hb hml9 hown w1 w2 w3 w4 hfr1 (by rw [ts_cats]; omega) hc9 hs9 hd (ih d j (pc + 3) ls _ h q hj176 f2 hC hR hS hl hcells hslots)
                · rw [heq] at w1 w2 w4
                  exact va_mmin_long hx hb hml9 hown w1 w2 w3 w4 hfr1 (by rw [ts_cats]; omega) hc9 hs9 hd (ih d j (pc + 3) ls _ h q hj176 f2 hC hR hS hl hcells hslots)
              | invokespecial k => simp [ts_xk] at hxk; omega
              | invokevirtual k => simp [ts_xk] at hxk; omega
              | _ => cases hinv
             next hx6 =>
              split at e1
              next hc =>
                obtain ⟨hc1, hck9, hrcv, hcs⟩ := hc
                obtain ⟨q1, f1, f2⟩ := Option.bind_eq_some_iff.mp e1
                have g1 := ts_grow _ _ _ _ _ _ _ _ f1
                have g2 := ts_grow _ _ _ _ _ _ _ _ f2
                generalize has : (st.take x.2.2.1).reverse = as at *
                generalize hre : st.drop x.2.2.1 = rest at *
                have hst : st = as.reverse ++ rest := by rw [← has, ← hre, List.reverse_reverse, List.take_append_drop]
                have hlen : as.length = x.2.2.1 := by rw [← has, List.length_reverse, List.length_take]; omega
                have hk175 : x.2.1 < 175 := by
                  cases i with
                  | invokestatic k => simp [ts_xk, hx5, hx6] at hxk; omega
                  | invokevirtual k => simp [ts_xk] at hxk; omega
                  | invokespecial k => simp [ts_xk, hx4] at hxk; omega
                  | _ => cases hinv
                have hjk := ts_all_ok x.2.1 (by omega)
                obtain ⟨-, m1, m2, m3, m4, m5, m6, m7, m8, m9, m10⟩ := hjk
                have hcode := ts_code_ok x.2.1 hk175
                have hGd : GoodIn ts_G (Cond.code (ts_mt x.2.1).2.1 (ts_mt x.2.1).2.2.1 (ts_mt x.2.1).2.2.2.1 (ts_mt x.2.1).2.2.2.2 :: ts_G) := fun w9 h9 => (List.mem_cons.mp h9).elim (fun e9 => by rw [e9]; exact ts_G_good _ hcode) (fun e9 => ts_G_good _ e9)
                have hM : Met l (ts_mt x.2.1).2.1 (Cond.code (ts_mt x.2.1).2.1 (ts_mt x.2.1).2.2.1 (ts_mt x.2.1).2.2.2.1 (ts_mt x.2.1).2.2.2.2 :: ts_G) { frames := d - 1, cells := q1.2.1.1 - h.1.1, slots := q1.2.1.2.1 - h.1.2.1, locals := 64 * (d - 1) } (ts_Pc b0 ad D cA as h) (ts_Q b0 ad D cA q1.1 q1.2) (q1.2.1.1 - h.1.1) (q1.2.1.2.1 - h.1.2.1) (fun q => b0 ≤ q) := by
                  refine Met.ofW (cc := (ts_mt x.2.1).2.2.1) (maxL := (ts_mt x.2.1).2.2.2.1) (ret := (ts_mt x.2.1).2.2.2.2) m3 rfl ?_
                  intro p e s m args below meth c s₁ B hml hv
                  obtain ⟨rfl, hR, hb0, hK, hN, hZ⟩ := hv
                  rw [lg_entry_eq]
                  have hts := atoms_spec (ws := Cond.code (ts_mt x.2.1).2.1 (ts_mt x.2.1).2.2.1 (ts_mt x.2.1).2.2.2.1 (ts_mt x.2.1).2.2.2.2 :: ts_G) B.pre
                  have hC9 : ts_C b0 ad D cA p { frames := d - 1, cells := q1.2.1.1 - h.1.1, slots := q1.2.1.2.1 - h.1.2.1, locals := 64 * (d - 1) } s m (as.map (ts_v ad)).toArray meth c x.2.1 (d - 1) :=
                    ⟨B.exec, B.bytes, B.returns, hml.trans m1.symm, by rw [m4]; exact findClass_of_methodNamed B.named, fun w9 h9 => hts w9 (List.mem_cons_of_mem _ h9), B.notSynchronized, fun hn => (name_of_methodNamed B.named B.method).1.trans hn, hK, hN, Nat.le_refl _, Nat.le_refl _, hb0, hZ⟩
                  rw [← m1]
                  have := ih (d - 1) x.2.1 0 (tm_ent (tm_ml x.2.1) as) [] h q1 (by omega) f1 (below := below) (e := e) (locs := []) (cells := 0) (slots := 0) hC9 hR va_S.rf (ts_ent (ml := tm_ml x.2.1) hck9 m9 m8 m10) (by rw [Nat.zero_add]; exact Nat.le_refl _) (by rw [Nat.zero_add]; exact Nat.le_refl _)
                  rw [Nat.zero_add, Nat.zero_add] at this
                  exact this
                have hcc : cells + (q1.2.1.1 - h.1.1) ≤ R.cells ∧ slots + (q1.2.1.2.1 - h.1.2.1) ≤ R.slots := ⟨by omega, by omega⟩
                have hroom : d - 1 + 1 ≤ R.frames ∧ 8 + ((ts_mt x.2.1).2.2.2.1 + 11) + 64 * (d - 1) ≤ R.locals := ⟨by omega, by rw [← m1]; omega⟩
                have hW8 : 2 * (F0 m pc la (st.map (ts_v ad))).monitorRoom + ((rest.map (ts_v ad)).map fun v => v.category).sum ≤ 8 := lv_room (by rw [ts_cats]; exact hcs)
                have hpc := ts_Pc_now (as := as) hR hS hK hN hb0 hZ
                have hfix : CallFix p m c (ts_mt j).2.2.1 (tm_ml j) s args ts_G (ts_mt j).1 := ⟨hx, hb, hml, hown, hG⟩
                have next9 : ∀ (H1 : Heap) (locs1 : List Loc), ts_R b0 ad D cA q1.2 s H1 → va_S (fun q => b0 ≤ q) s.heap H1 locs1 → W p l e R s m args below meth c H1 locs1 (cells + (q1.2.1.1 - h.1.1)) (slots + (q1.2.1.2.1 - h.1.2.1)) (MQ below (ts_Q b0 ad D cA q.1 q.2) args s (cells + (q.2.1.1 - h.1.1)) (slots + (q.2.1.2.1 - h.1.2.1)) (fun q => b0 ≤ q)) (F0 m (pc + 3) la ((q1.1.map (ts_v ad)).toList ++ rest.map (ts_v ad))) := by
                  intro H1 locs1 hR1 hS1
                  have := ih d j (pc + 3) ls (q1.1.toList ++ rest) q1.2 q hj176 f2 (below := below) (e := e) (cells := cells + (q1.2.1.1 - h.1.1)) (slots := slots + (q1.2.1.2.1 - h.1.2.1)) hC hR1 hS1 hl (by omega) (by omega)
                  rw [show cells + (q1.2.1.1 - h.1.1) + (q.2.1.1 - q1.2.1.1) = cells + (q.2.1.1 - h.1.1) by omega, show slots + (q1.2.1.2.1 - h.1.2.1) + (q.2.1.2.1 - q1.2.1.2.1) = slots + (q.2.1.2.1 - h.1.2.1) by omega] at this
                  rw [List.map_append] at this
                  have e9 : q1.1.toList.map (ts_v ad) = (q1.1.map (ts_v ad)).toList := by cases q1.1 <;> rfl
                  rw [e9] at this
                  exact this
                cases i with
                | invokestatic k =>
                  simp only [ts_xk, hx5, hx6, false_and, decide_false, Bool.false_or, Bool.and_eq_true, decide_eq_true_eq] at hxk
                  have w1 := hG _ (hw (.methodLink (ts_mt j).1 k (ts_mt x.2.1).2.1) (by simp only [ts_wh, hx5, hx6, if_false, ts_wi]; simp))
                  have w2 := hG _ (hw (.initialized (ts_mt x.2.1).2.1.cls) (by simp only [ts_wh, hx5, hx6, if_false, ts_wi]; simp))
                  have w3 := hG _ (hw (.static (ts_mt x.2.1).2.1) (by simp only [ts_wh, hx5, hx6, if_false, ts_wi]; simp))
                  refine ts_cont (va_runS (As := as.map (ts_v ad)) (rest := rest.map (ts_v ad)) hfix hM ⟨callB_of x.2.2.1 hG hGd rfl rfl rfl w2 w1 ⟨m5, m6, hxk.2⟩ hroom, w3⟩ ⟨ts_Pc_blind, hpc⟩ rfl (by rw [List.length_map, hlen]) hl.2.1 (by show st.map (ts_v ad) = _; rw [hst, List.map_append, List.map_reverse]) hW8 hd hcc) hS next9
                | invokevirtual k =>
                  simp only [ts_xk, Bool.and_eq_true, decide_eq_true_eq] at hxk
                  obtain ⟨⟨⟨⟨⟨x1, x2⟩, x3⟩, x4⟩, x5⟩, x6⟩ := hxk
                  have w1 := hG _ (hw (.methodLink (ts_mt j).1 k (ts_mt x.2.1).2.1) (by simp only [ts_wh, ts_wi]; simp))
                  have w2 := hG _ (hw (.initialized (ts_mt x.2.1).2.1.cls) (by simp only [ts_wh, ts_wi]; simp))
                  have w3 := hG _ (hw (.instanceMethod (ts_mt x.2.1).2.1) (by simp only [ts_wh, ts_wi]; simp))
                  have w4 := hG _ (hw (.selects (ts_cn x.2.2.2) (ts_mt x.2.1).2.1 (ts_mt x.2.1).2.1) (by simp only [ts_wh, ts_wi]; simp))
                  unfold tm_rcv at hrcv
                  split at hrcv
                  next heq => rw [x1] at heq; cases heq
                  next a r9 heq =>
                    rw [decide_eq_true_eq] at hrcv
                    obtain ⟨C, T, N, hcl, eN, eT, eC⟩ := ts_cl_get x5
                    obtain ⟨h3, hat⟩ := ts_obj hR hrcv
                    have hrecv := va_recv hK (ts_P1 hat) (ci := x.2.2.2) (q0 := 0) hcl rfl
                    rw [← eC] at hrecv
                    refine ts_cont (va_runV (b := ad a) (As := r9.map (ts_v ad)) (rest := rest.map (ts_v ad)) (C := ts_cn x.2.2.2) hfix hM ⟨callB_of (x.2.2.1 - 1) hG hGd rfl rfl rfl w2 w1 ⟨m5, m6, x4⟩ hroom, w3, w4⟩ ⟨ts_Pc_blind, hrecv, hpc⟩ rfl (by rw [List.length_map, ← hlen]; rfl) hl.2.1 (by show st.map (ts_v ad) = _; rw [hst, List.map_append, List.map_reverse, List.map_cons, List.reverse_cons, List.append_assoc]; rfl) hW8 hd hcc) hS next9
                  next heq => rw [x1] at heq; cases heq
                  next => cases hrcv
                | invokespecial k =>
                  simp only [ts_xk, hx4, decide_false, Bool.false_or, Bool.and_eq_true, decide_eq_true_eq] at hxk
                  obtain ⟨⟨⟨⟨⟨x1, x2⟩, x3⟩, x4⟩, x5⟩, x6⟩ := hxk
                  have w1 := hG _ (hw (.methodLink (ts_mt j).1 k (ts_mt x.2.1).2.1) (by simp only [ts_wh, hx4, if_false, ts_wi]; simp))
                  have w2 := hG _ (hw (.initialized (ts_mt x.2.1).2.1.cls) (by simp only [ts_wh, hx4, if_false, ts_wi]; simp))
                  have w3 := hG _ (hw (.instanceMethod (ts_mt x.2.1).2.1) (by simp only [ts_wh, hx4, if_false, ts_wi]; simp))
                  unfold tm_rcv at hrcv
                  split at hrcv
                  next heq => rw [x1] at heq; cases heq
                  next heq => rw [x1] at heq; cases heq
                  next a r9 heq =>
                    rw [x6] at hM hGd
                    refine ts_cont (va_runI (b := ad a) (As := r9.map (ts_v ad)) (rest := rest.map (ts_v ad)) hfix hM ⟨callB_of (x.2.2.1 - 1) hG hGd rfl rfl rfl w2 w1 ⟨m5, m6, x4⟩ hroom, x5, w3⟩ ⟨ts_Pc_blind, hpc⟩ rfl (by rw [List.length_map, ← hlen]; rfl) hl.2.1 (by show st.map (ts_v ad) = _; rw [hst, List.map_append, List.map_reverse, List.map_cons, List.reverse_cons, List.append_assoc]; rfl) hW8 hd hcc) hS next9
                  next => cases hrcv
                | _ => cases hinv
              next => cases e1
      · rw [if_neg hinv] at e1
        obtain ⟨⟨pc1, ls1, st1, h1⟩, f1, f2⟩ := Option.bind_eq_some_iff.mp e1
        dsimp only at f2
        have g1 := ts_h_grow f1
        have g2 := ts_grow _ _ _ _ _ _ _ _ f2
        refine ts_h hA3 hj hC ho hR hS hl f1 (by omega) (by omega) (fun H1 locs1 la' hR1 hS1 hl1 => ?_)
        have := ih d j pc1 ls1 st1 h1 q hj176 f2 (below := below) (e := e) (cells := cells + (h1.1.1 - h.1.1)) (slots := slots + (h1.1.2.1 - h.1.2.1)) hC hR1 hS1 hl1 (by omega) (by omega)
        rw [show cells + (h1.1.1 - h.1.1) + (q.2.1.1 - h1.1.1) = cells + (q.2.1.1 - h.1.1) by omega, show slots + (h1.1.2.1 - h.1.2.1) + (q.2.1.2.1 - h1.1.2.1) = slots + (q.2.1.2.1 - h.1.2.1) by omega] at this
        exact this
end TSF
end
section
/-! THE CLAIM OUT OF ONE WALK OF THE LAW'S BODY. Your part is whole_start (and what it stands on); all else here is the same for every law, but numbers. -/
def R_law : String := "TidingsDeskLaw"
def lw_P (b : Addr) (xs : List Int32) (args : Array Value) (s : State) : Prop := args = #[.ref b] ∧ s.IntsAt b xs ∧ xs.length ≤ 3072 ∧ (Jvm.Cond.and given_1 narrow_1).before args s = true
def lw_Q (_ : Array Value) (s : State) (o : Outcome) (t : State) : Prop := o = .returned (some (.int 1)) ∧ Framed s o t [] 600000 7302250
def lw_Z (below : List Frame) (a : Array Value) (s : State) : State → Prop := fun t => ∃ o, t.status = .running ∧ Ended t below o ∧ lw_Q a s o t
/-- the law's own end, with 1 on the stack, nothing written that was there before, its room as the claim has it -/
theorem lw_ret {p : Program} {l : Launch} {e : Env} {s : State} {m : MethodId} {below : List Frame} {meth : Method} {c : Code} {b : Nat} (hx : p.tables.exec = Jvm.exec) (hb : c.code = code) (hr : meth.sig.returnType = ret) (hlocks : meth.locks = false) {pc : Nat} {H : Heap} {ls : Array Slot} (hdg : decode code pc = .ok (.ireturn, 1)) : W p l e room_1 s m #[Value.ref b] below meth c H [] 600000 7302250 (lw_Z below #[Value.ref b] s) (F0 m pc ls [.int 1]) := by
  intro T hT X
  obtain ⟨fs, hret, hrun, hended, hW, hframe⟩ := X.leave (v := some (.int 1)) (hlocks := hlocks) (fun h => by rw [hr] at h; cases h)
  have hmeth' : T.vm.method? m = some meth := X.method'
  refine ⟨T.setFrames fs, ?_, .returned (some (.int 1)), hrun, hended, rfl, ⟨_, rfl⟩, hW, hframe⟩
  jvm_step X.here [X.here.top, hx, hb, hdg, hmeth', hr, ret, narrow_b1]
  (try refine ⟨rfl, ?_⟩); (try refine ⟨rfl, ?_⟩)
  first | (intro acts; rw [hret _ acts rfl rfl rfl]) | rw [hret _ _ rfl rfl rfl]
  exact Steps.refl _
/-- what holds at the law's entry: the machine, the code, the tables' words (any of lw_tbl by 'hts w (by decide +kernel)'), the script of L ints xs at the cell b, what the Statement gives of the start (any of its parts by flat_of_before) -/
def lw_At (p : Program) (s : State) (m : MethodId) (meth : Method) (c : Code) (b L : Nat) (xs : Nat → Int32) : Prop :=
  p.tables.exec = Jvm.exec ∧ c.code = code ∧ meth.sig.returnType = ret ∧ c.maxLocals = 4 ∧ s.vm.findClass R_law = some m.cls ∧ (∀ w ∈ lw_tbl, w.before #[Value.ref b] s = true) ∧ va_X b L xs s s.heap ∧ b < s.heap.size ∧ meth.locks = false ∧ (Jvm.Cond.and given_1 narrow_1).before #[Value.ref b] s = true
end
section
/-! The law's own walk, out of a run of the small machine. -/
def tp_mk (i : Nat) : Int32 := ([112, 100, 110, 119, 107] : List Int32).getD i 0
def tp_hi (i : Nat) : Int32 := ([99, 999, 9999, 0, 2] : List Int32).getD i 0
def tp_h0 (L : Nat) (xs : Nat → Int32) : tm_H := ((3, 0, fun k => if k = 0 then (1, L) else if k = 1 then (6, 5) else if k = 2 then (1, 5) else (99, 0)), (fun k i => if k = 0 then xs i else if k = 1 then tp_mk i else if k = 2 then tp_hi i else 0), (fun _ _ => 0), (fun _ _ => none))
/-- what is owed of the small machine: on every script the law's run answers 1, within the room -/
def tp_goal : Prop := ∀ (L : Nat) (xs : Nat → Int32), L ≤ 3072 → tm_R 1000 175 [.ref 0] (tp_h0 L xs) (fun r h' => r = some (.int 1) ∧ h'.1.1 ≤ 600003 ∧ h'.1.2.1 ≤ 7302250)
theorem tp_arr {s : State} {args : Array Value} {t : FieldType} (h : (Cond.arrayClass t).before args s = true) : ∃ cB, ArrOfT s cB t ∧ s.vm.findClass ("[" ++ t.toString) = some cB := by
  obtain ⟨cB, k, comp, h1, h2, h3⟩ := Cond.arrayClass_spec h
  exact ⟨cB, fun n z => ⟨(fun q hq => by cases hq), k, h2, comp, h3⟩, h1⟩
theorem tp_mark : ∀ j : Nat, j < 5 → (Jvm.Cond.eq (Jvm.Term.elem (Jvm.Term.static "TidingsDesk$Tape" "MARKS" "[C") (Jvm.Term.int (Int32.ofNat j))) (Jvm.Term.int (tp_mk j))) ∈ flatC (Jvm.Cond.and given_1 narrow_1) := by decide +kernel
theorem tp_high : ∀ j : Nat, j < 5 → (Jvm.Cond.eq (Jvm.Term.elem (Jvm.Term.static "TidingsDesk$Tape" "HIGHEST" "[I") (Jvm.Term.int (Int32.ofNat j))) (Jvm.Term.int (tp_hi j))) ∈ flatC (Jvm.Cond.and given_1 narrow_1) := by decide +kernel
set_option maxHeartbeats 4000000 in
set_option maxRecDepth 100000 in
theorem whole_of (hg : tp_goal) {p : Program} {e : Env} {s : State} {m : MethodId} {below : List Frame} {meth : Method} {c : Code} (l : Launch) {b L : Nat} {xs : Nat → Int32} (hL : L ≤ 3072) (C0 : lw_At p s m meth c b L xs) : W p l e room_1 s m #[Value.ref b] below meth c s.heap [] 0 0 (lw_Z below #[Value.ref b] s) (entryFrame m ([Value.ref b] : List Value).toArray 4) := by
  obtain ⟨hx, hb, hr, hml, hown, hts, hX, hbl, hlocks, hgv⟩ := C0
  have hG : ∀ w ∈ ts_G, w.before #[Value.ref b] s = true := fun w hw => hts w (ts_G_in hw)
  have hfl := flat_of_before _ hgv
  obtain ⟨tM, htM, hTM⟩ := va_Tof (N := 5) (f := fun j => .int (tp_mk j)) (A := fun q => s.heap.size ≤ q) (by decide) (hfl (Cond.arrayOf (.static "TidingsDesk$Tape" "MARKS" "[C") .char) (by decide +kernel)) (va_eqt (hfl (Cond.eq (.length (.static "TidingsDesk$Tape" "MARKS" "[C")) (.int 5)) (by decide +kernel))) (fun j hj => va_eqt (hfl _ (tp_mark j hj))) (fun a ha => Nat.not_le.mpr ha)
  obtain ⟨tH, htH, hTH⟩ := va_Tof (N := 5) (f := fun j => .int (tp_hi j)) (A := fun q => s.heap.size ≤ q) (by decide) (hfl (Cond.arrayOf (.static "TidingsDesk$Tape" "HIGHEST" "[I") .int) (by decide +kernel)) (va_eqt (hfl (Cond.eq (.length (.static "TidingsDesk$Tape" "HIGHEST" "[I")) (.int 5)) (by decide +kernel))) (fun j hj => va_eqt (hfl _ (tp_high j hj))) (fun a ha => Nat.not_le.mpr ha)
  have hZM := va_Zof (A := fun q => s.heap.size ≤ q) (hts (.laysStatic "TidingsDesk$Tape" "MARKS" "[C") (by decide +kernel)) (hts (.initialized "TidingsDesk$Tape") (by decide +kernel)) htM (fun a ha => Nat.not_le.mpr ha)
  have hZH := va_Zof (A := fun q => s.heap.size ≤ q) (hts (.laysStatic "TidingsDesk$Tape" "HIGHEST" "[I") (by decide +kernel)) (hts (.initialized "TidingsDesk$Tape") (by decide +kernel)) htH (fun a ha => Nat.not_le.mpr ha)
  obtain ⟨D, hKc⟩ : ∃ D : va_G, ∀ (k : Nat) (q : vw_C), ts_cl[k]? = some q → u_Kn s q.1 q.2.1 q.2.2 (D.1 k) (D.2 k) := by
    have h1 : ∀ k : Nat, ∃ r : ClassId × (Nat → Nat), ∀ q : vw_C, ts_cl[k]? = some q → u_Kn s q.1 q.2.1 q.2.2 r.1 r.2 := by
      intro k
      by_cases hk : k < 11
      · obtain ⟨C, T, N, hc, -, -, -⟩ := ts_cl_get hk
        obtain ⟨c1, -, -, -⟩ := ts_cl_ok _ _ _ _ hc
        have hi : (Cond.instantiable C N).before #[Value.ref b] s = true := by
          refine hts _ ?_
          revert hc
          have : ∀ k, k < 11 → ∀ q : vw_C, ts_cl[k]? = some q → Cond.instantiable q.1 q.2.2 ∈ lw_tbl := by
            intro k hk q hq
            have h9 : ∀ q ∈ ts_cl, Cond.instantiable q.1 q.2.2 ∈ lw_tbl := by
              intro q hq
              simp only [ts_cl, List.mem_cons, List.not_mem_nil, or_false] at hq
              rcases hq with rfl | rfl | rfl | rfl | rfl | rfl | rfl | rfl | rfl | rfl | rfl <;> decide +kernel
            exact h9 q (List.mem_of_getElem? hq)
          exact fun hc => this k hk _ hc
        obtain ⟨cC, iS, hKn⟩ := u_known hG c1 hi
        exact ⟨(cC, iS), fun q hq => by cases hc.symm.trans hq; exact hKn⟩
      · exact ⟨(0, fun _ => 0), fun q hq => by
          have := (List.getElem?_eq_some_iff.mp hq).1
          exact absurd this hk⟩
    exact ⟨(fun k => (h1 k).choose.1, fun k => (h1 k).choose.2), fun k q hq => (h1 k).choose_spec q hq⟩
  obtain ⟨c1, g1, f1⟩ := tp_arr (hts (.arrayClass .int) (by decide +kernel))
  obtain ⟨c2, g2, f2⟩ := tp_arr (hts (.arrayClass .long) (by decide +kernel))
  obtain ⟨c6, g6, f6⟩ := tp_arr (hts (.arrayClass .char) (by decide +kernel))
  obtain ⟨o3, c3, k3, p31, p32, p33, p34⟩ := Cond.arrayOver_specA (t := .int) (hts (.arrayOver (.array .int)) (by decide +kernel))
  obtain ⟨o4, c4, k4, p41, p42, p43, p44, p45⟩ := Cond.arrayOver_spec (n := "TidingsDesk$Telling") (hts (.arrayOver (.object "TidingsDesk$Telling")) (by decide +kernel))
  obtain ⟨o5, c5, k5, p51, p52, p53, p54, p55⟩ := Cond.arrayOver_spec (n := "TidingsDesk$Facts") (hts (.arrayOver (.object "TidingsDesk$Facts")) (by decide +kernel))
  obtain ⟨cA, hcA⟩ : ∃ cA : Nat → ClassId, cA 1 = c1 ∧ cA 2 = c2 ∧ cA 3 = c3 ∧ cA 4 = c4 ∧ cA 5 = c5 ∧ cA 6 = c6 := ⟨fun k => if k = 1 then c1 else if k = 2 then c2 else if k = 3 then c3 else if k = 4 then c4 else if k = 5 then c5 else c6, rfl, rfl, rfl, rfl, rfl, rfl⟩
  obtain ⟨a1, a2, a3, a4, a5, a6⟩ := hcA
  have hK : va_K D ts_cl (ts_tys cA) s := by
    refine ⟨hKc, fun k q hk => ?_⟩
    have hm := List.mem_of_getElem? hk
    simp only [ts_tys, List.mem_cons, List.not_mem_nil, or_false, a1, a2, a3, a4, a5, a6] at hm
    rcases hm with rfl | rfl | rfl | rfl | rfl | rfl
    · exact ⟨g1, f1⟩
    · exact ⟨g2, f2⟩
    · exact ⟨fun n z => ⟨(fun q hq => by cases hq), k3, p32, o3, p33⟩, p34⟩
    · exact ⟨fun n z => ⟨(fun q hq => by cases hq), k4, p43, o4, p44⟩, k4, o4, p43, p44, p41, p45⟩
    · exact ⟨fun n z => ⟨(fun q hq => by cases hq), k5, p53, o5, p54⟩, k5, o5, p53, p54, p51, p55⟩
    · exact ⟨g6, f6⟩
  have hN : ∀ w ∈ ts_sp, va_Nw w s := by
    intro w hw
    have hm : w ∈ lw_tbl := by
      simp only [ts_sp, List.mem_cons, List.not_mem_nil, or_false] at hw
      rcases hw with rfl | rfl | rfl | rfl | rfl | rfl | rfl | rfl <;> decide +kernel
    have hb9 := hts w hm
    simp only [ts_sp, List.mem_cons, List.not_mem_nil, or_false] at hw
    rcases hw with rfl | rfl | rfl | rfl | rfl | rfl | rfl | rfl
    · exact va_Nw.of rfl hb9
    · exact va_Nw.of rfl hb9
    · exact va_Nw.of rfl hb9
    · exact va_Nw.of rfl hb9
    · exact va_Nw.of rfl hb9
    · exact hb9
    · exact hb9
    · exact hb9
  obtain ⟨ad, had0, had1, had2, hA3⟩ : ∃ ad : Nat → Nat, ad 0 = b ∧ ad 1 = tM ∧ ad 2 = tH ∧ ∀ k, 3 ≤ k → ad k = s.heap.size + (k - 3) :=
    ⟨fun k => if k = 0 then b else if k = 1 then tM else if k = 2 then tH else s.heap.size + (k - 3), rfl, rfl, rfl, fun k hk => by
      show (if k = 0 then b else if k = 1 then tM else if k = 2 then tH else s.heap.size + (k - 3)) = _
      rw [if_neg (by omega), if_neg (by omega), if_neg (by omega)]⟩
  have hR : ts_R s.heap.size ad D cA (tp_h0 L xs) s s.heap := by
    refine ⟨Nat.le_refl 3, rfl, fun k hk => ?_, fun k h3 hk => absurd hk (by show ¬ k < 3; omega), fun k hk => ?_⟩
    · have hk' : 3 ≤ k := hk
      show (if k = 0 then (1, L) else if k = 1 then (6, 5) else if k = 2 then (1, 5) else (99, 0)).1 = 99
      rw [if_neg (by omega), if_neg (by omega), if_neg (by omega)]
    · match k, hk with
      | 0, _ =>
        obtain ⟨scr, x1, x2, x3, x4, x5⟩ := hX
        refine ⟨by rw [had0]; exact hbl, Or.inl rfl, scr, by rw [had0]; exact x1, x2, x3, by rw [x4]; exact Nat.le_refl _, by rw [x4]; rfl, fun i hi => x5 i hi⟩
      | 1, _ =>
        obtain ⟨cell, x1, x2, x3, x4, x5, x6, x7⟩ := hTM
        refine ⟨by rw [had1]; exact (Array.getElem?_eq_some_iff.mp x1).1, Or.inr rfl, cell, by rw [had1]; exact x1, x2, x3, x4, x5, fun i hi => x6 i hi⟩
      | 2, _ =>
        obtain ⟨cell, x1, x2, x3, x4, x5, x6, x7⟩ := hTH
        refine ⟨by rw [had2]; exact (Array.getElem?_eq_some_iff.mp x1).1, Or.inl rfl, cell, by rw [had2]; exact x1, x2, x3, x4, x5, fun i hi => x6 i hi⟩
  obtain ⟨n, q, hrun, hq1, hq2, hq3⟩ := hg L xs hL
  have hC : ts_C s.heap.size ad D cA p room_1 s m #[Value.ref b] meth c 175 1000 :=
    ⟨hx, hb, hr, hml, hown, hG, hlocks, fun h9 => absurd h9 (by decide +kernel), hK, hN, by decide, by decide, Nat.le_refl _, ⟨by rw [had1]; exact hZM, by rw [had2]; exact hZH⟩⟩
  obtain ⟨-, m1, m2, m3, m4, m5, m6, m7, m8, m9, m10⟩ := ts_all_ok 175 (by decide)
  have hl : ts_L ad (tm_ml 175) (ts_lL 175) (tm_ent (tm_ml 175) [.ref 0]) ((lg_sl ([Value.ref 0].map (ts_v ad)) ++ List.replicate (tm_ml 175 - (lg_sl ([Value.ref 0].map (ts_v ad))).length) Slot.unset).toArray) :=
    ts_ent (ak := tm_ak 175) rfl m9 m8 m10
  have key := ts_sound (l := l) hA3 n 1000 175 0 _ [] _ q (by decide) hrun (p := p) (e := e) (below := below) (locs := []) (cells := 0) (slots := 0) hC hR va_S.rf hl (by show 0 + (q.2.1.1 - 3) ≤ 600000; omega) (by show 0 + (q.2.1.2.1 - 0) ≤ 7302250; omega)
  rw [lg_entry_eq]
  have e1 : [Value.ref 0].map (ts_v ad) = [Value.ref b] := by show [Value.ref (ad 0)] = _; rw [had0]
  rw [e1] at key
  intro T hT X
  obtain ⟨t, s1, o, s2, s3, ⟨s4, s5, s6⟩, L9, ⟨s7, s8, s9⟩, s10⟩ := key T hT X
  refine ⟨t, s1, o, s2, s3, by rw [s4, hq1]; rfl, s7, s8, ?_⟩
  refine s9.weaken (fun y hy hlt => absurd hlt (Nat.not_lt.mpr (s10 y hy))) ?_ ?_
  · show 0 + (q.2.1.1 - 3) ≤ 600000; omega
  · show 0 + (q.2.1.2.1 - 0) ≤ 7302250; omega
end
section
theorem tp_law : tp_goal := sorry
/-- THE LAW, from its entry -/
theorem whole_start {p : Program} {e : Env} {s : State} {m : MethodId} {below : List Frame} {meth : Method} {c : Code} (l : Launch) {b L : Nat} {xs : Nat → Int32} (hL : L ≤ 3072) (C0 : lw_At p s m meth c b L xs) : W p l e room_1 s m #[Value.ref b] below meth c s.heap [] 0 0 (lw_Z below #[Value.ref b] s) (entryFrame m ([Value.ref b] : List Value).toArray 4) := whole_of tp_law l hL C0
set_option maxHeartbeats 4000000 in
theorem lw_walk (l : Launch) (b : Addr) (xs : List Int32) : MetFree l x (headSpec (Jvm.Cond.code x code maxLocals ret :: tables_1) room_1) (lw_P b xs) (fun _ _ _ _ _ => True) lw_Q := by
  refine MetFree.of_bodyS (code := code) (maxLocals := maxLocals) (ret := ret) (by decide) ?_ ?_
  · intro args s m h hn
    obtain ⟨meth, c, h1, h2, h3, h4, h5, h6, -, -⟩ := Cond.code_spec hn (atoms_spec (ws := Jvm.Cond.code x code maxLocals ret :: tables_1) h _ List.mem_cons_self)
    exact ⟨meth, c, h1, h2, h3, h4, h5, h6⟩
  · intro p e s m args below meth c s₁ B hml0 hP _
    obtain ⟨rfl, hx, hbd, hgv⟩ := hP
    obtain ⟨scr, harrAt, hlist, hof, hsmall⟩ := hx
    obtain ⟨hcb, hkn, -, -⟩ := State.arrayAt?_spec harrAt
    have hown : s.vm.findClass R_law = some m.cls := findClass_of_methodNamed B.named
    have hts0 : ∀ c ∈ (Jvm.Cond.code x code maxLocals ret :: tables_1), c.before #[Value.ref b] s = true := atoms_spec (ws := Jvm.Cond.code x code maxLocals ret :: tables_1) B.pre
    have hts : ∀ w ∈ lw_tbl, w.before #[Value.ref b] s = true := k2_hts_sels lw_privs (fun w hw => hts0 w (List.mem_cons_of_mem _ hw)) lw_privs_ok
    have hml : c.maxLocals = 4 := B.maxLocals_eq (hts0 _ List.mem_cons_self)
    have X₀ : Stand p l e room_1 s m #[Value.ref b] below meth c s₁ [] 0 0 := Stand.of_body B
    have hh0 : s₁.heap = s.heap := by rw [B.state]; rfl
    have hsz : scr.slots.size = xs.length := by rw [← Array.length_toList, hlist, List.length_map]
    have hval : ∀ j : Nat, j < xs.length → scr.slots[j]? = some (.int (xs.getD j 0)) := fun j hj => by
      rw [← Array.getElem?_toList, hlist]
      simp [hj]
    have hbl : b < s.heap.size := (Array.getElem?_eq_some_iff.mp hcb).1
    have hX : va_X b xs.length (fun j => xs.getD j 0) s s.heap := ⟨scr, hcb, hof, hkn, hsz, hval⟩
    have K : W p l e room_1 s m #[Value.ref b] below meth c s₁.heap [] 0 0 (lw_Z below #[Value.ref b] s) (entryFrame m ([Value.ref b] : List Value).toArray 4) := by
      rw [hh0]
      exact whole_start l hbd ⟨B.exec, B.bytes, B.returns, hml, hown, hts, hX, hbl, B.notSynchronized, hgv⟩
    obtain ⟨t, a1, o, b1, b2, b3⟩ := K s₁ rfl X₀
    exact ⟨t, o, a1, b1, b2, b3⟩
theorem lw_pre_spec {args : Array Value} {s : State} (h : (Jvm.Cond.and given_1 narrow_1).before args s = true) (hr : rest_1_c.before args s = true) : ∃ (b : Addr) (xs : List Int32), lw_P b xs args s := by
  have hs := flat_of_before _ h
  have hq := flat_of_before _ hr
  have hc : (Cond.count 1).before args s = true := hs _ (by decide +kernel)
  have harr : (Cond.arrayOf (.arg 0) .int).before args s = true := hs _ (by decide +kernel)
  have hle : (Cond.le (.length (.arg 0)) (.int 3072)).before args s = true := hs _ (by decide +kernel)
  have hlen : (Cond.isInt (.length (.arg 0))).before args s = true := hq _ (by decide +kernel)
  have hall : (Cond.all (.arg 0) (.isInt (.elem (.arg 0) (.index 0)))).before args s = true := hq _ (by decide +kernel)
  obtain ⟨b, xs, hb, hx⟩ := State.ints_of_pre rfl harr hlen hall
  have hsm : xs.length < 2 ^ 31 := hx.choose_spec.2.2.2
  have hev : (Term.length (.arg 0)).eval args s none [] s = some (.int xs.length.toInt32) := hx.length_eval hb
  have hv := Cond.le_ints hev (show (Term.int 3072).eval args s none [] s = some (.int 3072) from rfl)
  have hd : xs.length.toInt32 ≤ 3072 := by
    simpa [Cond.before, Cond.holds, hv] using hle
  have hN : xs.length ≤ 3072 := (Int32.ofNat_le_ofNat hsm (by decide)).mp (show Int32.ofNat xs.length ≤ Int32.ofNat 3072 from hd)
  exact ⟨b, xs, Cond.one_arg hc (show args[0]? = some (.ref b) from hb), hx, hN, h⟩
theorem lw_comes (l : Launch) : Comes l x (Jvm.Cond.code x code maxLocals ret :: tables_1) room_1 (fun tb e args s => Calls_1 tb e args s ∧ rest_1 tb e args s ∧ Pre_1 tb e args s)
    (fun _ _ args s o t => lw_Q args s o t) := by
  intro p e ha hc hk s m args below hf hfit hheap happ hpre
  obtain ⟨b, xs, hP⟩ := lw_pre_spec hpre.2.2 hpre.2.1
  obtain ⟨k, o, h1, h2, h3, hQ⟩ := lw_walk l b xs p e ha hc hk s m args below hf ((Spec.applies_iff_loose hf).mp happ).1 hP trivial
  exact ⟨k, o, h1, h2, h3, hQ⟩
theorem lw_frame {s t : State} {o : Outcome} {args : Array Value} (h : Framed s o t [] 600000 7302250) :
    Framed s o t (fieldLocs frame_1_writes args s ++ arrayLocs frame_1_arrays args s ++ staticLocs frame_1_statics s) 600000 7302250 := h
theorem lw_limb (L : Cond) (hL : ∀ (args : Array Value) (s t : State), L.after args s (.returned (some (.int 1))) t = true) :
    ArmFor flags0 classFile x code maxLocals ret World_1 tables_1 room_1 Calls_1 rest_1 Pre_1
      (fun tb e a s o t => postC L tb e a s o t ∧ Framed s o t (fieldLocs frame_1_writes a s ++ arrayLocs frame_1_arrays a s ++ staticLocs frame_1_statics s) 600000 7302250) := by
  intro l _ _ _ p e ha hc hk s m args below hf hfit hheap happ hpre
  obtain ⟨k, o, h1, h2, h3, rfl, hF⟩ := lw_comes l p e ha hc hk s m args below hf hfit hheap happ hpre
  exact ⟨k, _, h1, h2, h3, hL args s _, lw_frame hF⟩
theorem i_vc : Claimed_1_1 ∧ Claimed_1_2 := ⟨lw_limb limb_1_1 (fun args s t => by simp [limb_1_1, Cond.after, Cond.holds, Cond.value]), lw_limb limb_1_2 (fun args s t => Cond.after_iff.mpr (by
  first | (rw [show limb_1_2 = Cond.eq .result (.int 1) from rfl, Cond.eq_ints (x := 1) (y := 1) rfl rfl]; simp; done) | (simp [limb_1_2, Cond.value, Term.eval]; done)))⟩
end
