-- ===== PART A: goes FIRST, ahead of the names: the tables' words, and 'selects' of the private methods out of them =====
/-- a private method of a class that the tables say can be made, by its rows of tables_1 -/
def lw_okq (q : MethodName × Nat) : Prop := (q.1.cls ≠ "java/lang/invoke/MethodHandle" ∧ q.1.cls ≠ "java/lang/invoke/VarHandle") ∧ Cond.instantiable q.1.cls q.2 ∈ tables_1 ∧ Cond.privateMethod q.1 ∈ tables_1 ∧ Cond.instanceMethod q.1 ∈ tables_1
theorem lw_p0 : lw_okq (⟨"BerryLane$Reader", "skipBlanks", "()V"⟩, 8) := ⟨⟨by decide +kernel, by decide +kernel⟩, List.mem_of_getElem? (i := 25) (by decide +kernel), List.mem_of_getElem? (i := 504) (by decide +kernel), List.mem_of_getElem? (i := 505) (by decide +kernel)⟩
theorem lw_p1 : lw_okq (⟨"BerryLane$Reader", "readClause", "()V"⟩, 8) := ⟨⟨by decide +kernel, by decide +kernel⟩, List.mem_of_getElem? (i := 25) (by decide +kernel), List.mem_of_getElem? (i := 508) (by decide +kernel), List.mem_of_getElem? (i := 509) (by decide +kernel)⟩
theorem lw_p2 : lw_okq (⟨"BerryLane$Reader", "faultOfWord", "(C)I"⟩, 8) := ⟨⟨by decide +kernel, by decide +kernel⟩, List.mem_of_getElem? (i := 25) (by decide +kernel), List.mem_of_getElem? (i := 512) (by decide +kernel), List.mem_of_getElem? (i := 513) (by decide +kernel)⟩
theorem lw_p3 : lw_okq (⟨"BerryLane$Reader", "note", "(II)V"⟩, 8) := ⟨⟨by decide +kernel, by decide +kernel⟩, List.mem_of_getElem? (i := 25) (by decide +kernel), List.mem_of_getElem? (i := 520) (by decide +kernel), List.mem_of_getElem? (i := 521) (by decide +kernel)⟩
theorem lw_p4 : lw_okq (⟨"BerryLane$Reader", "readNumbers", "([I)V"⟩, 8) := ⟨⟨by decide +kernel, by decide +kernel⟩, List.mem_of_getElem? (i := 25) (by decide +kernel), List.mem_of_getElem? (i := 535) (by decide +kernel), List.mem_of_getElem? (i := 536) (by decide +kernel)⟩
theorem lw_p5 : lw_okq (⟨"BerryLane$Reader", "readNumber", "(II)I"⟩, 8) := ⟨⟨by decide +kernel, by decide +kernel⟩, List.mem_of_getElem? (i := 25) (by decide +kernel), List.mem_of_getElem? (i := 539) (by decide +kernel), List.mem_of_getElem? (i := 540) (by decide +kernel)⟩
theorem lw_p6 : lw_okq (⟨"BerryLane$Reader", "take", "(C)V"⟩, 8) := ⟨⟨by decide +kernel, by decide +kernel⟩, List.mem_of_getElem? (i := 25) (by decide +kernel), List.mem_of_getElem? (i := 544) (by decide +kernel), List.mem_of_getElem? (i := 545) (by decide +kernel)⟩
theorem lw_p7 : lw_okq (⟨"BerryLane$Reader", "takeBush", "()V"⟩, 8) := ⟨⟨by decide +kernel, by decide +kernel⟩, List.mem_of_getElem? (i := 25) (by decide +kernel), List.mem_of_getElem? (i := 548) (by decide +kernel), List.mem_of_getElem? (i := 549) (by decide +kernel)⟩
theorem lw_p8 : lw_okq (⟨"BerryLane$Reader", "takePicker", "()V"⟩, 8) := ⟨⟨by decide +kernel, by decide +kernel⟩, List.mem_of_getElem? (i := 25) (by decide +kernel), List.mem_of_getElem? (i := 552) (by decide +kernel), List.mem_of_getElem? (i := 553) (by decide +kernel)⟩
theorem lw_p9 : lw_okq (⟨"BerryLane", "isBush", "(I)Z"⟩, 11) := ⟨⟨by decide +kernel, by decide +kernel⟩, List.mem_of_getElem? (i := 17) (by decide +kernel), List.mem_of_getElem? (i := 592) (by decide +kernel), List.mem_of_getElem? (i := 593) (by decide +kernel)⟩
theorem lw_p10 : lw_okq (⟨"BerryLane", "isPicker", "(I)Z"⟩, 11) := ⟨⟨by decide +kernel, by decide +kernel⟩, List.mem_of_getElem? (i := 17) (by decide +kernel), List.mem_of_getElem? (i := 601) (by decide +kernel), List.mem_of_getElem? (i := 602) (by decide +kernel)⟩
theorem lw_p11 : lw_okq (⟨"BerryLane$Lane", "draw", "(I)I"⟩, 7) := ⟨⟨by decide +kernel, by decide +kernel⟩, List.mem_of_getElem? (i := 31) (by decide +kernel), List.mem_of_getElem? (i := 687) (by decide +kernel), List.mem_of_getElem? (i := 688) (by decide +kernel)⟩
theorem lw_p12 : lw_okq (⟨"BerryLane$BestWay", "measureGains", "(LBerryLane$Picker;LBerryLane$Bush;I)V"⟩, 16) := ⟨⟨by decide +kernel, by decide +kernel⟩, List.mem_of_getElem? (i := 240) (by decide +kernel), List.mem_of_getElem? (i := 716) (by decide +kernel), List.mem_of_getElem? (i := 717) (by decide +kernel)⟩
theorem lw_p13 : lw_okq (⟨"BerryLane$BestWay", "measureWays", "(LBerryLane$Lane;LBerryLane$Picker;I)V"⟩, 16) := ⟨⟨by decide +kernel, by decide +kernel⟩, List.mem_of_getElem? (i := 240) (by decide +kernel), List.mem_of_getElem? (i := 723) (by decide +kernel), List.mem_of_getElem? (i := 724) (by decide +kernel)⟩
theorem lw_p14 : lw_okq (⟨"BerryLane$BestWay", "fillShortest", "(I)V"⟩, 16) := ⟨⟨by decide +kernel, by decide +kernel⟩, List.mem_of_getElem? (i := 240) (by decide +kernel), List.mem_of_getElem? (i := 729) (by decide +kernel), List.mem_of_getElem? (i := 730) (by decide +kernel)⟩
theorem lw_p15 : lw_okq (⟨"BerryLane$BestWay", "fillGathered", "(III)V"⟩, 16) := ⟨⟨by decide +kernel, by decide +kernel⟩, List.mem_of_getElem? (i := 240) (by decide +kernel), List.mem_of_getElem? (i := 734) (by decide +kernel), List.mem_of_getElem? (i := 735) (by decide +kernel)⟩
def lw_privs_1 : List (MethodName × Nat) := [(⟨"BerryLane$Reader", "skipBlanks", "()V"⟩, 8), (⟨"BerryLane$Reader", "readClause", "()V"⟩, 8), (⟨"BerryLane$Reader", "faultOfWord", "(C)I"⟩, 8), (⟨"BerryLane$Reader", "note", "(II)V"⟩, 8), (⟨"BerryLane$Reader", "readNumbers", "([I)V"⟩, 8), (⟨"BerryLane$Reader", "readNumber", "(II)I"⟩, 8), (⟨"BerryLane$Reader", "take", "(C)V"⟩, 8), (⟨"BerryLane$Reader", "takeBush", "()V"⟩, 8), (⟨"BerryLane$Reader", "takePicker", "()V"⟩, 8), (⟨"BerryLane", "isBush", "(I)Z"⟩, 11), (⟨"BerryLane", "isPicker", "(I)Z"⟩, 11), (⟨"BerryLane$Lane", "draw", "(I)I"⟩, 7), (⟨"BerryLane$BestWay", "measureGains", "(LBerryLane$Picker;LBerryLane$Bush;I)V"⟩, 16), (⟨"BerryLane$BestWay", "measureWays", "(LBerryLane$Lane;LBerryLane$Picker;I)V"⟩, 16), (⟨"BerryLane$BestWay", "fillShortest", "(I)V"⟩, 16), (⟨"BerryLane$BestWay", "fillGathered", "(III)V"⟩, 16)]
theorem lw_r1 : ∀ q ∈ lw_privs_1, lw_okq q := List.forall_mem_cons.mpr ⟨lw_p0, List.forall_mem_cons.mpr ⟨lw_p1, List.forall_mem_cons.mpr ⟨lw_p2, List.forall_mem_cons.mpr ⟨lw_p3, List.forall_mem_cons.mpr ⟨lw_p4, List.forall_mem_cons.mpr ⟨lw_p5, List.forall_mem_cons.mpr ⟨lw_p6, List.forall_mem_cons.mpr ⟨lw_p7, List.forall_mem_cons.mpr ⟨lw_p8, List.forall_mem_cons.mpr ⟨lw_p9, List.forall_mem_cons.mpr ⟨lw_p10, List.forall_mem_cons.mpr ⟨lw_p11, List.forall_mem_cons.mpr ⟨lw_p12, List.forall_mem_cons.mpr ⟨lw_p13, List.forall_mem_cons.mpr ⟨lw_p14, List.forall_mem_cons.mpr ⟨lw_p15, fun _ h => absurd h List.not_mem_nil⟩⟩⟩⟩⟩⟩⟩⟩⟩⟩⟩⟩⟩⟩⟩⟩
theorem lw_p16 : lw_okq (⟨"BerryLane$BestWay", "mostBeyond", "(III)I"⟩, 16) := ⟨⟨by decide +kernel, by decide +kernel⟩, List.mem_of_getElem? (i := 240) (by decide +kernel), List.mem_of_getElem? (i := 741) (by decide +kernel), List.mem_of_getElem? (i := 742) (by decide +kernel)⟩
theorem lw_p17 : lw_okq (⟨"BerryLane$BestWay", "findNextStop", "()V"⟩, 16) := ⟨⟨by decide +kernel, by decide +kernel⟩, List.mem_of_getElem? (i := 240) (by decide +kernel), List.mem_of_getElem? (i := 749) (by decide +kernel), List.mem_of_getElem? (i := 750) (by decide +kernel)⟩
theorem lw_p18 : lw_okq (⟨"BerryLane$BestWay", "fewestHandfuls", "(I)I"⟩, 16) := ⟨⟨by decide +kernel, by decide +kernel⟩, List.mem_of_getElem? (i := 240) (by decide +kernel), List.mem_of_getElem? (i := 753) (by decide +kernel), List.mem_of_getElem? (i := 754) (by decide +kernel)⟩
theorem lw_p19 : lw_okq (⟨"BerryLane$BestWay", "addStop", "(II)V"⟩, 16) := ⟨⟨by decide +kernel, by decide +kernel⟩, List.mem_of_getElem? (i := 240) (by decide +kernel), List.mem_of_getElem? (i := 757) (by decide +kernel), List.mem_of_getElem? (i := 758) (by decide +kernel)⟩
theorem lw_p20 : lw_okq (⟨"BerryLane$Places", "measure", "(LBerryLane$Lane;I)V"⟩, 7) := ⟨⟨by decide +kernel, by decide +kernel⟩, List.mem_of_getElem? (i := 301) (by decide +kernel), List.mem_of_getElem? (i := 769) (by decide +kernel), List.mem_of_getElem? (i := 770) (by decide +kernel)⟩
theorem lw_p21 : lw_okq (⟨"BerryLane$Places", "countRows", "()I"⟩, 7) := ⟨⟨by decide +kernel, by decide +kernel⟩, List.mem_of_getElem? (i := 301) (by decide +kernel), List.mem_of_getElem? (i := 782) (by decide +kernel), List.mem_of_getElem? (i := 783) (by decide +kernel)⟩
theorem lw_p22 : lw_okq (⟨"BerryLane$Places", "sumOfRow", "()I"⟩, 7) := ⟨⟨by decide +kernel, by decide +kernel⟩, List.mem_of_getElem? (i := 301) (by decide +kernel), List.mem_of_getElem? (i := 786) (by decide +kernel), List.mem_of_getElem? (i := 787) (by decide +kernel)⟩
theorem lw_p23 : lw_okq (⟨"BerryLane$Places", "stepRow", "()V"⟩, 7) := ⟨⟨by decide +kernel, by decide +kernel⟩, List.mem_of_getElem? (i := 301) (by decide +kernel), List.mem_of_getElem? (i := 793) (by decide +kernel), List.mem_of_getElem? (i := 794) (by decide +kernel)⟩
theorem lw_p24 : lw_okq (⟨"BerryLane$Contest", "takeTurn", "(LBerryLane$Lane;IIIZ)Z"⟩, 5) := ⟨⟨by decide +kernel, by decide +kernel⟩, List.mem_of_getElem? (i := 332) (by decide +kernel), List.mem_of_getElem? (i := 809) (by decide +kernel), List.mem_of_getElem? (i := 810) (by decide +kernel)⟩
theorem lw_p25 : lw_okq (⟨"BerryLane$Contest", "shareOf", "(LBerryLane$Picker;LBerryLane$Picker;IZ)I"⟩, 5) := ⟨⟨by decide +kernel, by decide +kernel⟩, List.mem_of_getElem? (i := 332) (by decide +kernel), List.mem_of_getElem? (i := 814) (by decide +kernel), List.mem_of_getElem? (i := 815) (by decide +kernel)⟩
theorem lw_p26 : lw_okq (⟨"BerryLane", "ripeAfterRow", "(LBerryLane$Bush;II)I"⟩, 11) := ⟨⟨by decide +kernel, by decide +kernel⟩, List.mem_of_getElem? (i := 17) (by decide +kernel), List.mem_of_getElem? (i := 834) (by decide +kernel), List.mem_of_getElem? (i := 835) (by decide +kernel)⟩
theorem lw_p27 : lw_okq (⟨"BerryLane", "moreByStick", "(LBerryLane$Picker;I)I"⟩, 11) := ⟨⟨by decide +kernel, by decide +kernel⟩, List.mem_of_getElem? (i := 17) (by decide +kernel), List.mem_of_getElem? (i := 842) (by decide +kernel), List.mem_of_getElem? (i := 843) (by decide +kernel)⟩
theorem lw_p28 : lw_okq (⟨"BerryLane$Seen", "agreesAfterVisit", "(LBerryLane$Law;III)Z"⟩, 8) := ⟨⟨by decide +kernel, by decide +kernel⟩, List.mem_of_getElem? (i := 360) (by decide +kernel), List.mem_of_getElem? (i := 868) (by decide +kernel), List.mem_of_getElem? (i := 869) (by decide +kernel)⟩
theorem lw_p29 : lw_okq (⟨"BerryLane$Seen", "agreesOnDay", "(LBerryLane$Bush;II)Z"⟩, 8) := ⟨⟨by decide +kernel, by decide +kernel⟩, List.mem_of_getElem? (i := 360) (by decide +kernel), List.mem_of_getElem? (i := 872) (by decide +kernel), List.mem_of_getElem? (i := 873) (by decide +kernel)⟩
theorem lw_p30 : lw_okq (⟨"BerryLane$Seen", "cansAgree", "(LBerryLane$Lane;I)Z"⟩, 8) := ⟨⟨by decide +kernel, by decide +kernel⟩, List.mem_of_getElem? (i := 360) (by decide +kernel), List.mem_of_getElem? (i := 890) (by decide +kernel), List.mem_of_getElem? (i := 891) (by decide +kernel)⟩
theorem lw_p31 : lw_okq (⟨"BerryLaneModel", "here", "()I"⟩, 64) := ⟨⟨by decide +kernel, by decide +kernel⟩, List.mem_of_getElem? (i := 929) (by decide +kernel), List.mem_of_getElem? (i := 1142) (by decide +kernel), List.mem_of_getElem? (i := 1143) (by decide +kernel)⟩
def lw_privs_2 : List (MethodName × Nat) := [(⟨"BerryLane$BestWay", "mostBeyond", "(III)I"⟩, 16), (⟨"BerryLane$BestWay", "findNextStop", "()V"⟩, 16), (⟨"BerryLane$BestWay", "fewestHandfuls", "(I)I"⟩, 16), (⟨"BerryLane$BestWay", "addStop", "(II)V"⟩, 16), (⟨"BerryLane$Places", "measure", "(LBerryLane$Lane;I)V"⟩, 7), (⟨"BerryLane$Places", "countRows", "()I"⟩, 7), (⟨"BerryLane$Places", "sumOfRow", "()I"⟩, 7), (⟨"BerryLane$Places", "stepRow", "()V"⟩, 7), (⟨"BerryLane$Contest", "takeTurn", "(LBerryLane$Lane;IIIZ)Z"⟩, 5), (⟨"BerryLane$Contest", "shareOf", "(LBerryLane$Picker;LBerryLane$Picker;IZ)I"⟩, 5), (⟨"BerryLane", "ripeAfterRow", "(LBerryLane$Bush;II)I"⟩, 11), (⟨"BerryLane", "moreByStick", "(LBerryLane$Picker;I)I"⟩, 11), (⟨"BerryLane$Seen", "agreesAfterVisit", "(LBerryLane$Law;III)Z"⟩, 8), (⟨"BerryLane$Seen", "agreesOnDay", "(LBerryLane$Bush;II)Z"⟩, 8), (⟨"BerryLane$Seen", "cansAgree", "(LBerryLane$Lane;I)Z"⟩, 8), (⟨"BerryLaneModel", "here", "()I"⟩, 64)]
theorem lw_r2 : ∀ q ∈ lw_privs_2, lw_okq q := List.forall_mem_cons.mpr ⟨lw_p16, List.forall_mem_cons.mpr ⟨lw_p17, List.forall_mem_cons.mpr ⟨lw_p18, List.forall_mem_cons.mpr ⟨lw_p19, List.forall_mem_cons.mpr ⟨lw_p20, List.forall_mem_cons.mpr ⟨lw_p21, List.forall_mem_cons.mpr ⟨lw_p22, List.forall_mem_cons.mpr ⟨lw_p23, List.forall_mem_cons.mpr ⟨lw_p24, List.forall_mem_cons.mpr ⟨lw_p25, List.forall_mem_cons.mpr ⟨lw_p26, List.forall_mem_cons.mpr ⟨lw_p27, List.forall_mem_cons.mpr ⟨lw_p28, List.forall_mem_cons.mpr ⟨lw_p29, List.forall_mem_cons.mpr ⟨lw_p30, List.forall_mem_cons.mpr ⟨lw_p31, fun _ h => absurd h List.not_mem_nil⟩⟩⟩⟩⟩⟩⟩⟩⟩⟩⟩⟩⟩⟩⟩⟩
theorem lw_p32 : lw_okq (⟨"BerryLaneModel", "takeClause", "()I"⟩, 64) := ⟨⟨by decide +kernel, by decide +kernel⟩, List.mem_of_getElem? (i := 929) (by decide +kernel), List.mem_of_getElem? (i := 1146) (by decide +kernel), List.mem_of_getElem? (i := 1147) (by decide +kernel)⟩
theorem lw_p33 : lw_okq (⟨"BerryLaneModel", "fails", "(II)I"⟩, 64) := ⟨⟨by decide +kernel, by decide +kernel⟩, List.mem_of_getElem? (i := 929) (by decide +kernel), List.mem_of_getElem? (i := 1150) (by decide +kernel), List.mem_of_getElem? (i := 1151) (by decide +kernel)⟩
theorem lw_p34 : lw_okq (⟨"BerryLaneModel", "takeLaw", "()I"⟩, 64) := ⟨⟨by decide +kernel, by decide +kernel⟩, List.mem_of_getElem? (i := 929) (by decide +kernel), List.mem_of_getElem? (i := 1154) (by decide +kernel), List.mem_of_getElem? (i := 1155) (by decide +kernel)⟩
theorem lw_p35 : lw_okq (⟨"BerryLaneModel", "into", "([IIII)I"⟩, 64) := ⟨⟨by decide +kernel, by decide +kernel⟩, List.mem_of_getElem? (i := 929) (by decide +kernel), List.mem_of_getElem? (i := 1158) (by decide +kernel), List.mem_of_getElem? (i := 1159) (by decide +kernel)⟩
theorem lw_p36 : lw_okq (⟨"BerryLaneModel", "takeNumber", "(II)I"⟩, 64) := ⟨⟨by decide +kernel, by decide +kernel⟩, List.mem_of_getElem? (i := 929) (by decide +kernel), List.mem_of_getElem? (i := 1162) (by decide +kernel), List.mem_of_getElem? (i := 1163) (by decide +kernel)⟩
theorem lw_p37 : lw_okq (⟨"BerryLaneModel", "takeBush", "()I"⟩, 64) := ⟨⟨by decide +kernel, by decide +kernel⟩, List.mem_of_getElem? (i := 929) (by decide +kernel), List.mem_of_getElem? (i := 1168) (by decide +kernel), List.mem_of_getElem? (i := 1169) (by decide +kernel)⟩
theorem lw_p38 : lw_okq (⟨"BerryLaneModel", "takePicker", "()I"⟩, 64) := ⟨⟨by decide +kernel, by decide +kernel⟩, List.mem_of_getElem? (i := 929) (by decide +kernel), List.mem_of_getElem? (i := 1172) (by decide +kernel), List.mem_of_getElem? (i := 1173) (by decide +kernel)⟩
theorem lw_p39 : lw_okq (⟨"BerryLaneModel", "takeRead", "()V"⟩, 64) := ⟨⟨by decide +kernel, by decide +kernel⟩, List.mem_of_getElem? (i := 929) (by decide +kernel), List.mem_of_getElem? (i := 1176) (by decide +kernel), List.mem_of_getElem? (i := 1177) (by decide +kernel)⟩
theorem lw_p40 : lw_okq (⟨"BerryLaneModel", "ripeInAll", "()I"⟩, 64) := ⟨⟨by decide +kernel, by decide +kernel⟩, List.mem_of_getElem? (i := 929) (by decide +kernel), List.mem_of_getElem? (i := 1188) (by decide +kernel), List.mem_of_getElem? (i := 1189) (by decide +kernel)⟩
theorem lw_p41 : lw_okq (⟨"BerryLaneModel", "isBush", "(I)Z"⟩, 64) := ⟨⟨by decide +kernel, by decide +kernel⟩, List.mem_of_getElem? (i := 929) (by decide +kernel), List.mem_of_getElem? (i := 1196) (by decide +kernel), List.mem_of_getElem? (i := 1197) (by decide +kernel)⟩
theorem lw_p42 : lw_okq (⟨"BerryLaneModel", "isPicker", "(I)Z"⟩, 64) := ⟨⟨by decide +kernel, by decide +kernel⟩, List.mem_of_getElem? (i := 929) (by decide +kernel), List.mem_of_getElem? (i := 1205) (by decide +kernel), List.mem_of_getElem? (i := 1206) (by decide +kernel)⟩
theorem lw_p43 : lw_okq (⟨"BerryLaneModel", "givesOf", "(II)I"⟩, 64) := ⟨⟨by decide +kernel, by decide +kernel⟩, List.mem_of_getElem? (i := 929) (by decide +kernel), List.mem_of_getElem? (i := 1213) (by decide +kernel), List.mem_of_getElem? (i := 1214) (by decide +kernel)⟩
theorem lw_p44 : lw_okq (⟨"BerryLaneModel", "wayOf", "(II)I"⟩, 64) := ⟨⟨by decide +kernel, by decide +kernel⟩, List.mem_of_getElem? (i := 929) (by decide +kernel), List.mem_of_getElem? (i := 1221) (by decide +kernel), List.mem_of_getElem? (i := 1222) (by decide +kernel)⟩
theorem lw_p45 : lw_okq (⟨"BerryLaneModel", "pickNow", "(III)I"⟩, 64) := ⟨⟨by decide +kernel, by decide +kernel⟩, List.mem_of_getElem? (i := 929) (by decide +kernel), List.mem_of_getElem? (i := 1237) (by decide +kernel), List.mem_of_getElem? (i := 1238) (by decide +kernel)⟩
theorem lw_p46 : lw_okq (⟨"BerryLaneModel", "handful", "(II)I"⟩, 64) := ⟨⟨by decide +kernel, by decide +kernel⟩, List.mem_of_getElem? (i := 929) (by decide +kernel), List.mem_of_getElem? (i := 1241) (by decide +kernel), List.mem_of_getElem? (i := 1242) (by decide +kernel)⟩
theorem lw_p47 : lw_okq (⟨"BerryLaneModel", "handfulTakes", "(I)I"⟩, 64) := ⟨⟨by decide +kernel, by decide +kernel⟩, List.mem_of_getElem? (i := 929) (by decide +kernel), List.mem_of_getElem? (i := 1252) (by decide +kernel), List.mem_of_getElem? (i := 1253) (by decide +kernel)⟩
def lw_privs_3 : List (MethodName × Nat) := [(⟨"BerryLaneModel", "takeClause", "()I"⟩, 64), (⟨"BerryLaneModel", "fails", "(II)I"⟩, 64), (⟨"BerryLaneModel", "takeLaw", "()I"⟩, 64), (⟨"BerryLaneModel", "into", "([IIII)I"⟩, 64), (⟨"BerryLaneModel", "takeNumber", "(II)I"⟩, 64), (⟨"BerryLaneModel", "takeBush", "()I"⟩, 64), (⟨"BerryLaneModel", "takePicker", "()I"⟩, 64), (⟨"BerryLaneModel", "takeRead", "()V"⟩, 64), (⟨"BerryLaneModel", "ripeInAll", "()I"⟩, 64), (⟨"BerryLaneModel", "isBush", "(I)Z"⟩, 64), (⟨"BerryLaneModel", "isPicker", "(I)Z"⟩, 64), (⟨"BerryLaneModel", "givesOf", "(II)I"⟩, 64), (⟨"BerryLaneModel", "wayOf", "(II)I"⟩, 64), (⟨"BerryLaneModel", "pickNow", "(III)I"⟩, 64), (⟨"BerryLaneModel", "handful", "(II)I"⟩, 64), (⟨"BerryLaneModel", "handfulTakes", "(I)I"⟩, 64)]
theorem lw_r3 : ∀ q ∈ lw_privs_3, lw_okq q := List.forall_mem_cons.mpr ⟨lw_p32, List.forall_mem_cons.mpr ⟨lw_p33, List.forall_mem_cons.mpr ⟨lw_p34, List.forall_mem_cons.mpr ⟨lw_p35, List.forall_mem_cons.mpr ⟨lw_p36, List.forall_mem_cons.mpr ⟨lw_p37, List.forall_mem_cons.mpr ⟨lw_p38, List.forall_mem_cons.mpr ⟨lw_p39, List.forall_mem_cons.mpr ⟨lw_p40, List.forall_mem_cons.mpr ⟨lw_p41, List.forall_mem_cons.mpr ⟨lw_p42, List.forall_mem_cons.mpr ⟨lw_p43, List.forall_mem_cons.mpr ⟨lw_p44, List.forall_mem_cons.mpr ⟨lw_p45, List.forall_mem_cons.mpr ⟨lw_p46, List.forall_mem_cons.mpr ⟨lw_p47, fun _ h => absurd h List.not_mem_nil⟩⟩⟩⟩⟩⟩⟩⟩⟩⟩⟩⟩⟩⟩⟩⟩
theorem lw_p48 : lw_okq (⟨"BerryLaneModel", "dayNow", "(Z)V"⟩, 64) := ⟨⟨by decide +kernel, by decide +kernel⟩, List.mem_of_getElem? (i := 929) (by decide +kernel), List.mem_of_getElem? (i := 1270) (by decide +kernel), List.mem_of_getElem? (i := 1271) (by decide +kernel)⟩
theorem lw_p49 : lw_okq (⟨"BerryLaneModel", "ripen", "(IZ)V"⟩, 64) := ⟨⟨by decide +kernel, by decide +kernel⟩, List.mem_of_getElem? (i := 929) (by decide +kernel), List.mem_of_getElem? (i := 1274) (by decide +kernel), List.mem_of_getElem? (i := 1275) (by decide +kernel)⟩
theorem lw_p50 : lw_okq (⟨"BerryLaneModel", "draw", "(I)I"⟩, 64) := ⟨⟨by decide +kernel, by decide +kernel⟩, List.mem_of_getElem? (i := 929) (by decide +kernel), List.mem_of_getElem? (i := 1282) (by decide +kernel), List.mem_of_getElem? (i := 1283) (by decide +kernel)⟩
theorem lw_p51 : lw_okq (⟨"BerryLaneModel", "save", "()V"⟩, 64) := ⟨⟨by decide +kernel, by decide +kernel⟩, List.mem_of_getElem? (i := 929) (by decide +kernel), List.mem_of_getElem? (i := 1296) (by decide +kernel), List.mem_of_getElem? (i := 1297) (by decide +kernel)⟩
theorem lw_p52 : lw_okq (⟨"BerryLaneModel", "putBack", "(I)V"⟩, 64) := ⟨⟨by decide +kernel, by decide +kernel⟩, List.mem_of_getElem? (i := 929) (by decide +kernel), List.mem_of_getElem? (i := 1300) (by decide +kernel), List.mem_of_getElem? (i := 1301) (by decide +kernel)⟩
theorem lw_p53 : lw_okq (⟨"BerryLaneModel", "findMost", "(II)V"⟩, 64) := ⟨⟨by decide +kernel, by decide +kernel⟩, List.mem_of_getElem? (i := 929) (by decide +kernel), List.mem_of_getElem? (i := 1309) (by decide +kernel), List.mem_of_getElem? (i := 1310) (by decide +kernel)⟩
theorem lw_p54 : lw_okq (⟨"BerryLaneModel", "findGains", "(II)V"⟩, 64) := ⟨⟨by decide +kernel, by decide +kernel⟩, List.mem_of_getElem? (i := 929) (by decide +kernel), List.mem_of_getElem? (i := 1313) (by decide +kernel), List.mem_of_getElem? (i := 1314) (by decide +kernel)⟩
theorem lw_p55 : lw_okq (⟨"BerryLaneModel", "putAllBack", "()V"⟩, 64) := ⟨⟨by decide +kernel, by decide +kernel⟩, List.mem_of_getElem? (i := 929) (by decide +kernel), List.mem_of_getElem? (i := 1317) (by decide +kernel), List.mem_of_getElem? (i := 1318) (by decide +kernel)⟩
theorem lw_p56 : lw_okq (⟨"BerryLaneModel", "byNext", "(IIIIII)I"⟩, 64) := ⟨⟨by decide +kernel, by decide +kernel⟩, List.mem_of_getElem? (i := 929) (by decide +kernel), List.mem_of_getElem? (i := 1321) (by decide +kernel), List.mem_of_getElem? (i := 1322) (by decide +kernel)⟩
theorem lw_p57 : lw_okq (⟨"BerryLaneModel", "wayBetween", "(III)I"⟩, 64) := ⟨⟨by decide +kernel, by decide +kernel⟩, List.mem_of_getElem? (i := 929) (by decide +kernel), List.mem_of_getElem? (i := 1325) (by decide +kernel), List.mem_of_getElem? (i := 1326) (by decide +kernel)⟩
theorem lw_p58 : lw_okq (⟨"BerryLaneModel", "stateOf", "(III)I"⟩, 64) := ⟨⟨by decide +kernel, by decide +kernel⟩, List.mem_of_getElem? (i := 929) (by decide +kernel), List.mem_of_getElem? (i := 1333) (by decide +kernel), List.mem_of_getElem? (i := 1334) (by decide +kernel)⟩
theorem lw_p59 : lw_okq (⟨"BerryLaneModel", "findCans", "(I)V"⟩, 64) := ⟨⟨by decide +kernel, by decide +kernel⟩, List.mem_of_getElem? (i := 929) (by decide +kernel), List.mem_of_getElem? (i := 1341) (by decide +kernel), List.mem_of_getElem? (i := 1342) (by decide +kernel)⟩
theorem lw_p60 : lw_okq (⟨"BerryLaneModel", "allBy", "(I)I"⟩, 64) := ⟨⟨by decide +kernel, by decide +kernel⟩, List.mem_of_getElem? (i := 929) (by decide +kernel), List.mem_of_getElem? (i := 1345) (by decide +kernel), List.mem_of_getElem? (i := 1346) (by decide +kernel)⟩
theorem lw_p61 : lw_okq (⟨"BerryLaneModel", "figure", "(II)I"⟩, 64) := ⟨⟨by decide +kernel, by decide +kernel⟩, List.mem_of_getElem? (i := 929) (by decide +kernel), List.mem_of_getElem? (i := 1349) (by decide +kernel), List.mem_of_getElem? (i := 1350) (by decide +kernel)⟩
theorem lw_p62 : lw_okq (⟨"BerryLaneModel", "bestAgainst", "(IIIIIZ)I"⟩, 64) := ⟨⟨by decide +kernel, by decide +kernel⟩, List.mem_of_getElem? (i := 929) (by decide +kernel), List.mem_of_getElem? (i := 1358) (by decide +kernel), List.mem_of_getElem? (i := 1359) (by decide +kernel)⟩
theorem lw_p63 : lw_okq (⟨"BerryLaneModel", "rivalHas", "(IIIIIZ)I"⟩, 64) := ⟨⟨by decide +kernel, by decide +kernel⟩, List.mem_of_getElem? (i := 929) (by decide +kernel), List.mem_of_getElem? (i := 1362) (by decide +kernel), List.mem_of_getElem? (i := 1363) (by decide +kernel)⟩
def lw_privs_4 : List (MethodName × Nat) := [(⟨"BerryLaneModel", "dayNow", "(Z)V"⟩, 64), (⟨"BerryLaneModel", "ripen", "(IZ)V"⟩, 64), (⟨"BerryLaneModel", "draw", "(I)I"⟩, 64), (⟨"BerryLaneModel", "save", "()V"⟩, 64), (⟨"BerryLaneModel", "putBack", "(I)V"⟩, 64), (⟨"BerryLaneModel", "findMost", "(II)V"⟩, 64), (⟨"BerryLaneModel", "findGains", "(II)V"⟩, 64), (⟨"BerryLaneModel", "putAllBack", "()V"⟩, 64), (⟨"BerryLaneModel", "byNext", "(IIIIII)I"⟩, 64), (⟨"BerryLaneModel", "wayBetween", "(III)I"⟩, 64), (⟨"BerryLaneModel", "stateOf", "(III)I"⟩, 64), (⟨"BerryLaneModel", "findCans", "(I)V"⟩, 64), (⟨"BerryLaneModel", "allBy", "(I)I"⟩, 64), (⟨"BerryLaneModel", "figure", "(II)I"⟩, 64), (⟨"BerryLaneModel", "bestAgainst", "(IIIIIZ)I"⟩, 64), (⟨"BerryLaneModel", "rivalHas", "(IIIIIZ)I"⟩, 64)]
theorem lw_r4 : ∀ q ∈ lw_privs_4, lw_okq q := List.forall_mem_cons.mpr ⟨lw_p48, List.forall_mem_cons.mpr ⟨lw_p49, List.forall_mem_cons.mpr ⟨lw_p50, List.forall_mem_cons.mpr ⟨lw_p51, List.forall_mem_cons.mpr ⟨lw_p52, List.forall_mem_cons.mpr ⟨lw_p53, List.forall_mem_cons.mpr ⟨lw_p54, List.forall_mem_cons.mpr ⟨lw_p55, List.forall_mem_cons.mpr ⟨lw_p56, List.forall_mem_cons.mpr ⟨lw_p57, List.forall_mem_cons.mpr ⟨lw_p58, List.forall_mem_cons.mpr ⟨lw_p59, List.forall_mem_cons.mpr ⟨lw_p60, List.forall_mem_cons.mpr ⟨lw_p61, List.forall_mem_cons.mpr ⟨lw_p62, List.forall_mem_cons.mpr ⟨lw_p63, fun _ h => absurd h List.not_mem_nil⟩⟩⟩⟩⟩⟩⟩⟩⟩⟩⟩⟩⟩⟩⟩⟩
theorem lw_p64 : lw_okq (⟨"BerryLaneModel", "bestOf", "(II)I"⟩, 64) := ⟨⟨by decide +kernel, by decide +kernel⟩, List.mem_of_getElem? (i := 929) (by decide +kernel), List.mem_of_getElem? (i := 1383) (by decide +kernel), List.mem_of_getElem? (i := 1384) (by decide +kernel)⟩
theorem lw_p65 : lw_okq (⟨"BerryLaneModel", "wasVisited", "(III)Z"⟩, 64) := ⟨⟨by decide +kernel, by decide +kernel⟩, List.mem_of_getElem? (i := 929) (by decide +kernel), List.mem_of_getElem? (i := 1396) (by decide +kernel), List.mem_of_getElem? (i := 1397) (by decide +kernel)⟩
theorem lw_p66 : lw_okq (⟨"BerryLaneModel", "isLeft", "(II)Z"⟩, 64) := ⟨⟨by decide +kernel, by decide +kernel⟩, List.mem_of_getElem? (i := 929) (by decide +kernel), List.mem_of_getElem? (i := 1400) (by decide +kernel), List.mem_of_getElem? (i := 1401) (by decide +kernel)⟩
theorem lw_p67 : lw_okq (⟨"BerryLaneModel", "isCan", "(II)Z"⟩, 64) := ⟨⟨by decide +kernel, by decide +kernel⟩, List.mem_of_getElem? (i := 929) (by decide +kernel), List.mem_of_getElem? (i := 1412) (by decide +kernel), List.mem_of_getElem? (i := 1413) (by decide +kernel)⟩
def lw_privs_5 : List (MethodName × Nat) := [(⟨"BerryLaneModel", "bestOf", "(II)I"⟩, 64), (⟨"BerryLaneModel", "wasVisited", "(III)Z"⟩, 64), (⟨"BerryLaneModel", "isLeft", "(II)Z"⟩, 64), (⟨"BerryLaneModel", "isCan", "(II)Z"⟩, 64)]
theorem lw_r5 : ∀ q ∈ lw_privs_5, lw_okq q := List.forall_mem_cons.mpr ⟨lw_p64, List.forall_mem_cons.mpr ⟨lw_p65, List.forall_mem_cons.mpr ⟨lw_p66, List.forall_mem_cons.mpr ⟨lw_p67, fun _ h => absurd h List.not_mem_nil⟩⟩⟩⟩
def lw_privs : List (MethodName × Nat) := lw_privs_1 ++ (lw_privs_2 ++ (lw_privs_3 ++ (lw_privs_4 ++ (lw_privs_5))))
def lw_tbl : List Cond := k2_sels lw_privs ++ tables_1
theorem lw_privs_ok : ∀ q ∈ lw_privs, lw_okq q := by
  show ∀ q ∈ lw_privs_1 ++ (lw_privs_2 ++ (lw_privs_3 ++ (lw_privs_4 ++ (lw_privs_5)))), lw_okq q
  exact List.forall_mem_append.mpr ⟨lw_r1, List.forall_mem_append.mpr ⟨lw_r2, List.forall_mem_append.mpr ⟨lw_r3, List.forall_mem_append.mpr ⟨lw_r4, lw_r5⟩⟩⟩⟩
def RX0 : String := "BerryLane$BestWay"
def TX0 : u_T := fun k => match k with
  | 0 => ("BerryLane$BestWay", "most", "I", false)
  | 1 => ("BerryLane$BestWay", "stops", "I", false)
  | 2 => ("BerryLane$BestWay", "stopBush", "[I", true)
  | 3 => ("BerryLane$BestWay", "stopHandfuls", "[I", true)
  | 4 => ("BerryLane$BestWay", "shortest", "[I", true)
  | 5 => ("BerryLane$BestWay", "gathered", "[I", true)
  | 6 => ("BerryLane$BestWay", "gains", "[I", true)
  | 7 => ("BerryLane$BestWay", "useful", "[I", true)
  | 8 => ("BerryLane$BestWay", "handfulMoments", "[I", true)
  | 9 => ("BerryLane$BestWay", "wayMoments", "[I", true)
  | 10 => ("BerryLane$BestWay", "trial", "LBerryLane$Bush;", true)
  | 11 => ("BerryLane$BestWay", "bushCount", "I", false)
  | 12 => ("BerryLane$BestWay", "been", "I", false)
  | 13 => ("BerryLane$BestWay", "last", "I", false)
  | 14 => ("BerryLane$BestWay", "timeLeft", "I", false)
  | _ => ("BerryLane$BestWay", "aim", "I", false)
def tyX0 : Nat → FieldType := fun k => match k with
  | 0 => .int
  | 1 => .int
  | 2 => .array .int
  | 3 => .array .int
  | 4 => .array .int
  | 5 => .array .int
  | 6 => .array .int
  | 7 => .array .int
  | 8 => .array .int
  | 9 => .array .int
  | 10 => .object "BerryLane$Bush"
  | 11 => .int
  | 12 => .int
  | 13 => .int
  | 14 => .int
  | _ => .int
abbrev wsX00 : List Cond := u_ws RX0 TX0 16
theorem nmX0 : ∀ a, a < 16 → ∀ b, b < 16 → a ≠ b → (TX0 a).2.1 ≠ (TX0 b).2.1 := by decide +kernel
theorem tyX0_ok : ∀ k, k < 16 → parseFieldDescriptor (TX0 k).2.2.1 = some (tyX0 k) := by decide +kernel
abbrev cX0_init : ByteArray := prog_2_method_1_code
def yX0_init : MethodName := ⟨RX0, "<init>", "()V"⟩
abbrev cX0_findMost : ByteArray := prog_2_method_2_code
def yX0_findMost : MethodName := ⟨RX0, "findMost", "(LBerryLane$Lane;LBerryLane$Picker;I)I"⟩
abbrev cX0_measureGains : ByteArray := prog_2_method_3_code
def yX0_measureGains : MethodName := ⟨RX0, "measureGains", "(LBerryLane$Picker;LBerryLane$Bush;I)V"⟩
abbrev cX0_measureWays : ByteArray := prog_2_method_4_code
def yX0_measureWays : MethodName := ⟨RX0, "measureWays", "(LBerryLane$Lane;LBerryLane$Picker;I)V"⟩
abbrev cX0_fillShortest : ByteArray := prog_2_method_5_code
def yX0_fillShortest : MethodName := ⟨RX0, "fillShortest", "(I)V"⟩
abbrev cX0_fillGathered : ByteArray := prog_2_method_6_code
def yX0_fillGathered : MethodName := ⟨RX0, "fillGathered", "(III)V"⟩
abbrev cX0_mostBeyond : ByteArray := prog_2_method_7_code
def yX0_mostBeyond : MethodName := ⟨RX0, "mostBeyond", "(III)I"⟩
abbrev cX0_findStops : ByteArray := prog_2_method_8_code
def yX0_findStops : MethodName := ⟨RX0, "findStops", "(I)V"⟩
abbrev cX0_findNextStop : ByteArray := prog_2_method_9_code
def yX0_findNextStop : MethodName := ⟨RX0, "findNextStop", "()V"⟩
abbrev cX0_fewestHandfuls : ByteArray := prog_2_method_10_code
def yX0_fewestHandfuls : MethodName := ⟨RX0, "fewestHandfuls", "(I)I"⟩
abbrev cX0_addStop : ByteArray := prog_2_method_11_code
def yX0_addStop : MethodName := ⟨RX0, "addStop", "(II)V"⟩
def RX1 : String := "BerryLane$Bush"
def TX1 : u_T := fun k => match k with
  | 0 => ("BerryLane$Bush", "yard", "I", false)
  | 1 => ("BerryLane$Bush", "side", "I", false)
  | 2 => ("BerryLane$Bush", "kind", "I", false)
  | 3 => ("BerryLane$Bush", "red", "I", false)
  | 4 => ("BerryLane$Bush", "ripe", "I", false)
  | _ => ("BerryLane$Bush", "soft", "I", false)
def tyX1 : Nat → FieldType := fun k => match k with
  | 0 => .int
  | 1 => .int
  | 2 => .int
  | 3 => .int
  | 4 => .int
  | _ => .int
abbrev wsX10 : List Cond := u_ws RX1 TX1 6
theorem nmX1 : ∀ a, a < 6 → ∀ b, b < 6 → a ≠ b → (TX1 a).2.1 ≠ (TX1 b).2.1 := by decide +kernel
theorem tyX1_ok : ∀ k, k < 6 → parseFieldDescriptor (TX1 k).2.2.1 = some (tyX1 k) := by decide +kernel
abbrev cX1_init : ByteArray := prog_3_method_1_code
def yX1_init : MethodName := ⟨RX1, "<init>", "()V"⟩
abbrev cX1_copyFrom : ByteArray := prog_3_method_2_code
def yX1_copyFrom : MethodName := ⟨RX1, "copyFrom", "(LBerryLane$Bush;)V"⟩
abbrev cX1_handfulMoments : ByteArray := prog_3_method_3_code
def yX1_handfulMoments : MethodName := ⟨RX1, "handfulMoments", "()I"⟩
abbrev cX1_momentsFrom : ByteArray := prog_3_method_4_code
def yX1_momentsFrom : MethodName := ⟨RX1, "momentsFrom", "(II)I"⟩
abbrev cX1_passDay : ByteArray := prog_3_method_5_code
def yX1_passDay : MethodName := ⟨RX1, "passDay", "(LBerryLane$Law;Z)V"⟩
def RX2 : String := "BerryLane$Contest"
def TX2 : u_T := fun k => match k with
  | 0 => ("BerryLane$Contest", "changes", "I", false)
  | 1 => ("BerryLane$Contest", "bushOfA", "I", false)
  | 2 => ("BerryLane$Contest", "bushOfB", "I", false)
  | 3 => ("BerryLane$Contest", "settled", "Z", false)
  | _ => ("BerryLane$Contest", "trial", "LBerryLane$Bush;", true)
def tyX2 : Nat → FieldType := fun k => match k with
  | 0 => .int
  | 1 => .int
  | 2 => .int
  | 3 => .boolean
  | _ => .object "BerryLane$Bush"
abbrev wsX20 : List Cond := u_ws RX2 TX2 5
theorem nmX2 : ∀ a, a < 5 → ∀ b, b < 5 → a ≠ b → (TX2 a).2.1 ≠ (TX2 b).2.1 := by decide +kernel
theorem tyX2_ok : ∀ k, k < 5 → parseFieldDescriptor (TX2 k).2.2.1 = some (tyX2 k) := by decide +kernel
abbrev cX2_init : ByteArray := prog_4_method_1_code
def yX2_init : MethodName := ⟨RX2, "<init>", "()V"⟩
abbrev cX2_playOut : ByteArray := prog_4_method_2_code
def yX2_playOut : MethodName := ⟨RX2, "playOut", "(LBerryLane$Lane;III)V"⟩
abbrev cX2_takeTurn : ByteArray := prog_4_method_3_code
def yX2_takeTurn : MethodName := ⟨RX2, "takeTurn", "(LBerryLane$Lane;IIIZ)Z"⟩
abbrev cX2_shareOf : ByteArray := prog_4_method_4_code
def yX2_shareOf : MethodName := ⟨RX2, "shareOf", "(LBerryLane$Picker;LBerryLane$Picker;IZ)I"⟩
def RX3 : String := "BerryLane$Lane"
def TX3 : u_T := fun k => match k with
  | 0 => ("BerryLane$Lane", "law", "LBerryLane$Law;", true)
  | 1 => ("BerryLane$Lane", "bushes", "[LBerryLane$Bush;", true)
  | 2 => ("BerryLane$Lane", "pickers", "[LBerryLane$Picker;", true)
  | 3 => ("BerryLane$Lane", "bushCount", "I", false)
  | 4 => ("BerryLane$Lane", "pickerCount", "I", false)
  | 5 => ("BerryLane$Lane", "dayNumber", "I", false)
  | _ => ("BerryLane$Lane", "seed", "I", false)
def tyX3 : Nat → FieldType := fun k => match k with
  | 0 => .object "BerryLane$Law"
  | 1 => .array (.object "BerryLane$Bush")
  | 2 => .array (.object "BerryLane$Picker")
  | 3 => .int
  | 4 => .int
  | 5 => .int
  | _ => .int
abbrev wsX30 : List Cond := u_ws RX3 TX3 7
theorem nmX3 : ∀ a, a < 7 → ∀ b, b < 7 → a ≠ b → (TX3 a).2.1 ≠ (TX3 b).2.1 := by decide +kernel
theorem tyX3_ok : ∀ k, k < 7 → parseFieldDescriptor (TX3 k).2.2.1 = some (tyX3 k) := by decide +kernel
abbrev cX3_init : ByteArray := prog_5_method_1_code
def yX3_init : MethodName := ⟨RX3, "<init>", "()V"⟩
abbrev cX3_copyFrom : ByteArray := prog_5_method_2_code
def yX3_copyFrom : MethodName := ⟨RX3, "copyFrom", "(LBerryLane$Lane;)V"⟩
abbrev cX3_startAs : ByteArray := prog_5_method_3_code
def yX3_startAs : MethodName := ⟨RX3, "startAs", "(LBerryLane$Lane;)V"⟩
abbrev cX3_forget : ByteArray := prog_5_method_4_code
def yX3_forget : MethodName := ⟨RX3, "forget", "()V"⟩
abbrev cX3_ripeInAll : ByteArray := prog_5_method_5_code
def yX3_ripeInAll : MethodName := ⟨RX3, "ripeInAll", "()I"⟩
abbrev cX3_passDay : ByteArray := prog_5_method_6_code
def yX3_passDay : MethodName := ⟨RX3, "passDay", "(Z)V"⟩
abbrev cX3_passDayByDraws : ByteArray := prog_5_method_7_code
def yX3_passDayByDraws : MethodName := ⟨RX3, "passDayByDraws", "()V"⟩
abbrev cX3_draw : ByteArray := prog_5_method_8_code
def yX3_draw : MethodName := ⟨RX3, "draw", "(I)I"⟩
def RX4 : String := "BerryLane$Law"
def TX4 : u_T := fun k => match k with
  | 0 => ("BerryLane$Law", "ripening", "I", false)
  | 1 => ("BerryLane$Law", "softening", "I", false)
  | 2 => ("BerryLane$Law", "falling", "I", false)
  | _ => ("BerryLane$Law", "canHolds", "I", false)
def tyX4 : Nat → FieldType := fun k => match k with
  | 0 => .int
  | 1 => .int
  | 2 => .int
  | _ => .int
abbrev wsX40 : List Cond := u_ws RX4 TX4 4
theorem nmX4 : ∀ a, a < 4 → ∀ b, b < 4 → a ≠ b → (TX4 a).2.1 ≠ (TX4 b).2.1 := by decide +kernel
theorem tyX4_ok : ∀ k, k < 4 → parseFieldDescriptor (TX4 k).2.2.1 = some (tyX4 k) := by decide +kernel
abbrev cX4_init : ByteArray := prog_6_method_1_code
def yX4_init : MethodName := ⟨RX4, "<init>", "()V"⟩
abbrev cX4_copyFrom : ByteArray := prog_6_method_2_code
def yX4_copyFrom : MethodName := ⟨RX4, "copyFrom", "(LBerryLane$Law;)V"⟩
abbrev cX4_forget : ByteArray := prog_6_method_3_code
def yX4_forget : MethodName := ⟨RX4, "forget", "()V"⟩
abbrev cX4_isTold : ByteArray := prog_6_method_4_code
def yX4_isTold : MethodName := ⟨RX4, "isTold", "()Z"⟩
def RX5 : String := "BerryLane$Picker"
def TX5 : u_T := fun k => match k with
  | 0 => ("BerryLane$Picker", "yard", "I", false)
  | 1 => ("BerryLane$Picker", "side", "I", false)
  | 2 => ("BerryLane$Picker", "quickness", "I", false)
  | 3 => ("BerryLane$Picker", "appetite", "I", false)
  | 4 => ("BerryLane$Picker", "reachesHigh", "Z", false)
  | 5 => ("BerryLane$Picker", "inCan", "I", false)
  | 6 => ("BerryLane$Picker", "eaten", "I", false)
  | _ => ("BerryLane$Picker", "clock", "I", false)
def tyX5 : Nat → FieldType := fun k => match k with
  | 0 => .int
  | 1 => .int
  | 2 => .int
  | 3 => .int
  | 4 => .boolean
  | 5 => .int
  | 6 => .int
  | _ => .int
abbrev wsX50 : List Cond := u_ws RX5 TX5 8
theorem nmX5 : ∀ a, a < 8 → ∀ b, b < 8 → a ≠ b → (TX5 a).2.1 ≠ (TX5 b).2.1 := by decide +kernel
theorem tyX5_ok : ∀ k, k < 8 → parseFieldDescriptor (TX5 k).2.2.1 = some (tyX5 k) := by decide +kernel
abbrev cX5_init : ByteArray := prog_7_method_1_code
def yX5_init : MethodName := ⟨RX5, "<init>", "()V"⟩
abbrev cX5_copyFrom : ByteArray := prog_7_method_2_code
def yX5_copyFrom : MethodName := ⟨RX5, "copyFrom", "(LBerryLane$Picker;)V"⟩
abbrev cX5_wouldGet : ByteArray := prog_7_method_3_code
def yX5_wouldGet : MethodName := ⟨RX5, "wouldGet", "(LBerryLane$Bush;)I"⟩
abbrev cX5_momentsTo : ByteArray := prog_7_method_4_code
def yX5_momentsTo : MethodName := ⟨RX5, "momentsTo", "(LBerryLane$Bush;)I"⟩
abbrev cX5_isAt : ByteArray := prog_7_method_5_code
def yX5_isAt : MethodName := ⟨RX5, "isAt", "(LBerryLane$Bush;)Z"⟩
abbrev cX5_walkTo : ByteArray := prog_7_method_6_code
def yX5_walkTo : MethodName := ⟨RX5, "walkTo", "(LBerryLane$Bush;)V"⟩
abbrev cX5_takeHandfuls : ByteArray := prog_7_method_7_code
def yX5_takeHandfuls : MethodName := ⟨RX5, "takeHandfuls", "(LBerryLane$Bush;II)I"⟩
abbrev cX5_tryHandful : ByteArray := prog_7_method_8_code
def yX5_tryHandful : MethodName := ⟨RX5, "tryHandful", "(LBerryLane$Bush;)I"⟩
abbrev cX5_tryHandfuls : ByteArray := prog_7_method_9_code
def yX5_tryHandfuls : MethodName := ⟨RX5, "tryHandfuls", "(LBerryLane$Bush;I)I"⟩
def RX6 : String := "BerryLane$Places"
def TX6 : u_T := fun k => match k with
  | 0 => ("BerryLane$Places", "most", "I", false)
  | 1 => ("BerryLane$Places", "gains", "[I", true)
  | 2 => ("BerryLane$Places", "row", "[I", true)
  | 3 => ("BerryLane$Places", "bestRow", "[I", true)
  | 4 => ("BerryLane$Places", "trial", "LBerryLane$Bush;", true)
  | 5 => ("BerryLane$Places", "bushCount", "I", false)
  | _ => ("BerryLane$Places", "pickerCount", "I", false)
def tyX6 : Nat → FieldType := fun k => match k with
  | 0 => .int
  | 1 => .array .int
  | 2 => .array .int
  | 3 => .array .int
  | 4 => .object "BerryLane$Bush"
  | 5 => .int
  | _ => .int
abbrev wsX60 : List Cond := u_ws RX6 TX6 7
theorem nmX6 : ∀ a, a < 7 → ∀ b, b < 7 → a ≠ b → (TX6 a).2.1 ≠ (TX6 b).2.1 := by decide +kernel
theorem tyX6_ok : ∀ k, k < 7 → parseFieldDescriptor (TX6 k).2.2.1 = some (tyX6 k) := by decide +kernel
abbrev cX6_init : ByteArray := prog_8_method_1_code
def yX6_init : MethodName := ⟨RX6, "<init>", "()V"⟩
abbrev cX6_findFor : ByteArray := prog_8_method_2_code
def yX6_findFor : MethodName := ⟨RX6, "findFor", "(LBerryLane$Lane;I)V"⟩
abbrev cX6_bushOf : ByteArray := prog_8_method_3_code
def yX6_bushOf : MethodName := ⟨RX6, "bushOf", "(I)I"⟩
abbrev cX6_measure : ByteArray := prog_8_method_4_code
def yX6_measure : MethodName := ⟨RX6, "measure", "(LBerryLane$Lane;I)V"⟩
abbrev cX6_sumOfRow : ByteArray := prog_8_method_5_code
def yX6_sumOfRow : MethodName := ⟨RX6, "sumOfRow", "()I"⟩
abbrev cX6_countRows : ByteArray := prog_8_method_6_code
def yX6_countRows : MethodName := ⟨RX6, "countRows", "()I"⟩
abbrev cX6_stepRow : ByteArray := prog_8_method_7_code
def yX6_stepRow : MethodName := ⟨RX6, "stepRow", "()V"⟩
def RX7 : String := "BerryLane$Reader"
def TX7 : u_T := fun k => match k with
  | 0 => ("BerryLane$Reader", "draft", "LBerryLane$Lane;", true)
  | 1 => ("BerryLane$Reader", "size", "I", false)
  | 2 => ("BerryLane$Reader", "faultPlace", "I", false)
  | 3 => ("BerryLane$Reader", "text", "[C", true)
  | 4 => ("BerryLane$Reader", "numbers", "[I", true)
  | 5 => ("BerryLane$Reader", "place", "I", false)
  | 6 => ("BerryLane$Reader", "fault", "I", false)
  | _ => ("BerryLane$Reader", "canTold", "Z", false)
def tyX7 : Nat → FieldType := fun k => match k with
  | 0 => .object "BerryLane$Lane"
  | 1 => .int
  | 2 => .int
  | 3 => .array .char
  | 4 => .array .int
  | 5 => .int
  | 6 => .int
  | _ => .boolean
abbrev wsX70 : List Cond := u_ws RX7 TX7 8
theorem nmX7 : ∀ a, a < 8 → ∀ b, b < 8 → a ≠ b → (TX7 a).2.1 ≠ (TX7 b).2.1 := by decide +kernel
theorem tyX7_ok : ∀ k, k < 8 → parseFieldDescriptor (TX7 k).2.2.1 = some (tyX7 k) := by decide +kernel
abbrev cX7_init : ByteArray := prog_9_method_1_code
def yX7_init : MethodName := ⟨RX7, "<init>", "()V"⟩
abbrev cX7_isFull : ByteArray := prog_9_method_2_code
def yX7_isFull : MethodName := ⟨RX7, "isFull", "()Z"⟩
abbrev cX7_append : ByteArray := prog_9_method_3_code
def yX7_append : MethodName := ⟨RX7, "append", "(C)I"⟩
abbrev cX7_readAll : ByteArray := prog_9_method_4_code
def yX7_readAll : MethodName := ⟨RX7, "readAll", "()I"⟩
abbrev cX7_readClause : ByteArray := prog_9_method_5_code
def yX7_readClause : MethodName := ⟨RX7, "readClause", "()V"⟩
abbrev cX7_faultOfWord : ByteArray := prog_9_method_6_code
def yX7_faultOfWord : MethodName := ⟨RX7, "faultOfWord", "(C)I"⟩
abbrev cX7_boundsOf : ByteArray := prog_9_method_7_code
def yX7_boundsOf : MethodName := ⟨RX7, "boundsOf", "(C)[I"⟩
abbrev cX7_readNumbers : ByteArray := prog_9_method_8_code
def yX7_readNumbers : MethodName := ⟨RX7, "readNumbers", "([I)V"⟩
abbrev cX7_readNumber : ByteArray := prog_9_method_9_code
def yX7_readNumber : MethodName := ⟨RX7, "readNumber", "(II)I"⟩
abbrev cX7_take : ByteArray := prog_9_method_10_code
def yX7_take : MethodName := ⟨RX7, "take", "(C)V"⟩
abbrev cX7_takeBush : ByteArray := prog_9_method_11_code
def yX7_takeBush : MethodName := ⟨RX7, "takeBush", "()V"⟩
abbrev cX7_takePicker : ByteArray := prog_9_method_12_code
def yX7_takePicker : MethodName := ⟨RX7, "takePicker", "()V"⟩
abbrev cX7_skipBlanks : ByteArray := prog_9_method_13_code
def yX7_skipBlanks : MethodName := ⟨RX7, "skipBlanks", "()V"⟩
abbrev cX7_note : ByteArray := prog_9_method_14_code
def yX7_note : MethodName := ⟨RX7, "note", "(II)V"⟩
def RX8 : String := "BerryLane$Seen"
def TX8 : u_T := fun k => match k with
  | 0 => ("BerryLane$Seen", "remains", "LBerryLane$Sheet;", true)
  | 1 => ("BerryLane$Seen", "cans", "LBerryLane$Sheet;", true)
  | 2 => ("BerryLane$Seen", "book", "LBerryLane$Sheet;", true)
  | 3 => ("BerryLane$Seen", "soughtVisit", "I", false)
  | 4 => ("BerryLane$Seen", "untouched", "LBerryLane$Bush;", true)
  | 5 => ("BerryLane$Seen", "trial", "LBerryLane$Bush;", true)
  | 6 => ("BerryLane$Seen", "guess", "LBerryLane$Picker;", true)
  | _ => ("BerryLane$Seen", "ripeThen", "[I", true)
def tyX8 : Nat → FieldType := fun k => match k with
  | 0 => .object "BerryLane$Sheet"
  | 1 => .object "BerryLane$Sheet"
  | 2 => .object "BerryLane$Sheet"
  | 3 => .int
  | 4 => .object "BerryLane$Bush"
  | 5 => .object "BerryLane$Bush"
  | 6 => .object "BerryLane$Picker"
  | _ => .array .int
abbrev wsX80 : List Cond := u_ws RX8 TX8 8
theorem nmX8 : ∀ a, a < 8 → ∀ b, b < 8 → a ≠ b → (TX8 a).2.1 ≠ (TX8 b).2.1 := by decide +kernel
theorem tyX8_ok : ∀ k, k < 8 → parseFieldDescriptor (TX8 k).2.2.1 = some (tyX8 k) := by decide +kernel
abbrev cX8_init : ByteArray := prog_10_method_1_code
def yX8_init : MethodName := ⟨RX8, "<init>", "()V"⟩
abbrev cX8_clearAll : ByteArray := prog_10_method_2_code
def yX8_clearAll : MethodName := ⟨RX8, "clearAll", "()I"⟩
abbrev cX8_findVisits : ByteArray := prog_10_method_3_code
def yX8_findVisits : MethodName := ⟨RX8, "findVisits", "(LBerryLane$Lane;II)I"⟩
abbrev cX8_agreesAfterVisit : ByteArray := prog_10_method_4_code
def yX8_agreesAfterVisit : MethodName := ⟨RX8, "agreesAfterVisit", "(LBerryLane$Law;III)Z"⟩
abbrev cX8_agreesOnDay : ByteArray := prog_10_method_5_code
def yX8_agreesOnDay : MethodName := ⟨RX8, "agreesOnDay", "(LBerryLane$Bush;II)Z"⟩
abbrev cX8_appetitesOf : ByteArray := prog_10_method_6_code
def yX8_appetitesOf : MethodName := ⟨RX8, "appetitesOf", "(LBerryLane$Lane;I)I"⟩
abbrev cX8_cansAgree : ByteArray := prog_10_method_7_code
def yX8_cansAgree : MethodName := ⟨RX8, "cansAgree", "(LBerryLane$Lane;I)Z"⟩
abbrev cX8_firstWrong : ByteArray := prog_10_method_8_code
def yX8_firstWrong : MethodName := ⟨RX8, "firstWrong", "(LBerryLane$Lane;)I"⟩
def RX9 : String := "BerryLane$Sheet"
def TX9 : u_T := fun k => match k with
  | 0 => ("BerryLane$Sheet", "picker", "[I", true)
  | 1 => ("BerryLane$Sheet", "bush", "[I", true)
  | 2 => ("BerryLane$Sheet", "number", "[I", true)
  | 3 => ("BerryLane$Sheet", "much", "[I", true)
  | 4 => ("BerryLane$Sheet", "size", "I", false)
  | _ => ("BerryLane$Sheet", "room", "I", true)
def tyX9 : Nat → FieldType := fun k => match k with
  | 0 => .array .int
  | 1 => .array .int
  | 2 => .array .int
  | 3 => .array .int
  | 4 => .int
  | _ => .int
abbrev wsX90 : List Cond := u_ws RX9 TX9 6
theorem nmX9 : ∀ a, a < 6 → ∀ b, b < 6 → a ≠ b → (TX9 a).2.1 ≠ (TX9 b).2.1 := by decide +kernel
theorem tyX9_ok : ∀ k, k < 6 → parseFieldDescriptor (TX9 k).2.2.1 = some (tyX9 k) := by decide +kernel
abbrev cX9_init : ByteArray := prog_11_method_1_code
def yX9_init : MethodName := ⟨RX9, "<init>", "(I)V"⟩
abbrev cX9_isFull : ByteArray := prog_11_method_2_code
def yX9_isFull : MethodName := ⟨RX9, "isFull", "()Z"⟩
abbrev cX9_append : ByteArray := prog_11_method_3_code
def yX9_append : MethodName := ⟨RX9, "append", "(IIII)I"⟩
def RX10 : String := "BerryLane"
def TX10 : u_T := fun k => match k with
  | 0 => ("BerryLane", "reader", "LBerryLane$Reader;", true)
  | 1 => ("BerryLane", "now", "LBerryLane$Lane;", true)
  | 2 => ("BerryLane", "images", "[LBerryLane$Lane;", true)
  | 3 => ("BerryLane", "kept", "[Z", true)
  | 4 => ("BerryLane", "bestWay", "LBerryLane$BestWay;", true)
  | 5 => ("BerryLane", "places", "LBerryLane$Places;", true)
  | 6 => ("BerryLane", "contest", "LBerryLane$Contest;", true)
  | 7 => ("BerryLane", "seen", "LBerryLane$Seen;", true)
  | 8 => ("BerryLane", "triedBush", "LBerryLane$Bush;", true)
  | 9 => ("BerryLane", "triedPicker", "LBerryLane$Picker;", true)
  | _ => ("BerryLane", "faultPlace", "I", false)
def tyX10 : Nat → FieldType := fun k => match k with
  | 0 => .object "BerryLane$Reader"
  | 1 => .object "BerryLane$Lane"
  | 2 => .array (.object "BerryLane$Lane")
  | 3 => .array .boolean
  | 4 => .object "BerryLane$BestWay"
  | 5 => .object "BerryLane$Places"
  | 6 => .object "BerryLane$Contest"
  | 7 => .object "BerryLane$Seen"
  | 8 => .object "BerryLane$Bush"
  | 9 => .object "BerryLane$Picker"
  | _ => .int
abbrev wsX100 : List Cond := u_ws RX10 TX10 11
theorem nmX10 : ∀ a, a < 11 → ∀ b, b < 11 → a ≠ b → (TX10 a).2.1 ≠ (TX10 b).2.1 := by decide +kernel
theorem tyX10_ok : ∀ k, k < 11 → parseFieldDescriptor (TX10 k).2.2.1 = some (tyX10 k) := by decide +kernel
abbrev cX10_init : ByteArray := prog_1_method_1_code
def yX10_init : MethodName := ⟨RX10, "<init>", "()V"⟩
abbrev cX10_feed : ByteArray := prog_1_method_2_code
def yX10_feed : MethodName := ⟨RX10, "feed", "(I)I"⟩
abbrev cX10_lane : ByteArray := prog_1_method_3_code
def yX10_lane : MethodName := ⟨RX10, "lane", "()I"⟩
abbrev cX10_fault : ByteArray := prog_1_method_4_code
def yX10_fault : MethodName := ⟨RX10, "fault", "()I"⟩
abbrev cX10_told : ByteArray := prog_1_method_5_code
def yX10_told : MethodName := ⟨RX10, "told", "(I)I"⟩
abbrev cX10_bush : ByteArray := prog_1_method_6_code
def yX10_bush : MethodName := ⟨RX10, "bush", "(II)I"⟩
abbrev cX10_picker : ByteArray := prog_1_method_7_code
def yX10_picker : MethodName := ⟨RX10, "picker", "(II)I"⟩
abbrev cX10_gives : ByteArray := prog_1_method_8_code
def yX10_gives : MethodName := ⟨RX10, "gives", "(II)I"⟩
abbrev cX10_way : ByteArray := prog_1_method_9_code
def yX10_way : MethodName := ⟨RX10, "way", "(II)I"⟩
abbrev cX10_go : ByteArray := prog_1_method_10_code
def yX10_go : MethodName := ⟨RX10, "go", "(II)I"⟩
abbrev cX10_pick : ByteArray := prog_1_method_11_code
def yX10_pick : MethodName := ⟨RX10, "pick", "(III)I"⟩
abbrev cX10_stick : ByteArray := prog_1_method_12_code
def yX10_stick : MethodName := ⟨RX10, "stick", "(IZ)I"⟩
abbrev cX10_pour : ByteArray := prog_1_method_13_code
def yX10_pour : MethodName := ⟨RX10, "pour", "(I)I"⟩
abbrev cX10_day : ByteArray := prog_1_method_14_code
def yX10_day : MethodName := ⟨RX10, "day", "(IZ)I"⟩
abbrev cX10_drift : ByteArray := prog_1_method_15_code
def yX10_drift : MethodName := ⟨RX10, "drift", "(I)I"⟩
abbrev cX10_length : ByteArray := prog_1_method_16_code
def yX10_length : MethodName := ⟨RX10, "length", "(III)I"⟩
abbrev cX10_best : ByteArray := prog_1_method_17_code
def yX10_best : MethodName := ⟨RX10, "best", "(IIII)I"⟩
abbrev cX10_where : ByteArray := prog_1_method_18_code
def yX10_where : MethodName := ⟨RX10, "where", "(II)I"⟩
abbrev cX10_rivals : ByteArray := prog_1_method_19_code
def yX10_rivals : MethodName := ⟨RX10, "rivals", "(IIII)I"⟩
abbrev cX10_again : ByteArray := prog_1_method_20_code
def yX10_again : MethodName := ⟨RX10, "again", "(III)I"⟩
abbrev cX10_odds : ByteArray := prog_1_method_21_code
def yX10_odds : MethodName := ⟨RX10, "odds", "(IIII)I"⟩
abbrev cX10_whom : ByteArray := prog_1_method_22_code
def yX10_whom : MethodName := ⟨RX10, "whom", "(II)I"⟩
abbrev cX10_left : ByteArray := prog_1_method_23_code
def yX10_left : MethodName := ⟨RX10, "left", "(III)I"⟩
abbrev cX10_visited : ByteArray := prog_1_method_24_code
def yX10_visited : MethodName := ⟨RX10, "visited", "(II)I"⟩
abbrev cX10_can : ByteArray := prog_1_method_25_code
def yX10_can : MethodName := ⟨RX10, "can", "(IIII)I"⟩
abbrev cX10_eats : ByteArray := prog_1_method_26_code
def yX10_eats : MethodName := ⟨RX10, "eats", "(I)I"⟩
abbrev cX10_write : ByteArray := prog_1_method_27_code
def yX10_write : MethodName := ⟨RX10, "write", "(III)I"⟩
abbrev cX10_judge : ByteArray := prog_1_method_28_code
def yX10_judge : MethodName := ⟨RX10, "judge", "()I"⟩
abbrev cX10_tear : ByteArray := prog_1_method_29_code
def yX10_tear : MethodName := ⟨RX10, "tear", "()I"⟩
abbrev cX10_seed : ByteArray := prog_1_method_30_code
def yX10_seed : MethodName := ⟨RX10, "seed", "(I)I"⟩
abbrev cX10_keep : ByteArray := prog_1_method_31_code
def yX10_keep : MethodName := ⟨RX10, "keep", "(I)I"⟩
abbrev cX10_goBack : ByteArray := prog_1_method_32_code
def yX10_goBack : MethodName := ⟨RX10, "goBack", "(I)I"⟩
abbrev cX10_within : ByteArray := prog_1_method_33_code
def yX10_within : MethodName := ⟨RX10, "within", "(III)Z"⟩
abbrev cX10_isBush : ByteArray := prog_1_method_34_code
def yX10_isBush : MethodName := ⟨RX10, "isBush", "(I)Z"⟩
abbrev cX10_isPicker : ByteArray := prog_1_method_35_code
def yX10_isPicker : MethodName := ⟨RX10, "isPicker", "(I)Z"⟩
abbrev cX10_partOfRow : ByteArray := prog_1_method_36_code
def yX10_partOfRow : MethodName := ⟨RX10, "partOfRow", "(III)I"⟩
abbrev cX10_ripeAfterRow : ByteArray := prog_1_method_37_code
def yX10_ripeAfterRow : MethodName := ⟨RX10, "ripeAfterRow", "(LBerryLane$Bush;II)I"⟩
abbrev cX10_moreByStick : ByteArray := prog_1_method_38_code
def yX10_moreByStick : MethodName := ⟨RX10, "moreByStick", "(LBerryLane$Picker;I)I"⟩
def RX11 : String := "BerryLaneModel"
def TX11 : u_T := fun k => match k with
  | 0 => ("BerryLaneModel", "ripens", "I", false)
  | 1 => ("BerryLaneModel", "softens", "I", false)
  | 2 => ("BerryLaneModel", "falls", "I", false)
  | 3 => ("BerryLaneModel", "holds", "I", false)
  | 4 => ("BerryLaneModel", "bushes", "I", false)
  | 5 => ("BerryLaneModel", "bushAt", "[I", true)
  | 6 => ("BerryLaneModel", "bushSide", "[I", true)
  | 7 => ("BerryLaneModel", "kind", "[I", true)
  | 8 => ("BerryLaneModel", "red", "[I", true)
  | 9 => ("BerryLaneModel", "ripe", "[I", true)
  | 10 => ("BerryLaneModel", "soft", "[I", true)
  | 11 => ("BerryLaneModel", "pickers", "I", false)
  | 12 => ("BerryLaneModel", "yard", "[I", true)
  | 13 => ("BerryLaneModel", "side", "[I", true)
  | 14 => ("BerryLaneModel", "quick", "[I", true)
  | 15 => ("BerryLaneModel", "eats", "[I", true)
  | 16 => ("BerryLaneModel", "high", "[Z", true)
  | 17 => ("BerryLaneModel", "can", "[I", true)
  | 18 => ("BerryLaneModel", "eaten", "[I", true)
  | 19 => ("BerryLaneModel", "clock", "[I", true)
  | 20 => ("BerryLaneModel", "day", "I", false)
  | 21 => ("BerryLaneModel", "seed", "I", false)
  | 22 => ("BerryLaneModel", "text", "[I", true)
  | 23 => ("BerryLaneModel", "texted", "I", false)
  | 24 => ("BerryLaneModel", "faultPlace", "I", false)
  | 25 => ("BerryLaneModel", "at0", "I", false)
  | 26 => ("BerryLaneModel", "number", "I", false)
  | 27 => ("BerryLaneModel", "numberAt", "I", false)
  | 28 => ("BerryLaneModel", "readLaw", "[I", true)
  | 29 => ("BerryLaneModel", "hasLaw", "Z", false)
  | 30 => ("BerryLaneModel", "readHolds", "[I", true)
  | 31 => ("BerryLaneModel", "readBushes", "I", false)
  | 32 => ("BerryLaneModel", "readAt", "[I", true)
  | 33 => ("BerryLaneModel", "readSide", "[I", true)
  | 34 => ("BerryLaneModel", "readKind", "[I", true)
  | 35 => ("BerryLaneModel", "readRed", "[I", true)
  | 36 => ("BerryLaneModel", "readRipe", "[I", true)
  | 37 => ("BerryLaneModel", "readSoft", "[I", true)
  | 38 => ("BerryLaneModel", "readPickers", "I", false)
  | 39 => ("BerryLaneModel", "readYard", "[I", true)
  | 40 => ("BerryLaneModel", "readQuick", "[I", true)
  | 41 => ("BerryLaneModel", "readEats", "[I", true)
  | 42 => ("BerryLaneModel", "readHigh", "[I", true)
  | 43 => ("BerryLaneModel", "wasRed", "[I", true)
  | 44 => ("BerryLaneModel", "wasRipe", "[I", true)
  | 45 => ("BerryLaneModel", "wasSoft", "[I", true)
  | 46 => ("BerryLaneModel", "gains", "[I", true)
  | 47 => ("BerryLaneModel", "most", "[I", true)
  | 48 => ("BerryLaneModel", "cansAt", "[I", true)
  | 49 => ("BerryLaneModel", "lefts", "I", false)
  | 50 => ("BerryLaneModel", "leftBush", "[I", true)
  | 51 => ("BerryLaneModel", "leftDays", "[I", true)
  | 52 => ("BerryLaneModel", "leftRipe", "[I", true)
  | 53 => ("BerryLaneModel", "cans", "I", false)
  | 54 => ("BerryLaneModel", "canWho", "[I", true)
  | 55 => ("BerryLaneModel", "canBush", "[I", true)
  | 56 => ("BerryLaneModel", "canHands", "[I", true)
  | 57 => ("BerryLaneModel", "canMuch", "[I", true)
  | 58 => ("BerryLaneModel", "booked", "I", false)
  | 59 => ("BerryLaneModel", "bookWho", "[I", true)
  | 60 => ("BerryLaneModel", "bookBush", "[I", true)
  | 61 => ("BerryLaneModel", "bookGave", "[I", true)
  | 62 => ("BerryLaneModel", "images", "[I", true)
  | _ => ("BerryLaneModel", "isKept", "[Z", true)
def tyX11 : Nat → FieldType := fun k => match k with
  | 0 => .int
  | 1 => .int
  | 2 => .int
  | 3 => .int
  | 4 => .int
  | 5 => .array .int
  | 6 => .array .int
  | 7 => .array .int
  | 8 => .array .int
  | 9 => .array .int
  | 10 => .array .int
  | 11 => .int
  | 12 => .array .int
  | 13 => .array .int
  | 14 => .array .int
  | 15 => .array .int
  | 16 => .array .boolean
  | 17 => .array .int
  | 18 => .array .int
  | 19 => .array .int
  | 20 => .int
  | 21 => .int
  | 22 => .array .int
  | 23 => .int
  | 24 => .int
  | 25 => .int
  | 26 => .int
  | 27 => .int
  | 28 => .array .int
  | 29 => .boolean
  | 30 => .array .int
  | 31 => .int
  | 32 => .array .int
  | 33 => .array .int
  | 34 => .array .int
  | 35 => .array .int
  | 36 => .array .int
  | 37 => .array .int
  | 38 => .int
  | 39 => .array .int
  | 40 => .array .int
  | 41 => .array .int
  | 42 => .array .int
  | 43 => .array .int
  | 44 => .array .int
  | 45 => .array .int
  | 46 => .array .int
  | 47 => .array .int
  | 48 => .array .int
  | 49 => .int
  | 50 => .array .int
  | 51 => .array .int
  | 52 => .array .int
  | 53 => .int
  | 54 => .array .int
  | 55 => .array .int
  | 56 => .array .int
  | 57 => .array .int
  | 58 => .int
  | 59 => .array .int
  | 60 => .array .int
  | 61 => .array .int
  | 62 => .array .int
  | _ => .array .boolean
abbrev wsX110 : List Cond := u_ws RX11 TX11 64
theorem nmX11 : ∀ a, a < 64 → ∀ b, b < 64 → a ≠ b → (TX11 a).2.1 ≠ (TX11 b).2.1 := by decide +kernel
theorem tyX11_ok : ∀ k, k < 64 → parseFieldDescriptor (TX11 k).2.2.1 = some (tyX11 k) := by decide +kernel
abbrev cX11_init : ByteArray := prog_13_method_1_code
def yX11_init : MethodName := ⟨RX11, "<init>", "()V"⟩
abbrev cX11_in : ByteArray := prog_13_method_3_code
def yX11_in : MethodName := ⟨RX11, "in", "(JJJ)Z"⟩
abbrev cX11_has : ByteArray := prog_13_method_4_code
def yX11_has : MethodName := ⟨RX11, "has", "(II)Z"⟩
abbrev cX11_isBush : ByteArray := prog_13_method_5_code
def yX11_isBush : MethodName := ⟨RX11, "isBush", "(I)Z"⟩
abbrev cX11_isPicker : ByteArray := prog_13_method_6_code
def yX11_isPicker : MethodName := ⟨RX11, "isPicker", "(I)Z"⟩
abbrev cX11_feed : ByteArray := prog_13_method_7_code
def yX11_feed : MethodName := ⟨RX11, "feed", "(I)I"⟩
abbrev cX11_here : ByteArray := prog_13_method_8_code
def yX11_here : MethodName := ⟨RX11, "here", "()I"⟩
abbrev cX11_fails : ByteArray := prog_13_method_9_code
def yX11_fails : MethodName := ⟨RX11, "fails", "(II)I"⟩
abbrev cX11_takeNumber : ByteArray := prog_13_method_10_code
def yX11_takeNumber : MethodName := ⟨RX11, "takeNumber", "(II)I"⟩
abbrev cX11_into : ByteArray := prog_13_method_11_code
def yX11_into : MethodName := ⟨RX11, "into", "([IIII)I"⟩
abbrev cX11_takeLaw : ByteArray := prog_13_method_12_code
def yX11_takeLaw : MethodName := ⟨RX11, "takeLaw", "()I"⟩
abbrev cX11_takeBush : ByteArray := prog_13_method_13_code
def yX11_takeBush : MethodName := ⟨RX11, "takeBush", "()I"⟩
abbrev cX11_takePicker : ByteArray := prog_13_method_14_code
def yX11_takePicker : MethodName := ⟨RX11, "takePicker", "()I"⟩
abbrev cX11_takeClause : ByteArray := prog_13_method_15_code
def yX11_takeClause : MethodName := ⟨RX11, "takeClause", "()I"⟩
abbrev cX11_takeRead : ByteArray := prog_13_method_16_code
def yX11_takeRead : MethodName := ⟨RX11, "takeRead", "()V"⟩
abbrev cX11_lane : ByteArray := prog_13_method_17_code
def yX11_lane : MethodName := ⟨RX11, "lane", "()I"⟩
abbrev cX11_fault : ByteArray := prog_13_method_18_code
def yX11_fault : MethodName := ⟨RX11, "fault", "()I"⟩
abbrev cX11_ripeInAll : ByteArray := prog_13_method_19_code
def yX11_ripeInAll : MethodName := ⟨RX11, "ripeInAll", "()I"⟩
abbrev cX11_told : ByteArray := prog_13_method_20_code
def yX11_told : MethodName := ⟨RX11, "told", "(I)I"⟩
abbrev cX11_bush : ByteArray := prog_13_method_21_code
def yX11_bush : MethodName := ⟨RX11, "bush", "(II)I"⟩
abbrev cX11_picker : ByteArray := prog_13_method_22_code
def yX11_picker : MethodName := ⟨RX11, "picker", "(II)I"⟩
abbrev cX11_givesOf : ByteArray := prog_13_method_23_code
def yX11_givesOf : MethodName := ⟨RX11, "givesOf", "(II)I"⟩
abbrev cX11_gives : ByteArray := prog_13_method_24_code
def yX11_gives : MethodName := ⟨RX11, "gives", "(II)I"⟩
abbrev cX11_momentsOf : ByteArray := prog_13_method_25_code
def yX11_momentsOf : MethodName := ⟨RX11, "momentsOf", "(IIII)I"⟩
abbrev cX11_wayOf : ByteArray := prog_13_method_26_code
def yX11_wayOf : MethodName := ⟨RX11, "wayOf", "(II)I"⟩
abbrev cX11_way : ByteArray := prog_13_method_27_code
def yX11_way : MethodName := ⟨RX11, "way", "(II)I"⟩
abbrev cX11_handfulTakes : ByteArray := prog_13_method_28_code
def yX11_handfulTakes : MethodName := ⟨RX11, "handfulTakes", "(I)I"⟩
abbrev cX11_rest : ByteArray := prog_13_method_29_code
def yX11_rest : MethodName := ⟨RX11, "rest", "(II)I"⟩
abbrev cX11_handful : ByteArray := prog_13_method_30_code
def yX11_handful : MethodName := ⟨RX11, "handful", "(II)I"⟩
abbrev cX11_go : ByteArray := prog_13_method_31_code
def yX11_go : MethodName := ⟨RX11, "go", "(II)I"⟩
abbrev cX11_atMost : ByteArray := prog_13_method_32_code
def yX11_atMost : MethodName := ⟨RX11, "atMost", "(II)I"⟩
abbrev cX11_pickNow : ByteArray := prog_13_method_33_code
def yX11_pickNow : MethodName := ⟨RX11, "pickNow", "(III)I"⟩
abbrev cX11_pick : ByteArray := prog_13_method_34_code
def yX11_pick : MethodName := ⟨RX11, "pick", "(III)I"⟩
abbrev cX11_stick : ByteArray := prog_13_method_35_code
def yX11_stick : MethodName := ⟨RX11, "stick", "(IZ)I"⟩
abbrev cX11_pour : ByteArray := prog_13_method_36_code
def yX11_pour : MethodName := ⟨RX11, "pour", "(I)I"⟩
abbrev cX11_ripen : ByteArray := prog_13_method_37_code
def yX11_ripen : MethodName := ⟨RX11, "ripen", "(IZ)V"⟩
abbrev cX11_dayNow : ByteArray := prog_13_method_38_code
def yX11_dayNow : MethodName := ⟨RX11, "dayNow", "(Z)V"⟩
abbrev cX11_day : ByteArray := prog_13_method_39_code
def yX11_day : MethodName := ⟨RX11, "day", "(IZ)I"⟩
abbrev cX11_draw : ByteArray := prog_13_method_40_code
def yX11_draw : MethodName := ⟨RX11, "draw", "(I)I"⟩
abbrev cX11_drift : ByteArray := prog_13_method_41_code
def yX11_drift : MethodName := ⟨RX11, "drift", "(I)I"⟩
abbrev cX11_save : ByteArray := prog_13_method_42_code
def yX11_save : MethodName := ⟨RX11, "save", "()V"⟩
abbrev cX11_putBack : ByteArray := prog_13_method_43_code
def yX11_putBack : MethodName := ⟨RX11, "putBack", "(I)V"⟩
abbrev cX11_putAllBack : ByteArray := prog_13_method_44_code
def yX11_putAllBack : MethodName := ⟨RX11, "putAllBack", "()V"⟩
abbrev cX11_length : ByteArray := prog_13_method_45_code
def yX11_length : MethodName := ⟨RX11, "length", "(III)I"⟩
abbrev cX11_findGains : ByteArray := prog_13_method_46_code
def yX11_findGains : MethodName := ⟨RX11, "findGains", "(II)V"⟩
abbrev cX11_stateOf : ByteArray := prog_13_method_47_code
def yX11_stateOf : MethodName := ⟨RX11, "stateOf", "(III)I"⟩
abbrev cX11_wayBetween : ByteArray := prog_13_method_48_code
def yX11_wayBetween : MethodName := ⟨RX11, "wayBetween", "(III)I"⟩
abbrev cX11_byNext : ByteArray := prog_13_method_49_code
def yX11_byNext : MethodName := ⟨RX11, "byNext", "(IIIIII)I"⟩
abbrev cX11_findMost : ByteArray := prog_13_method_50_code
def yX11_findMost : MethodName := ⟨RX11, "findMost", "(II)V"⟩
abbrev cX11_best : ByteArray := prog_13_method_51_code
def yX11_best : MethodName := ⟨RX11, "best", "(IIII)I"⟩
abbrev cX11_findCans : ByteArray := prog_13_method_52_code
def yX11_findCans : MethodName := ⟨RX11, "findCans", "(I)V"⟩
abbrev cX11_figure : ByteArray := prog_13_method_53_code
def yX11_figure : MethodName := ⟨RX11, "figure", "(II)I"⟩
abbrev cX11_allBy : ByteArray := prog_13_method_54_code
def yX11_allBy : MethodName := ⟨RX11, "allBy", "(I)I"⟩
abbrev cX11_where : ByteArray := prog_13_method_55_code
def yX11_where : MethodName := ⟨RX11, "where", "(II)I"⟩
abbrev cX11_rivalHas : ByteArray := prog_13_method_56_code
def yX11_rivalHas : MethodName := ⟨RX11, "rivalHas", "(IIIIIZ)I"⟩
abbrev cX11_bestAgainst : ByteArray := prog_13_method_57_code
def yX11_bestAgainst : MethodName := ⟨RX11, "bestAgainst", "(IIIIIZ)I"⟩
abbrev cX11_rivals : ByteArray := prog_13_method_58_code
def yX11_rivals : MethodName := ⟨RX11, "rivals", "(IIII)I"⟩
abbrev cX11_again : ByteArray := prog_13_method_59_code
def yX11_again : MethodName := ⟨RX11, "again", "(III)I"⟩
abbrev cX11_odds : ByteArray := prog_13_method_60_code
def yX11_odds : MethodName := ⟨RX11, "odds", "(IIII)I"⟩
abbrev cX11_bestOf : ByteArray := prog_13_method_61_code
def yX11_bestOf : MethodName := ⟨RX11, "bestOf", "(II)I"⟩
abbrev cX11_whom : ByteArray := prog_13_method_62_code
def yX11_whom : MethodName := ⟨RX11, "whom", "(II)I"⟩
abbrev cX11_left : ByteArray := prog_13_method_63_code
def yX11_left : MethodName := ⟨RX11, "left", "(III)I"⟩
abbrev cX11_isLeft : ByteArray := prog_13_method_64_code
def yX11_isLeft : MethodName := ⟨RX11, "isLeft", "(II)Z"⟩
abbrev cX11_wasVisited : ByteArray := prog_13_method_65_code
def yX11_wasVisited : MethodName := ⟨RX11, "wasVisited", "(III)Z"⟩
abbrev cX11_visited : ByteArray := prog_13_method_66_code
def yX11_visited : MethodName := ⟨RX11, "visited", "(II)I"⟩
abbrev cX11_can : ByteArray := prog_13_method_67_code
def yX11_can : MethodName := ⟨RX11, "can", "(IIII)I"⟩
abbrev cX11_isCan : ByteArray := prog_13_method_68_code
def yX11_isCan : MethodName := ⟨RX11, "isCan", "(II)Z"⟩
abbrev cX11_eats : ByteArray := prog_13_method_69_code
def yX11_eats : MethodName := ⟨RX11, "eats", "(I)I"⟩
abbrev cX11_write : ByteArray := prog_13_method_70_code
def yX11_write : MethodName := ⟨RX11, "write", "(III)I"⟩
abbrev cX11_judge : ByteArray := prog_13_method_71_code
def yX11_judge : MethodName := ⟨RX11, "judge", "()I"⟩
abbrev cX11_tear : ByteArray := prog_13_method_72_code
def yX11_tear : MethodName := ⟨RX11, "tear", "()I"⟩
abbrev cX11_seed : ByteArray := prog_13_method_73_code
def yX11_seed : MethodName := ⟨RX11, "seed", "(I)I"⟩
abbrev cX11_keep : ByteArray := prog_13_method_74_code
def yX11_keep : MethodName := ⟨RX11, "keep", "(I)I"⟩
abbrev cX11_goBack : ByteArray := prog_13_method_75_code
def yX11_goBack : MethodName := ⟨RX11, "goBack", "(I)I"⟩
def RJ9 : String := "java/lang/Math"
def TJ9 : u_T := fun k => match k with
  | _ => ("", "", "", false)
def tyJ9 : Nat → FieldType := fun k => match k with
  | _ => .int
abbrev wsJ90 : List Cond := u_ws RJ9 TJ9 0
theorem nmJ9 : ∀ a, a < 0 → ∀ b, b < 0 → a ≠ b → (TJ9 a).2.1 ≠ (TJ9 b).2.1 := by decide +kernel
theorem tyJ9_ok : ∀ k, k < 0 → parseFieldDescriptor (TJ9 k).2.2.1 = some (tyJ9 k) := by decide +kernel
abbrev cJ9_abs_0f7a4 : ByteArray := prog_14_method_59_code
def yJ9_abs_0f7a4 : MethodName := ⟨RJ9, "abs", "(I)I"⟩
abbrev cJ9_max_7cf53 : ByteArray := prog_14_method_65_code
def yJ9_max_7cf53 : MethodName := ⟨RJ9, "max", "(II)I"⟩
abbrev cJ9_min_7cf53 : ByteArray := prog_14_method_69_code
def yJ9_min_7cf53 : MethodName := ⟨RJ9, "min", "(II)I"⟩
def RJ10 : String := "java/lang/System"
def TJ10 : u_T := fun k => match k with
  | _ => ("", "", "", false)
def tyJ10 : Nat → FieldType := fun k => match k with
  | _ => .int
abbrev wsJ100 : List Cond := u_ws RJ10 TJ10 0
theorem nmJ10 : ∀ a, a < 0 → ∀ b, b < 0 → a ≠ b → (TJ10 a).2.1 ≠ (TJ10 b).2.1 := by decide +kernel
theorem tyJ10_ok : ∀ k, k < 0 → parseFieldDescriptor (TJ10 k).2.2.1 = some (tyJ10 k) := by decide +kernel
def RJ7 : String := "java/util/Arrays"
def TJ7 : u_T := fun k => match k with
  | _ => ("", "", "", false)
def tyJ7 : Nat → FieldType := fun k => match k with
  | _ => .int
abbrev wsJ70 : List Cond := u_ws RJ7 TJ7 0
theorem nmJ7 : ∀ a, a < 0 → ∀ b, b < 0 → a ≠ b → (TJ7 a).2.1 ≠ (TJ7 b).2.1 := by decide +kernel
theorem tyJ7_ok : ∀ k, k < 0 → parseFieldDescriptor (TJ7 k).2.2.1 = some (tyJ7 k) := by decide +kernel
abbrev cJ7_fill_53178 : ByteArray := prog_16_method_103_code
def yJ7_fill_53178 : MethodName := ⟨RJ7, "fill", "([II)V"⟩
def RL : String := "BerryLaneLaw"
abbrev cL_law : ByteArray := code
def yL_law : MethodName := ⟨RL, "law", "([I)Z"⟩
abbrev vwCl : List vw_C := [(RX0, TX0, 16), (RX1, TX1, 6), (RX2, TX2, 5), (RX3, TX3, 7), (RX4, TX4, 4), (RX5, TX5, 8), (RX6, TX6, 7), (RX7, TX7, 8), (RX8, TX8, 8), (RX9, TX9, 6), (RX10, TX10, 11), (RX11, TX11, 64)]
