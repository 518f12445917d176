section
-- ===== PART A: goes FIRST, ahead of the names: the tables' words, and 'selects' of the private methods out of them =====
/-- a private method of a class that the tables say can be made, by its rows of tables_1 -/
def lw_okq (q : MethodName × Nat) : Prop := (q.1.cls ≠ "java/lang/invoke/MethodHandle" ∧ q.1.cls ≠ "java/lang/invoke/VarHandle") ∧ Cond.instantiable q.1.cls q.2 ∈ tables_1 ∧ Cond.privateMethod q.1 ∈ tables_1 ∧ Cond.instanceMethod q.1 ∈ tables_1
theorem lw_p0 : lw_okq (⟨"BerryLane$Reader", "skipBlanks", "()V"⟩, 8) := ⟨⟨by decide +kernel, by decide +kernel⟩, List.mem_of_getElem? (i := 25) (by decide +kernel), List.mem_of_getElem? (i := 504) (by decide +kernel), List.mem_of_getElem? (i := 505) (by decide +kernel)⟩
theorem lw_p1 : lw_okq (⟨"BerryLane$Reader", "readClause", "()V"⟩, 8) := ⟨⟨by decide +kernel, by decide +kernel⟩, List.mem_of_getElem? (i := 25) (by decide +kernel), List.mem_of_getElem? (i := 508) (by decide +kernel), List.mem_of_getElem? (i := 509) (by decide +kernel)⟩
theorem lw_p2 : lw_okq (⟨"BerryLane$Reader", "faultOfWord", "(C)I"⟩, 8) := ⟨⟨by decide +kernel, by decide +kernel⟩, List.mem_of_getElem? (i := 25) (by decide +kernel), List.mem_of_getElem? (i := 512) (by decide +kernel), List.mem_of_getElem? (i := 513) (by decide +kernel)⟩
theorem lw_p3 : lw_okq (⟨"BerryLane$Reader", "note", "(II)V"⟩, 8) := ⟨⟨by decide +kernel, by decide +kernel⟩, List.mem_of_getElem? (i := 25) (by decide +kernel), List.mem_of_getElem? (i := 520) (by decide +kernel), List.mem_of_getElem? (i := 521) (by decide +kernel)⟩
theorem lw_p4 : lw_okq (⟨"BerryLane$Reader", "readNumbers", "([I)V"⟩, 8) := ⟨⟨by decide +kernel, by decide +kernel⟩, List.mem_of_getElem? (i := 25) (by decide +kernel), List.mem_of_getElem? (i := 535) (by decide +kernel), List.mem_of_getElem? (i := 536) (by decide +kernel)⟩
theorem lw_p5 : lw_okq (⟨"BerryLane$Reader", "readNumber", "(II)I"⟩, 8) := ⟨⟨by decide +kernel, by decide +kernel⟩, List.mem_of_getElem? (i := 25) (by decide +kernel), List.mem_of_getElem? (i := 539) (by decide +kernel), List.mem_of_getElem? (i := 540) (by decide +kernel)⟩
theorem lw_p6 : lw_okq (⟨"BerryLane$Reader", "take", "(C)V"⟩, 8) := ⟨⟨by decide +kernel, by decide +kernel⟩, List.mem_of_getElem? (i := 25) (by decide +kernel), List.mem_of_getElem? (i := 544) (by decide +kernel), List.mem_of_getElem? (i := 545) (by decide +kernel)⟩
theorem lw_p7 : lw_okq (⟨"BerryLane$Reader", "takeBush", "()V"⟩, 8) := ⟨⟨by decide +kernel, by decide +kernel⟩, List.mem_of_getElem? (i := 25) (by decide +kernel), List.mem_of_getElem? (i := 548) (by decide +kernel), List.mem_of_getElem? (i := 549) (by decide +kernel)⟩
theorem lw_p8 : lw_okq (⟨"BerryLane$Reader", "takePicker", "()V"⟩, 8) := ⟨⟨by decide +kernel, by decide +kernel⟩, List.mem_of_getElem? (i := 25) (by decide +kernel), List.mem_of_getElem? (i := 552) (by decide +kernel), List.mem_of_getElem? (i := 553) (by decide +kernel)⟩
theorem lw_p9 : lw_okq (⟨"BerryLane", "isBush", "(I)Z"⟩, 11) := ⟨⟨by decide +kernel, by decide +kernel⟩, List.mem_of_getElem? (i := 17) (by decide +kernel), List.mem_of_getElem? (i := 592) (by decide +kernel), List.mem_of_getElem? (i := 593) (by decide +kernel)⟩
theorem lw_p10 : lw_okq (⟨"BerryLane", "isPicker", "(I)Z"⟩, 11) := ⟨⟨by decide +kernel, by decide +kernel⟩, List.mem_of_getElem? (i := 17) (by decide +kernel), List.mem_of_getElem? (i := 601) (by decide +kernel), List.mem_of_getElem? (i := 602) (by decide +kernel)⟩
theorem lw_p11 : lw_okq (⟨"BerryLane$Lane", "draw", "(I)I"⟩, 7) := ⟨⟨by decide +kernel, by decide +kernel⟩, List.mem_of_getElem? (i := 31) (by decide +kernel), List.mem_of_getElem? (i := 687) (by decide +kernel), List.mem_of_getElem? (i := 688) (by decide +kernel)⟩
theorem lw_p12 : lw_okq (⟨"BerryLane$BestWay", "measureGains", "(LBerryLane$Picker;LBerryLane$Bush;I)V"⟩, 16) := ⟨⟨by decide +kernel, by decide +kernel⟩, List.mem_of_getElem? (i := 240) (by decide +kernel), List.mem_of_getElem? (i := 716) (by decide +kernel), List.mem_of_getElem? (i := 717) (by decide +kernel)⟩
theorem lw_p13 : lw_okq (⟨"BerryLane$BestWay", "measureWays", "(LBerryLane$Lane;LBerryLane$Picker;I)V"⟩, 16) := ⟨⟨by decide +kernel, by decide +kernel⟩, List.mem_of_getElem? (i := 240) (by decide +kernel), List.mem_of_getElem? (i := 723) (by decide +kernel), List.mem_of_getElem? (i := 724) (by decide +kernel)⟩
theorem lw_p14 : lw_okq (⟨"BerryLane$BestWay", "fillShortest", "(I)V"⟩, 16) := ⟨⟨by decide +kernel, by decide +kernel⟩, List.mem_of_getElem? (i := 240) (by decide +kernel), List.mem_of_getElem? (i := 729) (by decide +kernel), List.mem_of_getElem? (i := 730) (by decide +kernel)⟩
theorem lw_p15 : lw_okq (⟨"BerryLane$BestWay", "fillGathered", "(III)V"⟩, 16) := ⟨⟨by decide +kernel, by decide +kernel⟩, List.mem_of_getElem? (i := 240) (by decide +kernel), List.mem_of_getElem? (i := 734) (by decide +kernel), List.mem_of_getElem? (i := 735) (by decide +kernel)⟩
def lw_privs_1 : List (MethodName × Nat) := [(⟨"BerryLane$Reader", "skipBlanks", "()V"⟩, 8), (⟨"BerryLane$Reader", "readClause", "()V"⟩, 8), (⟨"BerryLane$Reader", "faultOfWord", "(C)I"⟩, 8), (⟨"BerryLane$Reader", "note", "(II)V"⟩, 8), (⟨"BerryLane$Reader", "readNumbers", "([I)V"⟩, 8), (⟨"BerryLane$Reader", "readNumber", "(II)I"⟩, 8), (⟨"BerryLane$Reader", "take", "(C)V"⟩, 8), (⟨"BerryLane$Reader", "takeBush", "()V"⟩, 8), (⟨"BerryLane$Reader", "takePicker", "()V"⟩, 8), (⟨"BerryLane", "isBush", "(I)Z"⟩, 11), (⟨"BerryLane", "isPicker", "(I)Z"⟩, 11), (⟨"BerryLane$Lane", "draw", "(I)I"⟩, 7), (⟨"BerryLane$BestWay", "measureGains", "(LBerryLane$Picker;LBerryLane$Bush;I)V"⟩, 16), (⟨"BerryLane$BestWay", "measureWays", "(LBerryLane$Lane;LBerryLane$Picker;I)V"⟩, 16), (⟨"BerryLane$BestWay", "fillShortest", "(I)V"⟩, 16), (⟨"BerryLane$BestWay", "fillGathered", "(III)V"⟩, 16)]
theorem lw_r1 : ∀ q ∈ lw_privs_1, lw_okq q := List.forall_mem_cons.mpr ⟨lw_p0, List.forall_mem_cons.mpr ⟨lw_p1, List.forall_mem_cons.mpr ⟨lw_p2, List.forall_mem_cons.mpr ⟨lw_p3, List.forall_mem_cons.mpr ⟨lw_p4, List.forall_mem_cons.mpr ⟨lw_p5, List.forall_mem_cons.mpr ⟨lw_p6, List.forall_mem_cons.mpr ⟨lw_p7, List.forall_mem_cons.mpr ⟨lw_p8, List.forall_mem_cons.mpr ⟨lw_p9, List.forall_mem_cons.mpr ⟨lw_p10, List.forall_mem_cons.mpr ⟨lw_p11, List.forall_mem_cons.mpr ⟨lw_p12, List.forall_mem_cons.mpr ⟨lw_p13, List.forall_mem_cons.mpr ⟨lw_p14, List.forall_mem_cons.mpr ⟨lw_p15, fun _ h => absurd h List.not_mem_nil⟩⟩⟩⟩⟩⟩⟩⟩⟩⟩⟩⟩⟩⟩⟩⟩
theorem lw_p16 : lw_okq (⟨"BerryLane$BestWay", "mostBeyond", "(III)I"⟩, 16) := ⟨⟨by decide +kernel, by decide +kernel⟩, List.mem_of_getElem? (i := 240) (by decide +kernel), List.mem_of_getElem? (i := 741) (by decide +kernel), List.mem_of_getElem? (i := 742) (by decide +kernel)⟩
theorem lw_p17 : lw_okq (⟨"BerryLane$BestWay", "findNextStop", "()V"⟩, 16) := ⟨⟨by decide +kernel, by decide +kernel⟩, List.mem_of_getElem? (i := 240) (by decide +kernel), List.mem_of_getElem? (i := 749) (by decide +kernel), List.mem_of_getElem? (i := 750) (by decide +kernel)⟩
theorem lw_p18 : lw_okq (⟨"BerryLane$BestWay", "fewestHandfuls", "(I)I"⟩, 16) := ⟨⟨by decide +kernel, by decide +kernel⟩, List.mem_of_getElem? (i := 240) (by decide +kernel), List.mem_of_getElem? (i := 753) (by decide +kernel), List.mem_of_getElem? (i := 754) (by decide +kernel)⟩
theorem lw_p19 : lw_okq (⟨"BerryLane$BestWay", "addStop", "(II)V"⟩, 16) := ⟨⟨by decide +kernel, by decide +kernel⟩, List.mem_of_getElem? (i := 240) (by decide +kernel), List.mem_of_getElem? (i := 757) (by decide +kernel), List.mem_of_getElem? (i := 758) (by decide +kernel)⟩
theorem lw_p20 : lw_okq (⟨"BerryLane$Places", "measure", "(LBerryLane$Lane;I)V"⟩, 7) := ⟨⟨by decide +kernel, by decide +kernel⟩, List.mem_of_getElem? (i := 301) (by decide +kernel), List.mem_of_getElem? (i := 769) (by decide +kernel), List.mem_of_getElem? (i := 770) (by decide +kernel)⟩
theorem lw_p21 : lw_okq (⟨"BerryLane$Places", "countRows", "()I"⟩, 7) := ⟨⟨by decide +kernel, by decide +kernel⟩, List.mem_of_getElem? (i := 301) (by decide +kernel), List.mem_of_getElem? (i := 782) (by decide +kernel), List.mem_of_getElem? (i := 783) (by decide +kernel)⟩
theorem lw_p22 : lw_okq (⟨"BerryLane$Places", "sumOfRow", "()I"⟩, 7) := ⟨⟨by decide +kernel, by decide +kernel⟩, List.mem_of_getElem? (i := 301) (by decide +kernel), List.mem_of_getElem? (i := 786) (by decide +kernel), List.mem_of_getElem? (i := 787) (by decide +kernel)⟩
theorem lw_p23 : lw_okq (⟨"BerryLane$Places", "stepRow", "()V"⟩, 7) := ⟨⟨by decide +kernel, by decide +kernel⟩, List.mem_of_getElem? (i := 301) (by decide +kernel), List.mem_of_getElem? (i := 793) (by decide +kernel), List.mem_of_getElem? (i := 794) (by decide +kernel)⟩
theorem lw_p24 : lw_okq (⟨"BerryLane$Contest", "takeTurn", "(LBerryLane$Lane;IIIZ)Z"⟩, 5) := ⟨⟨by decide +kernel, by decide +kernel⟩, List.mem_of_getElem? (i := 332) (by decide +kernel), List.mem_of_getElem? (i := 809) (by decide +kernel), List.mem_of_getElem? (i := 810) (by decide +kernel)⟩
theorem lw_p25 : lw_okq (⟨"BerryLane$Contest", "shareOf", "(LBerryLane$Picker;LBerryLane$Picker;IZ)I"⟩, 5) := ⟨⟨by decide +kernel, by decide +kernel⟩, List.mem_of_getElem? (i := 332) (by decide +kernel), List.mem_of_getElem? (i := 814) (by decide +kernel), List.mem_of_getElem? (i := 815) (by decide +kernel)⟩
theorem lw_p26 : lw_okq (⟨"BerryLane", "ripeAfterRow", "(LBerryLane$Bush;II)I"⟩, 11) := ⟨⟨by decide +kernel, by decide +kernel⟩, List.mem_of_getElem? (i := 17) (by decide +kernel), List.mem_of_getElem? (i := 834) (by decide +kernel), List.mem_of_getElem? (i := 835) (by decide +kernel)⟩
theorem lw_p27 : lw_okq (⟨"BerryLane", "moreByStick", "(LBerryLane$Picker;I)I"⟩, 11) := ⟨⟨by decide +kernel, by decide +kernel⟩, List.mem_of_getElem? (i := 17) (by decide +kernel), List.mem_of_getElem? (i := 842) (by decide +kernel), List.mem_of_getElem? (i := 843) (by decide +kernel)⟩
theorem lw_p28 : lw_okq (⟨"BerryLane$Seen", "agreesAfterVisit", "(LBerryLane$Law;III)Z"⟩, 8) := ⟨⟨by decide +kernel, by decide +kernel⟩, List.mem_of_getElem? (i := 360) (by decide +kernel), List.mem_of_getElem? (i := 868) (by decide +kernel), List.mem_of_getElem? (i := 869) (by decide +kernel)⟩
theorem lw_p29 : lw_okq (⟨"BerryLane$Seen", "agreesOnDay", "(LBerryLane$Bush;II)Z"⟩, 8) := ⟨⟨by decide +kernel, by decide +kernel⟩, List.mem_of_getElem? (i := 360) (by decide +kernel), List.mem_of_getElem? (i := 872) (by decide +kernel), List.mem_of_getElem? (i := 873) (by decide +kernel)⟩
theorem lw_p30 : lw_okq (⟨"BerryLane$Seen", "cansAgree", "(LBerryLane$Lane;I)Z"⟩, 8) := ⟨⟨by decide +kernel, by decide +kernel⟩, List.mem_of_getElem? (i := 360) (by decide +kernel), List.mem_of_getElem? (i := 890) (by decide +kernel), List.mem_of_getElem? (i := 891) (by decide +kernel)⟩
theorem lw_p31 : lw_okq (⟨"BerryLaneModel", "here", "()I"⟩, 64) := ⟨⟨by decide +kernel, by decide +kernel⟩, List.mem_of_getElem? (i := 929) (by decide +kernel), List.mem_of_getElem? (i := 1142) (by decide +kernel), List.mem_of_getElem? (i := 1143) (by decide +kernel)⟩
def lw_privs_2 : List (MethodName × Nat) := [(⟨"BerryLane$BestWay", "mostBeyond", "(III)I"⟩, 16), (⟨"BerryLane$BestWay", "findNextStop", "()V"⟩, 16), (⟨"BerryLane$BestWay", "fewestHandfuls", "(I)I"⟩, 16), (⟨"BerryLane$BestWay", "addStop", "(II)V"⟩, 16), (⟨"BerryLane$Places", "measure", "(LBerryLane$Lane;I)V"⟩, 7), (⟨"BerryLane$Places", "countRows", "()I"⟩, 7), (⟨"BerryLane$Places", "sumOfRow", "()I"⟩, 7), (⟨"BerryLane$Places", "stepRow", "()V"⟩, 7), (⟨"BerryLane$Contest", "takeTurn", "(LBerryLane$Lane;IIIZ)Z"⟩, 5), (⟨"BerryLane$Contest", "shareOf", "(LBerryLane$Picker;LBerryLane$Picker;IZ)I"⟩, 5), (⟨"BerryLane", "ripeAfterRow", "(LBerryLane$Bush;II)I"⟩, 11), (⟨"BerryLane", "moreByStick", "(LBerryLane$Picker;I)I"⟩, 11), (⟨"BerryLane$Seen", "agreesAfterVisit", "(LBerryLane$Law;III)Z"⟩, 8), (⟨"BerryLane$Seen", "agreesOnDay", "(LBerryLane$Bush;II)Z"⟩, 8), (⟨"BerryLane$Seen", "cansAgree", "(LBerryLane$Lane;I)Z"⟩, 8), (⟨"BerryLaneModel", "here", "()I"⟩, 64)]
theorem lw_r2 : ∀ q ∈ lw_privs_2, lw_okq q := List.forall_mem_cons.mpr ⟨lw_p16, List.forall_mem_cons.mpr ⟨lw_p17, List.forall_mem_cons.mpr ⟨lw_p18, List.forall_mem_cons.mpr ⟨lw_p19, List.forall_mem_cons.mpr ⟨lw_p20, List.forall_mem_cons.mpr ⟨lw_p21, List.forall_mem_cons.mpr ⟨lw_p22, List.forall_mem_cons.mpr ⟨lw_p23, List.forall_mem_cons.mpr ⟨lw_p24, List.forall_mem_cons.mpr ⟨lw_p25, List.forall_mem_cons.mpr ⟨lw_p26, List.forall_mem_cons.mpr ⟨lw_p27, List.forall_mem_cons.mpr ⟨lw_p28, List.forall_mem_cons.mpr ⟨lw_p29, List.forall_mem_cons.mpr ⟨lw_p30, List.forall_mem_cons.mpr ⟨lw_p31, fun _ h => absurd h List.not_mem_nil⟩⟩⟩⟩⟩⟩⟩⟩⟩⟩⟩⟩⟩⟩⟩⟩
theorem lw_p32 : lw_okq (⟨"BerryLaneModel", "takeClause", "()I"⟩, 64) := ⟨⟨by decide +kernel, by decide +kernel⟩, List.mem_of_getElem? (i := 929) (by decide +kernel), List.mem_of_getElem? (i := 1146) (by decide +kernel), List.mem_of_getElem? (i := 1147) (by decide +kernel)⟩
theorem lw_p33 : lw_okq (⟨"BerryLaneModel", "fails", "(II)I"⟩, 64) := ⟨⟨by decide +kernel, by decide +kernel⟩, List.mem_of_getElem? (i := 929) (by decide +kernel), List.mem_of_getElem? (i := 1150) (by decide +kernel), List.mem_of_getElem? (i := 1151) (by decide +kernel)⟩
theorem lw_p34 : lw_okq (⟨"BerryLaneModel", "takeLaw", "()I"⟩, 64) := ⟨⟨by decide +kernel, by decide +kernel⟩, List.mem_of_getElem? (i := 929) (by decide +kernel), List.mem_of_getElem? (i := 1154) (by decide +kernel), List.mem_of_getElem? (i := 1155) (by decide +kernel)⟩
theorem lw_p35 : lw_okq (⟨"BerryLaneModel", "into", "([IIII)I"⟩, 64) := ⟨⟨by decide +kernel, by decide +kernel⟩, List.mem_of_getElem? (i := 929) (by decide +kernel), List.mem_of_getElem? (i := 1158) (by decide +kernel), List.mem_of_getElem? (i := 1159) (by decide +kernel)⟩
theorem lw_p36 : lw_okq (⟨"BerryLaneModel", "takeNumber", "(II)I"⟩, 64) := ⟨⟨by decide +kernel, by decide +kernel⟩, List.mem_of_getElem? (i := 929) (by decide +kernel), List.mem_of_getElem? (i := 1162) (by decide +kernel), List.mem_of_getElem? (i := 1163) (by decide +kernel)⟩
theorem lw_p37 : lw_okq (⟨"BerryLaneModel", "takeBush", "()I"⟩, 64) := ⟨⟨by decide +kernel, by decide +kernel⟩, List.mem_of_getElem? (i := 929) (by decide +kernel), List.mem_of_getElem? (i := 1168) (by decide +kernel), List.mem_of_getElem? (i := 1169) (by decide +kernel)⟩
theorem lw_p38 : lw_okq (⟨"BerryLaneModel", "takePicker", "()I"⟩, 64) := ⟨⟨by decide +kernel, by decide +kernel⟩, List.mem_of_getElem? (i := 929) (by decide +kernel), List.mem_of_getElem? (i := 1172) (by decide +kernel), List.mem_of_getElem? (i := 1173) (by decide +kernel)⟩
theorem lw_p39 : lw_okq (⟨"BerryLaneModel", "takeRead", "()V"⟩, 64) := ⟨⟨by decide +kernel, by decide +kernel⟩, List.mem_of_getElem? (i := 929) (by decide +kernel), List.mem_of_getElem? (i := 1176) (by decide +kernel), List.mem_of_getElem? (i := 1177) (by decide +kernel)⟩
theorem lw_p40 : lw_okq (⟨"BerryLaneModel", "ripeInAll", "()I"⟩, 64) := ⟨⟨by decide +kernel, by decide +kernel⟩, List.mem_of_getElem? (i := 929) (by decide +kernel), List.mem_of_getElem? (i := 1188) (by decide +kernel), List.mem_of_getElem? (i := 1189) (by decide +kernel)⟩
theorem lw_p41 : lw_okq (⟨"BerryLaneModel", "isBush", "(I)Z"⟩, 64) := ⟨⟨by decide +kernel, by decide +kernel⟩, List.mem_of_getElem? (i := 929) (by decide +kernel), List.mem_of_getElem? (i := 1196) (by decide +kernel), List.mem_of_getElem? (i := 1197) (by decide +kernel)⟩
theorem lw_p42 : lw_okq (⟨"BerryLaneModel", "isPicker", "(I)Z"⟩, 64) := ⟨⟨by decide +kernel, by decide +kernel⟩, List.mem_of_getElem? (i := 929) (by decide +kernel), List.mem_of_getElem? (i := 1205) (by decide +kernel), List.mem_of_getElem? (i := 1206) (by decide +kernel)⟩
theorem lw_p43 : lw_okq (⟨"BerryLaneModel", "givesOf", "(II)I"⟩, 64) := ⟨⟨by decide +kernel, by decide +kernel⟩, List.mem_of_getElem? (i := 929) (by decide +kernel), List.mem_of_getElem? (i := 1213) (by decide +kernel), List.mem_of_getElem? (i := 1214) (by decide +kernel)⟩
theorem lw_p44 : lw_okq (⟨"BerryLaneModel", "wayOf", "(II)I"⟩, 64) := ⟨⟨by decide +kernel, by decide +kernel⟩, List.mem_of_getElem? (i := 929) (by decide +kernel), List.mem_of_getElem? (i := 1221) (by decide +kernel), List.mem_of_getElem? (i := 1222) (by decide +kernel)⟩
theorem lw_p45 : lw_okq (⟨"BerryLaneModel", "pickNow", "(III)I"⟩, 64) := ⟨⟨by decide +kernel, by decide +kernel⟩, List.mem_of_getElem? (i := 929) (by decide +kernel), List.mem_of_getElem? (i := 1237) (by decide +kernel), List.mem_of_getElem? (i := 1238) (by decide +kernel)⟩
theorem lw_p46 : lw_okq (⟨"BerryLaneModel", "handful", "(II)I"⟩, 64) := ⟨⟨by decide +kernel, by decide +kernel⟩, List.mem_of_getElem? (i := 929) (by decide +kernel), List.mem_of_getElem? (i := 1241) (by decide +kernel), List.mem_of_getElem? (i := 1242) (by decide +kernel)⟩
theorem lw_p47 : lw_okq (⟨"BerryLaneModel", "handfulTakes", "(I)I"⟩, 64) := ⟨⟨by decide +kernel, by decide +kernel⟩, List.mem_of_getElem? (i := 929) (by decide +kernel), List.mem_of_getElem? (i := 1252) (by decide +kernel), List.mem_of_getElem? (i := 1253) (by decide +kernel)⟩
def lw_privs_3 : List (MethodName × Nat) := [(⟨"BerryLaneModel", "takeClause", "()I"⟩, 64), (⟨"BerryLaneModel", "fails", "(II)I"⟩, 64), (⟨"BerryLaneModel", "takeLaw", "()I"⟩, 64), (⟨"BerryLaneModel", "into", "([IIII)I"⟩, 64), (⟨"BerryLaneModel", "takeNumber", "(II)I"⟩, 64), (⟨"BerryLaneModel", "takeBush", "()I"⟩, 64), (⟨"BerryLaneModel", "takePicker", "()I"⟩, 64), (⟨"BerryLaneModel", "takeRead", "()V"⟩, 64), (⟨"BerryLaneModel", "ripeInAll", "()I"⟩, 64), (⟨"BerryLaneModel", "isBush", "(I)Z"⟩, 64), (⟨"BerryLaneModel", "isPicker", "(I)Z"⟩, 64), (⟨"BerryLaneModel", "givesOf", "(II)I"⟩, 64), (⟨"BerryLaneModel", "wayOf", "(II)I"⟩, 64), (⟨"BerryLaneModel", "pickNow", "(III)I"⟩, 64), (⟨"BerryLaneModel", "handful", "(II)I"⟩, 64), (⟨"BerryLaneModel", "handfulTakes", "(I)I"⟩, 64)]
theorem lw_r3 : ∀ q ∈ lw_privs_3, lw_okq q := List.forall_mem_cons.mpr ⟨lw_p32, List.forall_mem_cons.mpr ⟨lw_p33, List.forall_mem_cons.mpr ⟨lw_p34, List.forall_mem_cons.mpr ⟨lw_p35, List.forall_mem_cons.mpr ⟨lw_p36, List.forall_mem_cons.mpr ⟨lw_p37, List.forall_mem_cons.mpr ⟨lw_p38, List.forall_mem_cons.mpr ⟨lw_p39, List.forall_mem_cons.mpr ⟨lw_p40, List.forall_mem_cons.mpr ⟨lw_p41, List.forall_mem_cons.mpr ⟨lw_p42, List.forall_mem_cons.mpr ⟨lw_p43, List.forall_mem_cons.mpr ⟨lw_p44, List.forall_mem_cons.mpr ⟨lw_p45, List.forall_mem_cons.mpr ⟨lw_p46, List.forall_mem_cons.mpr ⟨lw_p47, fun _ h => absurd h List.not_mem_nil⟩⟩⟩⟩⟩⟩⟩⟩⟩⟩⟩⟩⟩⟩⟩⟩
theorem lw_p48 : lw_okq (⟨"BerryLaneModel", "dayNow", "(Z)V"⟩, 64) := ⟨⟨by decide +kernel, by decide +kernel⟩, List.mem_of_getElem? (i := 929) (by decide +kernel), List.mem_of_getElem? (i := 1270) (by decide +kernel), List.mem_of_getElem? (i := 1271) (by decide +kernel)⟩
theorem lw_p49 : lw_okq (⟨"BerryLaneModel", "ripen", "(IZ)V"⟩, 64) := ⟨⟨by decide +kernel, by decide +kernel⟩, List.mem_of_getElem? (i := 929) (by decide +kernel), List.mem_of_getElem? (i := 1274) (by decide +kernel), List.mem_of_getElem? (i := 1275) (by decide +kernel)⟩
theorem lw_p50 : lw_okq (⟨"BerryLaneModel", "draw", "(I)I"⟩, 64) := ⟨⟨by decide +kernel, by decide +kernel⟩, List.mem_of_getElem? (i := 929) (by decide +kernel), List.mem_of_getElem? (i := 1282) (by decide +kernel), List.mem_of_getElem? (i := 1283) (by decide +kernel)⟩
theorem lw_p51 : lw_okq (⟨"BerryLaneModel", "save", "()V"⟩, 64) := ⟨⟨by decide +kernel, by decide +kernel⟩, List.mem_of_getElem? (i := 929) (by decide +kernel), List.mem_of_getElem? (i := 1296) (by decide +kernel), List.mem_of_getElem? (i := 1297) (by decide +kernel)⟩
theorem lw_p52 : lw_okq (⟨"BerryLaneModel", "putBack", "(I)V"⟩, 64) := ⟨⟨by decide +kernel, by decide +kernel⟩, List.mem_of_getElem? (i := 929) (by decide +kernel), List.mem_of_getElem? (i := 1300) (by decide +kernel), List.mem_of_getElem? (i := 1301) (by decide +kernel)⟩
theorem lw_p53 : lw_okq (⟨"BerryLaneModel", "findMost", "(II)V"⟩, 64) := ⟨⟨by decide +kernel, by decide +kernel⟩, List.mem_of_getElem? (i := 929) (by decide +kernel), List.mem_of_getElem? (i := 1309) (by decide +kernel), List.mem_of_getElem? (i := 1310) (by decide +kernel)⟩
theorem lw_p54 : lw_okq (⟨"BerryLaneModel", "findGains", "(II)V"⟩, 64) := ⟨⟨by decide +kernel, by decide +kernel⟩, List.mem_of_getElem? (i := 929) (by decide +kernel), List.mem_of_getElem? (i := 1313) (by decide +kernel), List.mem_of_getElem? (i := 1314) (by decide +kernel)⟩
theorem lw_p55 : lw_okq (⟨"BerryLaneModel", "putAllBack", "()V"⟩, 64) := ⟨⟨by decide +kernel, by decide +kernel⟩, List.mem_of_getElem? (i := 929) (by decide +kernel), List.mem_of_getElem? (i := 1317) (by decide +kernel), List.mem_of_getElem? (i := 1318) (by decide +kernel)⟩
theorem lw_p56 : lw_okq (⟨"BerryLaneModel", "byNext", "(IIIIII)I"⟩, 64) := ⟨⟨by decide +kernel, by decide +kernel⟩, List.mem_of_getElem? (i := 929) (by decide +kernel), List.mem_of_getElem? (i := 1321) (by decide +kernel), List.mem_of_getElem? (i := 1322) (by decide +kernel)⟩
theorem lw_p57 : lw_okq (⟨"BerryLaneModel", "wayBetween", "(III)I"⟩, 64) := ⟨⟨by decide +kernel, by decide +kernel⟩, List.mem_of_getElem? (i := 929) (by decide +kernel), List.mem_of_getElem? (i := 1325) (by decide +kernel), List.mem_of_getElem? (i := 1326) (by decide +kernel)⟩
theorem lw_p58 : lw_okq (⟨"BerryLaneModel", "stateOf", "(III)I"⟩, 64) := ⟨⟨by decide +kernel, by decide +kernel⟩, List.mem_of_getElem? (i := 929) (by decide +kernel), List.mem_of_getElem? (i := 1333) (by decide +kernel), List.mem_of_getElem? (i := 1334) (by decide +kernel)⟩
theorem lw_p59 : lw_okq (⟨"BerryLaneModel", "findCans", "(I)V"⟩, 64) := ⟨⟨by decide +kernel, by decide +kernel⟩, List.mem_of_getElem? (i := 929) (by decide +kernel), List.mem_of_getElem? (i := 1341) (by decide +kernel), List.mem_of_getElem? (i := 1342) (by decide +kernel)⟩
theorem lw_p60 : lw_okq (⟨"BerryLaneModel", "allBy", "(I)I"⟩, 64) := ⟨⟨by decide +kernel, by decide +kernel⟩, List.mem_of_getElem? (i := 929) (by decide +kernel), List.mem_of_getElem? (i := 1345) (by decide +kernel), List.mem_of_getElem? (i := 1346) (by decide +kernel)⟩
theorem lw_p61 : lw_okq (⟨"BerryLaneModel", "figure", "(II)I"⟩, 64) := ⟨⟨by decide +kernel, by decide +kernel⟩, List.mem_of_getElem? (i := 929) (by decide +kernel), List.mem_of_getElem? (i := 1349) (by decide +kernel), List.mem_of_getElem? (i := 1350) (by decide +kernel)⟩
theorem lw_p62 : lw_okq (⟨"BerryLaneModel", "bestAgainst", "(IIIIIZ)I"⟩, 64) := ⟨⟨by decide +kernel, by decide +kernel⟩, List.mem_of_getElem? (i := 929) (by decide +kernel), List.mem_of_getElem? (i := 1358) (by decide +kernel), List.mem_of_getElem? (i := 1359) (by decide +kernel)⟩
theorem lw_p63 : lw_okq (⟨"BerryLaneModel", "rivalHas", "(IIIIIZ)I"⟩, 64) := ⟨⟨by decide +kernel, by decide +kernel⟩, List.mem_of_getElem? (i := 929) (by decide +kernel), List.mem_of_getElem? (i := 1362) (by decide +kernel), List.mem_of_getElem? (i := 1363) (by decide +kernel)⟩
def lw_privs_4 : List (MethodName × Nat) := [(⟨"BerryLaneModel", "dayNow", "(Z)V"⟩, 64), (⟨"BerryLaneModel", "ripen", "(IZ)V"⟩, 64), (⟨"BerryLaneModel", "draw", "(I)I"⟩, 64), (⟨"BerryLaneModel", "save", "()V"⟩, 64), (⟨"BerryLaneModel", "putBack", "(I)V"⟩, 64), (⟨"BerryLaneModel", "findMost", "(II)V"⟩, 64), (⟨"BerryLaneModel", "findGains", "(II)V"⟩, 64), (⟨"BerryLaneModel", "putAllBack", "()V"⟩, 64), (⟨"BerryLaneModel", "byNext", "(IIIIII)I"⟩, 64), (⟨"BerryLaneModel", "wayBetween", "(III)I"⟩, 64), (⟨"BerryLaneModel", "stateOf", "(III)I"⟩, 64), (⟨"BerryLaneModel", "findCans", "(I)V"⟩, 64), (⟨"BerryLaneModel", "allBy", "(I)I"⟩, 64), (⟨"BerryLaneModel", "figure", "(II)I"⟩, 64), (⟨"BerryLaneModel", "bestAgainst", "(IIIIIZ)I"⟩, 64), (⟨"BerryLaneModel", "rivalHas", "(IIIIIZ)I"⟩, 64)]
theorem lw_r4 : ∀ q ∈ lw_privs_4, lw_okq q := List.forall_mem_cons.mpr ⟨lw_p48, List.forall_mem_cons.mpr ⟨lw_p49, List.forall_mem_cons.mpr ⟨lw_p50, List.forall_mem_cons.mpr ⟨lw_p51, List.forall_mem_cons.mpr ⟨lw_p52, List.forall_mem_cons.mpr ⟨lw_p53, List.forall_mem_cons.mpr ⟨lw_p54, List.forall_mem_cons.mpr ⟨lw_p55, List.forall_mem_cons.mpr ⟨lw_p56, List.forall_mem_cons.mpr ⟨lw_p57, List.forall_mem_cons.mpr ⟨lw_p58, List.forall_mem_cons.mpr ⟨lw_p59, List.forall_mem_cons.mpr ⟨lw_p60, List.forall_mem_cons.mpr ⟨lw_p61, List.forall_mem_cons.mpr ⟨lw_p62, List.forall_mem_cons.mpr ⟨lw_p63, fun _ h => absurd h List.not_mem_nil⟩⟩⟩⟩⟩⟩⟩⟩⟩⟩⟩⟩⟩⟩⟩⟩
theorem lw_p64 : lw_okq (⟨"BerryLaneModel", "bestOf", "(II)I"⟩, 64) := ⟨⟨by decide +kernel, by decide +kernel⟩, List.mem_of_getElem? (i := 929) (by decide +kernel), List.mem_of_getElem? (i := 1383) (by decide +kernel), List.mem_of_getElem? (i := 1384) (by decide +kernel)⟩
theorem lw_p65 : lw_okq (⟨"BerryLaneModel", "wasVisited", "(III)Z"⟩, 64) := ⟨⟨by decide +kernel, by decide +kernel⟩, List.mem_of_getElem? (i := 929) (by decide +kernel), List.mem_of_getElem? (i := 1396) (by decide +kernel), List.mem_of_getElem? (i := 1397) (by decide +kernel)⟩
theorem lw_p66 : lw_okq (⟨"BerryLaneModel", "isLeft", "(II)Z"⟩, 64) := ⟨⟨by decide +kernel, by decide +kernel⟩, List.mem_of_getElem? (i := 929) (by decide +kernel), List.mem_of_getElem? (i := 1400) (by decide +kernel), List.mem_of_getElem? (i := 1401) (by decide +kernel)⟩
theorem lw_p67 : lw_okq (⟨"BerryLaneModel", "isCan", "(II)Z"⟩, 64) := ⟨⟨by decide +kernel, by decide +kernel⟩, List.mem_of_getElem? (i := 929) (by decide +kernel), List.mem_of_getElem? (i := 1412) (by decide +kernel), List.mem_of_getElem? (i := 1413) (by decide +kernel)⟩
def lw_privs_5 : List (MethodName × Nat) := [(⟨"BerryLaneModel", "bestOf", "(II)I"⟩, 64), (⟨"BerryLaneModel", "wasVisited", "(III)Z"⟩, 64), (⟨"BerryLaneModel", "isLeft", "(II)Z"⟩, 64), (⟨"BerryLaneModel", "isCan", "(II)Z"⟩, 64)]
theorem lw_r5 : ∀ q ∈ lw_privs_5, lw_okq q := List.forall_mem_cons.mpr ⟨lw_p64, List.forall_mem_cons.mpr ⟨lw_p65, List.forall_mem_cons.mpr ⟨lw_p66, List.forall_mem_cons.mpr ⟨lw_p67, fun _ h => absurd h List.not_mem_nil⟩⟩⟩⟩
def lw_privs : List (MethodName × Nat) := lw_privs_1 ++ (lw_privs_2 ++ (lw_privs_3 ++ (lw_privs_4 ++ (lw_privs_5))))
def lw_tbl : List Cond := k2_sels lw_privs ++ tables_1
theorem lw_privs_ok : ∀ q ∈ lw_privs, lw_okq q := by
  show ∀ q ∈ lw_privs_1 ++ (lw_privs_2 ++ (lw_privs_3 ++ (lw_privs_4 ++ (lw_privs_5)))), lw_okq q
  exact List.forall_mem_append.mpr ⟨lw_r1, List.forall_mem_append.mpr ⟨lw_r2, List.forall_mem_append.mpr ⟨lw_r3, List.forall_mem_append.mpr ⟨lw_r4, lw_r5⟩⟩⟩⟩
def RX0 : String := "BerryLane$BestWay"
def TX0 : u_T := fun k => match k with
  | 0 => ("BerryLane$BestWay", "most", "I", false)
  | 1 => ("BerryLane$BestWay", "stops", "I", false)
  | 2 => ("BerryLane$BestWay", "stopBush", "[I", true)
  | 3 => ("BerryLane$BestWay", "stopHandfuls", "[I", true)
  | 4 => ("BerryLane$BestWay", "shortest", "[I", true)
  | 5 => ("BerryLane$BestWay", "gathered", "[I", true)
  | 6 => ("BerryLane$BestWay", "gains", "[I", true)
  | 7 => ("BerryLane$BestWay", "useful", "[I", true)
  | 8 => ("BerryLane$BestWay", "handfulMoments", "[I", true)
  | 9 => ("BerryLane$BestWay", "wayMoments", "[I", true)
  | 10 => ("BerryLane$BestWay", "trial", "LBerryLane$Bush;", true)
  | 11 => ("BerryLane$BestWay", "bushCount", "I", false)
  | 12 => ("BerryLane$BestWay", "been", "I", false)
  | 13 => ("BerryLane$BestWay", "last", "I", false)
  | 14 => ("BerryLane$BestWay", "timeLeft", "I", false)
  | _ => ("BerryLane$BestWay", "aim", "I", false)
def tyX0 : Nat → FieldType := fun k => match k with
  | 0 => .int
  | 1 => .int
  | 2 => .array .int
  | 3 => .array .int
  | 4 => .array .int
  | 5 => .array .int
  | 6 => .array .int
  | 7 => .array .int
  | 8 => .array .int
  | 9 => .array .int
  | 10 => .object "BerryLane$Bush"
  | 11 => .int
  | 12 => .int
  | 13 => .int
  | 14 => .int
  | _ => .int
abbrev wsX00 : List Cond := u_ws RX0 TX0 16
theorem nmX0 : ∀ a, a < 16 → ∀ b, b < 16 → a ≠ b → (TX0 a).2.1 ≠ (TX0 b).2.1 := by decide +kernel
theorem tyX0_ok : ∀ k, k < 16 → parseFieldDescriptor (TX0 k).2.2.1 = some (tyX0 k) := by decide +kernel
abbrev cX0_init : ByteArray := prog_2_method_1_code
def yX0_init : MethodName := ⟨RX0, "<init>", "()V"⟩
abbrev cX0_findMost : ByteArray := prog_2_method_2_code
def yX0_findMost : MethodName := ⟨RX0, "findMost", "(LBerryLane$Lane;LBerryLane$Picker;I)I"⟩
abbrev cX0_measureGains : ByteArray := prog_2_method_3_code
def yX0_measureGains : MethodName := ⟨RX0, "measureGains", "(LBerryLane$Picker;LBerryLane$Bush;I)V"⟩
abbrev cX0_measureWays : ByteArray := prog_2_method_4_code
def yX0_measureWays : MethodName := ⟨RX0, "measureWays", "(LBerryLane$Lane;LBerryLane$Picker;I)V"⟩
abbrev cX0_fillShortest : ByteArray := prog_2_method_5_code
def yX0_fillShortest : MethodName := ⟨RX0, "fillShortest", "(I)V"⟩
abbrev cX0_fillGathered : ByteArray := prog_2_method_6_code
def yX0_fillGathered : MethodName := ⟨RX0, "fillGathered", "(III)V"⟩
abbrev cX0_mostBeyond : ByteArray := prog_2_method_7_code
def yX0_mostBeyond : MethodName := ⟨RX0, "mostBeyond", "(III)I"⟩
abbrev cX0_findStops : ByteArray := prog_2_method_8_code
def yX0_findStops : MethodName := ⟨RX0, "findStops", "(I)V"⟩
abbrev cX0_findNextStop : ByteArray := prog_2_method_9_code
def yX0_findNextStop : MethodName := ⟨RX0, "findNextStop", "()V"⟩
abbrev cX0_fewestHandfuls : ByteArray := prog_2_method_10_code
def yX0_fewestHandfuls : MethodName := ⟨RX0, "fewestHandfuls", "(I)I"⟩
abbrev cX0_addStop : ByteArray := prog_2_method_11_code
def yX0_addStop : MethodName := ⟨RX0, "addStop", "(II)V"⟩
def RX1 : String := "BerryLane$Bush"
def TX1 : u_T := fun k => match k with
  | 0 => ("BerryLane$Bush", "yard", "I", false)
  | 1 => ("BerryLane$Bush", "side", "I", false)
  | 2 => ("BerryLane$Bush", "kind", "I", false)
  | 3 => ("BerryLane$Bush", "red", "I", false)
  | 4 => ("BerryLane$Bush", "ripe", "I", false)
  | _ => ("BerryLane$Bush", "soft", "I", false)
def tyX1 : Nat → FieldType := fun k => match k with
  | 0 => .int
  | 1 => .int
  | 2 => .int
  | 3 => .int
  | 4 => .int
  | _ => .int
abbrev wsX10 : List Cond := u_ws RX1 TX1 6
theorem nmX1 : ∀ a, a < 6 → ∀ b, b < 6 → a ≠ b → (TX1 a).2.1 ≠ (TX1 b).2.1 := by decide +kernel
theorem tyX1_ok : ∀ k, k < 6 → parseFieldDescriptor (TX1 k).2.2.1 = some (tyX1 k) := by decide +kernel
abbrev cX1_init : ByteArray := prog_3_method_1_code
def yX1_init : MethodName := ⟨RX1, "<init>", "()V"⟩
abbrev cX1_copyFrom : ByteArray := prog_3_method_2_code
def yX1_copyFrom : MethodName := ⟨RX1, "copyFrom", "(LBerryLane$Bush;)V"⟩
abbrev cX1_handfulMoments : ByteArray := prog_3_method_3_code
def yX1_handfulMoments : MethodName := ⟨RX1, "handfulMoments", "()I"⟩
abbrev cX1_momentsFrom : ByteArray := prog_3_method_4_code
def yX1_momentsFrom : MethodName := ⟨RX1, "momentsFrom", "(II)I"⟩
abbrev cX1_passDay : ByteArray := prog_3_method_5_code
def yX1_passDay : MethodName := ⟨RX1, "passDay", "(LBerryLane$Law;Z)V"⟩
def RX2 : String := "BerryLane$Contest"
def TX2 : u_T := fun k => match k with
  | 0 => ("BerryLane$Contest", "changes", "I", false)
  | 1 => ("BerryLane$Contest", "bushOfA", "I", false)
  | 2 => ("BerryLane$Contest", "bushOfB", "I", false)
  | 3 => ("BerryLane$Contest", "settled", "Z", false)
  | _ => ("BerryLane$Contest", "trial", "LBerryLane$Bush;", true)
def tyX2 : Nat → FieldType := fun k => match k with
  | 0 => .int
  | 1 => .int
  | 2 => .int
  | 3 => .boolean
  | _ => .object "BerryLane$Bush"
abbrev wsX20 : List Cond := u_ws RX2 TX2 5
theorem nmX2 : ∀ a, a < 5 → ∀ b, b < 5 → a ≠ b → (TX2 a).2.1 ≠ (TX2 b).2.1 := by decide +kernel
theorem tyX2_ok : ∀ k, k < 5 → parseFieldDescriptor (TX2 k).2.2.1 = some (tyX2 k) := by decide +kernel
abbrev cX2_init : ByteArray := prog_4_method_1_code
def yX2_init : MethodName := ⟨RX2, "<init>", "()V"⟩
abbrev cX2_playOut : ByteArray := prog_4_method_2_code
def yX2_playOut : MethodName := ⟨RX2, "playOut", "(LBerryLane$Lane;III)V"⟩
abbrev cX2_takeTurn : ByteArray := prog_4_method_3_code
def yX2_takeTurn : MethodName := ⟨RX2, "takeTurn", "(LBerryLane$Lane;IIIZ)Z"⟩
abbrev cX2_shareOf : ByteArray := prog_4_method_4_code
def yX2_shareOf : MethodName := ⟨RX2, "shareOf", "(LBerryLane$Picker;LBerryLane$Picker;IZ)I"⟩
def RX3 : String := "BerryLane$Lane"
def TX3 : u_T := fun k => match k with
  | 0 => ("BerryLane$Lane", "law", "LBerryLane$Law;", true)
  | 1 => ("BerryLane$Lane", "bushes", "[LBerryLane$Bush;", true)
  | 2 => ("BerryLane$Lane", "pickers", "[LBerryLane$Picker;", true)
  | 3 => ("BerryLane$Lane", "bushCount", "I", false)
  | 4 => ("BerryLane$Lane", "pickerCount", "I", false)
  | 5 => ("BerryLane$Lane", "dayNumber", "I", false)
  | _ => ("BerryLane$Lane", "seed", "I", false)
def tyX3 : Nat → FieldType := fun k => match k with
  | 0 => .object "BerryLane$Law"
  | 1 => .array (.object "BerryLane$Bush")
  | 2 => .array (.object "BerryLane$Picker")
  | 3 => .int
  | 4 => .int
  | 5 => .int
  | _ => .int
abbrev wsX30 : List Cond := u_ws RX3 TX3 7
theorem nmX3 : ∀ a, a < 7 → ∀ b, b < 7 → a ≠ b → (TX3 a).2.1 ≠ (TX3 b).2.1 := by decide +kernel
theorem tyX3_ok : ∀ k, k < 7 → parseFieldDescriptor (TX3 k).2.2.1 = some (tyX3 k) := by decide +kernel
abbrev cX3_init : ByteArray := prog_5_method_1_code
def yX3_init : MethodName := ⟨RX3, "<init>", "()V"⟩
abbrev cX3_copyFrom : ByteArray := prog_5_method_2_code
def yX3_copyFrom : MethodName := ⟨RX3, "copyFrom", "(LBerryLane$Lane;)V"⟩
abbrev cX3_startAs : ByteArray := prog_5_method_3_code
def yX3_startAs : MethodName := ⟨RX3, "startAs", "(LBerryLane$Lane;)V"⟩
abbrev cX3_forget : ByteArray := prog_5_method_4_code
def yX3_forget : MethodName := ⟨RX3, "forget", "()V"⟩
abbrev cX3_ripeInAll : ByteArray := prog_5_method_5_code
def yX3_ripeInAll : MethodName := ⟨RX3, "ripeInAll", "()I"⟩
abbrev cX3_passDay : ByteArray := prog_5_method_6_code
def yX3_passDay : MethodName := ⟨RX3, "passDay", "(Z)V"⟩
abbrev cX3_passDayByDraws : ByteArray := prog_5_method_7_code
def yX3_passDayByDraws : MethodName := ⟨RX3, "passDayByDraws", "()V"⟩
abbrev cX3_draw : ByteArray := prog_5_method_8_code
def yX3_draw : MethodName := ⟨RX3, "draw", "(I)I"⟩
def RX4 : String := "BerryLane$Law"
def TX4 : u_T := fun k => match k with
  | 0 => ("BerryLane$Law", "ripening", "I", false)
  | 1 => ("BerryLane$Law", "softening", "I", false)
  | 2 => ("BerryLane$Law", "falling", "I", false)
  | _ => ("BerryLane$Law", "canHolds", "I", false)
def tyX4 : Nat → FieldType := fun k => match k with
  | 0 => .int
  | 1 => .int
  | 2 => .int
  | _ => .int
abbrev wsX40 : List Cond := u_ws RX4 TX4 4
theorem nmX4 : ∀ a, a < 4 → ∀ b, b < 4 → a ≠ b → (TX4 a).2.1 ≠ (TX4 b).2.1 := by decide +kernel
theorem tyX4_ok : ∀ k, k < 4 → parseFieldDescriptor (TX4 k).2.2.1 = some (tyX4 k) := by decide +kernel
abbrev cX4_init : ByteArray := prog_6_method_1_code
def yX4_init : MethodName := ⟨RX4, "<init>", "()V"⟩
abbrev cX4_copyFrom : ByteArray := prog_6_method_2_code
def yX4_copyFrom : MethodName := ⟨RX4, "copyFrom", "(LBerryLane$Law;)V"⟩
abbrev cX4_forget : ByteArray := prog_6_method_3_code
def yX4_forget : MethodName := ⟨RX4, "forget", "()V"⟩
abbrev cX4_isTold : ByteArray := prog_6_method_4_code
def yX4_isTold : MethodName := ⟨RX4, "isTold", "()Z"⟩
def RX5 : String := "BerryLane$Picker"
def TX5 : u_T := fun k => match k with
  | 0 => ("BerryLane$Picker", "yard", "I", false)
  | 1 => ("BerryLane$Picker", "side", "I", false)
  | 2 => ("BerryLane$Picker", "quickness", "I", false)
  | 3 => ("BerryLane$Picker", "appetite", "I", false)
  | 4 => ("BerryLane$Picker", "reachesHigh", "Z", false)
  | 5 => ("BerryLane$Picker", "inCan", "I", false)
  | 6 => ("BerryLane$Picker", "eaten", "I", false)
  | _ => ("BerryLane$Picker", "clock", "I", false)
def tyX5 : Nat → FieldType := fun k => match k with
  | 0 => .int
  | 1 => .int
  | 2 => .int
  | 3 => .int
  | 4 => .boolean
  | 5 => .int
  | 6 => .int
  | _ => .int
abbrev wsX50 : List Cond := u_ws RX5 TX5 8
theorem nmX5 : ∀ a, a < 8 → ∀ b, b < 8 → a ≠ b → (TX5 a).2.1 ≠ (TX5 b).2.1 := by decide +kernel
theorem tyX5_ok : ∀ k, k < 8 → parseFieldDescriptor (TX5 k).2.2.1 = some (tyX5 k) := by decide +kernel
abbrev cX5_init : ByteArray := prog_7_method_1_code
def yX5_init : MethodName := ⟨RX5, "<init>", "()V"⟩
abbrev cX5_copyFrom : ByteArray := prog_7_method_2_code
def yX5_copyFrom : MethodName := ⟨RX5, "copyFrom", "(LBerryLane$Picker;)V"⟩
abbrev cX5_wouldGet : ByteArray := prog_7_method_3_code
def yX5_wouldGet : MethodName := ⟨RX5, "wouldGet", "(LBerryLane$Bush;)I"⟩
abbrev cX5_momentsTo : ByteArray := prog_7_method_4_code
def yX5_momentsTo : MethodName := ⟨RX5, "momentsTo", "(LBerryLane$Bush;)I"⟩
abbrev cX5_isAt : ByteArray := prog_7_method_5_code
def yX5_isAt : MethodName := ⟨RX5, "isAt", "(LBerryLane$Bush;)Z"⟩
abbrev cX5_walkTo : ByteArray := prog_7_method_6_code
def yX5_walkTo : MethodName := ⟨RX5, "walkTo", "(LBerryLane$Bush;)V"⟩
abbrev cX5_takeHandfuls : ByteArray := prog_7_method_7_code
def yX5_takeHandfuls : MethodName := ⟨RX5, "takeHandfuls", "(LBerryLane$Bush;II)I"⟩
abbrev cX5_tryHandful : ByteArray := prog_7_method_8_code
def yX5_tryHandful : MethodName := ⟨RX5, "tryHandful", "(LBerryLane$Bush;)I"⟩
abbrev cX5_tryHandfuls : ByteArray := prog_7_method_9_code
def yX5_tryHandfuls : MethodName := ⟨RX5, "tryHandfuls", "(LBerryLane$Bush;I)I"⟩
def RX6 : String := "BerryLane$Places"
def TX6 : u_T := fun k => match k with
  | 0 => ("BerryLane$Places", "most", "I", false)
  | 1 => ("BerryLane$Places", "gains", "[I", true)
  | 2 => ("BerryLane$Places", "row", "[I", true)
  | 3 => ("BerryLane$Places", "bestRow", "[I", true)
  | 4 => ("BerryLane$Places", "trial", "LBerryLane$Bush;", true)
  | 5 => ("BerryLane$Places", "bushCount", "I", false)
  | _ => ("BerryLane$Places", "pickerCount", "I", false)
def tyX6 : Nat → FieldType := fun k => match k with
  | 0 => .int
  | 1 => .array .int
  | 2 => .array .int
  | 3 => .array .int
  | 4 => .object "BerryLane$Bush"
  | 5 => .int
  | _ => .int
abbrev wsX60 : List Cond := u_ws RX6 TX6 7
theorem nmX6 : ∀ a, a < 7 → ∀ b, b < 7 → a ≠ b → (TX6 a).2.1 ≠ (TX6 b).2.1 := by decide +kernel
theorem tyX6_ok : ∀ k, k < 7 → parseFieldDescriptor (TX6 k).2.2.1 = some (tyX6 k) := by decide +kernel
abbrev cX6_init : ByteArray := prog_8_method_1_code
def yX6_init : MethodName := ⟨RX6, "<init>", "()V"⟩
abbrev cX6_findFor : ByteArray := prog_8_method_2_code
def yX6_findFor : MethodName := ⟨RX6, "findFor", "(LBerryLane$Lane;I)V"⟩
abbrev cX6_bushOf : ByteArray := prog_8_method_3_code
def yX6_bushOf : MethodName := ⟨RX6, "bushOf", "(I)I"⟩
abbrev cX6_measure : ByteArray := prog_8_method_4_code
def yX6_measure : MethodName := ⟨RX6, "measure", "(LBerryLane$Lane;I)V"⟩
abbrev cX6_sumOfRow : ByteArray := prog_8_method_5_code
def yX6_sumOfRow : MethodName := ⟨RX6, "sumOfRow", "()I"⟩
abbrev cX6_countRows : ByteArray := prog_8_method_6_code
def yX6_countRows : MethodName := ⟨RX6, "countRows", "()I"⟩
abbrev cX6_stepRow : ByteArray := prog_8_method_7_code
def yX6_stepRow : MethodName := ⟨RX6, "stepRow", "()V"⟩
def RX7 : String := "BerryLane$Reader"
def TX7 : u_T := fun k => match k with
  | 0 => ("BerryLane$Reader", "draft", "LBerryLane$Lane;", true)
  | 1 => ("BerryLane$Reader", "size", "I", false)
  | 2 => ("BerryLane$Reader", "faultPlace", "I", false)
  | 3 => ("BerryLane$Reader", "text", "[C", true)
  | 4 => ("BerryLane$Reader", "numbers", "[I", true)
  | 5 => ("BerryLane$Reader", "place", "I", false)
  | 6 => ("BerryLane$Reader", "fault", "I", false)
  | _ => ("BerryLane$Reader", "canTold", "Z", false)
def tyX7 : Nat → FieldType := fun k => match k with
  | 0 => .object "BerryLane$Lane"
  | 1 => .int
  | 2 => .int
  | 3 => .array .char
  | 4 => .array .int
  | 5 => .int
  | 6 => .int
  | _ => .boolean
abbrev wsX70 : List Cond := u_ws RX7 TX7 8
theorem nmX7 : ∀ a, a < 8 → ∀ b, b < 8 → a ≠ b → (TX7 a).2.1 ≠ (TX7 b).2.1 := by decide +kernel
theorem tyX7_ok : ∀ k, k < 8 → parseFieldDescriptor (TX7 k).2.2.1 = some (tyX7 k) := by decide +kernel
abbrev cX7_init : ByteArray := prog_9_method_1_code
def yX7_init : MethodName := ⟨RX7, "<init>", "()V"⟩
abbrev cX7_isFull : ByteArray := prog_9_method_2_code
def yX7_isFull : MethodName := ⟨RX7, "isFull", "()Z"⟩
abbrev cX7_append : ByteArray := prog_9_method_3_code
def yX7_append : MethodName := ⟨RX7, "append", "(C)I"⟩
abbrev cX7_readAll : ByteArray := prog_9_method_4_code
def yX7_readAll : MethodName := ⟨RX7, "readAll", "()I"⟩
abbrev cX7_readClause : ByteArray := prog_9_method_5_code
def yX7_readClause : MethodName := ⟨RX7, "readClause", "()V"⟩
abbrev cX7_faultOfWord : ByteArray := prog_9_method_6_code
def yX7_faultOfWord : MethodName := ⟨RX7, "faultOfWord", "(C)I"⟩
abbrev cX7_boundsOf : ByteArray := prog_9_method_7_code
def yX7_boundsOf : MethodName := ⟨RX7, "boundsOf", "(C)[I"⟩
abbrev cX7_readNumbers : ByteArray := prog_9_method_8_code
def yX7_readNumbers : MethodName := ⟨RX7, "readNumbers", "([I)V"⟩
abbrev cX7_readNumber : ByteArray := prog_9_method_9_code
def yX7_readNumber : MethodName := ⟨RX7, "readNumber", "(II)I"⟩
abbrev cX7_take : ByteArray := prog_9_method_10_code
def yX7_take : MethodName := ⟨RX7, "take", "(C)V"⟩
abbrev cX7_takeBush : ByteArray := prog_9_method_11_code
def yX7_takeBush : MethodName := ⟨RX7, "takeBush", "()V"⟩
abbrev cX7_takePicker : ByteArray := prog_9_method_12_code
def yX7_takePicker : MethodName := ⟨RX7, "takePicker", "()V"⟩
abbrev cX7_skipBlanks : ByteArray := prog_9_method_13_code
def yX7_skipBlanks : MethodName := ⟨RX7, "skipBlanks", "()V"⟩
abbrev cX7_note : ByteArray := prog_9_method_14_code
def yX7_note : MethodName := ⟨RX7, "note", "(II)V"⟩
def RX8 : String := "BerryLane$Seen"
def TX8 : u_T := fun k => match k with
  | 0 => ("BerryLane$Seen", "remains", "LBerryLane$Sheet;", true)
  | 1 => ("BerryLane$Seen", "cans", "LBerryLane$Sheet;", true)
  | 2 => ("BerryLane$Seen", "book", "LBerryLane$Sheet;", true)
  | 3 => ("BerryLane$Seen", "soughtVisit", "I", false)
  | 4 => ("BerryLane$Seen", "untouched", "LBerryLane$Bush;", true)
  | 5 => ("BerryLane$Seen", "trial", "LBerryLane$Bush;", true)
  | 6 => ("BerryLane$Seen", "guess", "LBerryLane$Picker;", true)
  | _ => ("BerryLane$Seen", "ripeThen", "[I", true)
def tyX8 : Nat → FieldType := fun k => match k with
  | 0 => .object "BerryLane$Sheet"
  | 1 => .object "BerryLane$Sheet"
  | 2 => .object "BerryLane$Sheet"
  | 3 => .int
  | 4 => .object "BerryLane$Bush"
  | 5 => .object "BerryLane$Bush"
  | 6 => .object "BerryLane$Picker"
  | _ => .array .int
abbrev wsX80 : List Cond := u_ws RX8 TX8 8
theorem nmX8 : ∀ a, a < 8 → ∀ b, b < 8 → a ≠ b → (TX8 a).2.1 ≠ (TX8 b).2.1 := by decide +kernel
theorem tyX8_ok : ∀ k, k < 8 → parseFieldDescriptor (TX8 k).2.2.1 = some (tyX8 k) := by decide +kernel
abbrev cX8_init : ByteArray := prog_10_method_1_code
def yX8_init : MethodName := ⟨RX8, "<init>", "()V"⟩
abbrev cX8_clearAll : ByteArray := prog_10_method_2_code
def yX8_clearAll : MethodName := ⟨RX8, "clearAll", "()I"⟩
abbrev cX8_findVisits : ByteArray := prog_10_method_3_code
def yX8_findVisits : MethodName := ⟨RX8, "findVisits", "(LBerryLane$Lane;II)I"⟩
abbrev cX8_agreesAfterVisit : ByteArray := prog_10_method_4_code
def yX8_agreesAfterVisit : MethodName := ⟨RX8, "agreesAfterVisit", "(LBerryLane$Law;III)Z"⟩
abbrev cX8_agreesOnDay : ByteArray := prog_10_method_5_code
def yX8_agreesOnDay : MethodName := ⟨RX8, "agreesOnDay", "(LBerryLane$Bush;II)Z"⟩
abbrev cX8_appetitesOf : ByteArray := prog_10_method_6_code
def yX8_appetitesOf : MethodName := ⟨RX8, "appetitesOf", "(LBerryLane$Lane;I)I"⟩
abbrev cX8_cansAgree : ByteArray := prog_10_method_7_code
def yX8_cansAgree : MethodName := ⟨RX8, "cansAgree", "(LBerryLane$Lane;I)Z"⟩
abbrev cX8_firstWrong : ByteArray := prog_10_method_8_code
def yX8_firstWrong : MethodName := ⟨RX8, "firstWrong", "(LBerryLane$Lane;)I"⟩
def RX9 : String := "BerryLane$Sheet"
def TX9 : u_T := fun k => match k with
  | 0 => ("BerryLane$Sheet", "picker", "[I", true)
  | 1 => ("BerryLane$Sheet", "bush", "[I", true)
  | 2 => ("BerryLane$Sheet", "number", "[I", true)
  | 3 => ("BerryLane$Sheet", "much", "[I", true)
  | 4 => ("BerryLane$Sheet", "size", "I", false)
  | _ => ("BerryLane$Sheet", "room", "I", true)
def tyX9 : Nat → FieldType := fun k => match k with
  | 0 => .array .int
  | 1 => .array .int
  | 2 => .array .int
  | 3 => .array .int
  | 4 => .int
  | _ => .int
abbrev wsX90 : List Cond := u_ws RX9 TX9 6
theorem nmX9 : ∀ a, a < 6 → ∀ b, b < 6 → a ≠ b → (TX9 a).2.1 ≠ (TX9 b).2.1 := by decide +kernel
theorem tyX9_ok : ∀ k, k < 6 → parseFieldDescriptor (TX9 k).2.2.1 = some (tyX9 k) := by decide +kernel
abbrev cX9_init : ByteArray := prog_11_method_1_code
def yX9_init : MethodName := ⟨RX9, "<init>", "(I)V"⟩
abbrev cX9_isFull : ByteArray := prog_11_method_2_code
def yX9_isFull : MethodName := ⟨RX9, "isFull", "()Z"⟩
abbrev cX9_append : ByteArray := prog_11_method_3_code
def yX9_append : MethodName := ⟨RX9, "append", "(IIII)I"⟩
def RX10 : String := "BerryLane"
def TX10 : u_T := fun k => match k with
  | 0 => ("BerryLane", "reader", "LBerryLane$Reader;", true)
  | 1 => ("BerryLane", "now", "LBerryLane$Lane;", true)
  | 2 => ("BerryLane", "images", "[LBerryLane$Lane;", true)
  | 3 => ("BerryLane", "kept", "[Z", true)
  | 4 => ("BerryLane", "bestWay", "LBerryLane$BestWay;", true)
  | 5 => ("BerryLane", "places", "LBerryLane$Places;", true)
  | 6 => ("BerryLane", "contest", "LBerryLane$Contest;", true)
  | 7 => ("BerryLane", "seen", "LBerryLane$Seen;", true)
  | 8 => ("BerryLane", "triedBush", "LBerryLane$Bush;", true)
  | 9 => ("BerryLane", "triedPicker", "LBerryLane$Picker;", true)
  | _ => ("BerryLane", "faultPlace", "I", false)
def tyX10 : Nat → FieldType := fun k => match k with
  | 0 => .object "BerryLane$Reader"
  | 1 => .object "BerryLane$Lane"
  | 2 => .array (.object "BerryLane$Lane")
  | 3 => .array .boolean
  | 4 => .object "BerryLane$BestWay"
  | 5 => .object "BerryLane$Places"
  | 6 => .object "BerryLane$Contest"
  | 7 => .object "BerryLane$Seen"
  | 8 => .object "BerryLane$Bush"
  | 9 => .object "BerryLane$Picker"
  | _ => .int
abbrev wsX100 : List Cond := u_ws RX10 TX10 11
theorem nmX10 : ∀ a, a < 11 → ∀ b, b < 11 → a ≠ b → (TX10 a).2.1 ≠ (TX10 b).2.1 := by decide +kernel
theorem tyX10_ok : ∀ k, k < 11 → parseFieldDescriptor (TX10 k).2.2.1 = some (tyX10 k) := by decide +kernel
abbrev cX10_init : ByteArray := prog_1_method_1_code
def yX10_init : MethodName := ⟨RX10, "<init>", "()V"⟩
abbrev cX10_feed : ByteArray := prog_1_method_2_code
def yX10_feed : MethodName := ⟨RX10, "feed", "(I)I"⟩
abbrev cX10_lane : ByteArray := prog_1_method_3_code
def yX10_lane : MethodName := ⟨RX10, "lane", "()I"⟩
abbrev cX10_fault : ByteArray := prog_1_method_4_code
def yX10_fault : MethodName := ⟨RX10, "fault", "()I"⟩
abbrev cX10_told : ByteArray := prog_1_method_5_code
def yX10_told : MethodName := ⟨RX10, "told", "(I)I"⟩
abbrev cX10_bush : ByteArray := prog_1_method_6_code
def yX10_bush : MethodName := ⟨RX10, "bush", "(II)I"⟩
abbrev cX10_picker : ByteArray := prog_1_method_7_code
def yX10_picker : MethodName := ⟨RX10, "picker", "(II)I"⟩
abbrev cX10_gives : ByteArray := prog_1_method_8_code
def yX10_gives : MethodName := ⟨RX10, "gives", "(II)I"⟩
abbrev cX10_way : ByteArray := prog_1_method_9_code
def yX10_way : MethodName := ⟨RX10, "way", "(II)I"⟩
abbrev cX10_go : ByteArray := prog_1_method_10_code
def yX10_go : MethodName := ⟨RX10, "go", "(II)I"⟩
abbrev cX10_pick : ByteArray := prog_1_method_11_code
def yX10_pick : MethodName := ⟨RX10, "pick", "(III)I"⟩
abbrev cX10_stick : ByteArray := prog_1_method_12_code
def yX10_stick : MethodName := ⟨RX10, "stick", "(IZ)I"⟩
abbrev cX10_pour : ByteArray := prog_1_method_13_code
def yX10_pour : MethodName := ⟨RX10, "pour", "(I)I"⟩
abbrev cX10_day : ByteArray := prog_1_method_14_code
def yX10_day : MethodName := ⟨RX10, "day", "(IZ)I"⟩
abbrev cX10_drift : ByteArray := prog_1_method_15_code
def yX10_drift : MethodName := ⟨RX10, "drift", "(I)I"⟩
abbrev cX10_length : ByteArray := prog_1_method_16_code
def yX10_length : MethodName := ⟨RX10, "length", "(III)I"⟩
abbrev cX10_best : ByteArray := prog_1_method_17_code
def yX10_best : MethodName := ⟨RX10, "best", "(IIII)I"⟩
abbrev cX10_where : ByteArray := prog_1_method_18_code
def yX10_where : MethodName := ⟨RX10, "where", "(II)I"⟩
abbrev cX10_rivals : ByteArray := prog_1_method_19_code
def yX10_rivals : MethodName := ⟨RX10, "rivals", "(IIII)I"⟩
abbrev cX10_again : ByteArray := prog_1_method_20_code
def yX10_again : MethodName := ⟨RX10, "again", "(III)I"⟩
abbrev cX10_odds : ByteArray := prog_1_method_21_code
def yX10_odds : MethodName := ⟨RX10, "odds", "(IIII)I"⟩
abbrev cX10_whom : ByteArray := prog_1_method_22_code
def yX10_whom : MethodName := ⟨RX10, "whom", "(II)I"⟩
abbrev cX10_left : ByteArray := prog_1_method_23_code
def yX10_left : MethodName := ⟨RX10, "left", "(III)I"⟩
abbrev cX10_visited : ByteArray := prog_1_method_24_code
def yX10_visited : MethodName := ⟨RX10, "visited", "(II)I"⟩
abbrev cX10_can : ByteArray := prog_1_method_25_code
def yX10_can : MethodName := ⟨RX10, "can", "(IIII)I"⟩
abbrev cX10_eats : ByteArray := prog_1_method_26_code
def yX10_eats : MethodName := ⟨RX10, "eats", "(I)I"⟩
abbrev cX10_write : ByteArray := prog_1_method_27_code
def yX10_write : MethodName := ⟨RX10, "write", "(III)I"⟩
abbrev cX10_judge : ByteArray := prog_1_method_28_code
def yX10_judge : MethodName := ⟨RX10, "judge", "()I"⟩
abbrev cX10_tear : ByteArray := prog_1_method_29_code
def yX10_tear : MethodName := ⟨RX10, "tear", "()I"⟩
abbrev cX10_seed : ByteArray := prog_1_method_30_code
def yX10_seed : MethodName := ⟨RX10, "seed", "(I)I"⟩
abbrev cX10_keep : ByteArray := prog_1_method_31_code
def yX10_keep : MethodName := ⟨RX10, "keep", "(I)I"⟩
abbrev cX10_goBack : ByteArray := prog_1_method_32_code
def yX10_goBack : MethodName := ⟨RX10, "goBack", "(I)I"⟩
abbrev cX10_within : ByteArray := prog_1_method_33_code
def yX10_within : MethodName := ⟨RX10, "within", "(III)Z"⟩
abbrev cX10_isBush : ByteArray := prog_1_method_34_code
def yX10_isBush : MethodName := ⟨RX10, "isBush", "(I)Z"⟩
abbrev cX10_isPicker : ByteArray := prog_1_method_35_code
def yX10_isPicker : MethodName := ⟨RX10, "isPicker", "(I)Z"⟩
abbrev cX10_partOfRow : ByteArray := prog_1_method_36_code
def yX10_partOfRow : MethodName := ⟨RX10, "partOfRow", "(III)I"⟩
abbrev cX10_ripeAfterRow : ByteArray := prog_1_method_37_code
def yX10_ripeAfterRow : MethodName := ⟨RX10, "ripeAfterRow", "(LBerryLane$Bush;II)I"⟩
abbrev cX10_moreByStick : ByteArray := prog_1_method_38_code
def yX10_moreByStick : MethodName := ⟨RX10, "moreByStick", "(LBerryLane$Picker;I)I"⟩
def RX11 : String := "BerryLaneModel"
def TX11 : u_T := fun k => match k with
  | 0 => ("BerryLaneModel", "ripens", "I", false)
  | 1 => ("BerryLaneModel", "softens", "I", false)
  | 2 => ("BerryLaneModel", "falls", "I", false)
  | 3 => ("BerryLaneModel", "holds", "I", false)
  | 4 => ("BerryLaneModel", "bushes", "I", false)
  | 5 => ("BerryLaneModel", "bushAt", "[I", true)
  | 6 => ("BerryLaneModel", "bushSide", "[I", true)
  | 7 => ("BerryLaneModel", "kind", "[I", true)
  | 8 => ("BerryLaneModel", "red", "[I", true)
  | 9 => ("BerryLaneModel", "ripe", "[I", true)
  | 10 => ("BerryLaneModel", "soft", "[I", true)
  | 11 => ("BerryLaneModel", "pickers", "I", false)
  | 12 => ("BerryLaneModel", "yard", "[I", true)
  | 13 => ("BerryLaneModel", "side", "[I", true)
  | 14 => ("BerryLaneModel", "quick", "[I", true)
  | 15 => ("BerryLaneModel", "eats", "[I", true)
  | 16 => ("BerryLaneModel", "high", "[Z", true)
  | 17 => ("BerryLaneModel", "can", "[I", true)
  | 18 => ("BerryLaneModel", "eaten", "[I", true)
  | 19 => ("BerryLaneModel", "clock", "[I", true)
  | 20 => ("BerryLaneModel", "day", "I", false)
  | 21 => ("BerryLaneModel", "seed", "I", false)
  | 22 => ("BerryLaneModel", "text", "[I", true)
  | 23 => ("BerryLaneModel", "texted", "I", false)
  | 24 => ("BerryLaneModel", "faultPlace", "I", false)
  | 25 => ("BerryLaneModel", "at0", "I", false)
  | 26 => ("BerryLaneModel", "number", "I", false)
  | 27 => ("BerryLaneModel", "numberAt", "I", false)
  | 28 => ("BerryLaneModel", "readLaw", "[I", true)
  | 29 => ("BerryLaneModel", "hasLaw", "Z", false)
  | 30 => ("BerryLaneModel", "readHolds", "[I", true)
  | 31 => ("BerryLaneModel", "readBushes", "I", false)
  | 32 => ("BerryLaneModel", "readAt", "[I", true)
  | 33 => ("BerryLaneModel", "readSide", "[I", true)
  | 34 => ("BerryLaneModel", "readKind", "[I", true)
  | 35 => ("BerryLaneModel", "readRed", "[I", true)
  | 36 => ("BerryLaneModel", "readRipe", "[I", true)
  | 37 => ("BerryLaneModel", "readSoft", "[I", true)
  | 38 => ("BerryLaneModel", "readPickers", "I", false)
  | 39 => ("BerryLaneModel", "readYard", "[I", true)
  | 40 => ("BerryLaneModel", "readQuick", "[I", true)
  | 41 => ("BerryLaneModel", "readEats", "[I", true)
  | 42 => ("BerryLaneModel", "readHigh", "[I", true)
  | 43 => ("BerryLaneModel", "wasRed", "[I", true)
  | 44 => ("BerryLaneModel", "wasRipe", "[I", true)
  | 45 => ("BerryLaneModel", "wasSoft", "[I", true)
  | 46 => ("BerryLaneModel", "gains", "[I", true)
  | 47 => ("BerryLaneModel", "most", "[I", true)
  | 48 => ("BerryLaneModel", "cansAt", "[I", true)
  | 49 => ("BerryLaneModel", "lefts", "I", false)
  | 50 => ("BerryLaneModel", "leftBush", "[I", true)
  | 51 => ("BerryLaneModel", "leftDays", "[I", true)
  | 52 => ("BerryLaneModel", "leftRipe", "[I", true)
  | 53 => ("BerryLaneModel", "cans", "I", false)
  | 54 => ("BerryLaneModel", "canWho", "[I", true)
  | 55 => ("BerryLaneModel", "canBush", "[I", true)
  | 56 => ("BerryLaneModel", "canHands", "[I", true)
  | 57 => ("BerryLaneModel", "canMuch", "[I", true)
  | 58 => ("BerryLaneModel", "booked", "I", false)
  | 59 => ("BerryLaneModel", "bookWho", "[I", true)
  | 60 => ("BerryLaneModel", "bookBush", "[I", true)
  | 61 => ("BerryLaneModel", "bookGave", "[I", true)
  | 62 => ("BerryLaneModel", "images", "[I", true)
  | _ => ("BerryLaneModel", "isKept", "[Z", true)
def tyX11 : Nat → FieldType := fun k => match k with
  | 0 => .int
  | 1 => .int
  | 2 => .int
  | 3 => .int
  | 4 => .int
  | 5 => .array .int
  | 6 => .array .int
  | 7 => .array .int
  | 8 => .array .int
  | 9 => .array .int
  | 10 => .array .int
  | 11 => .int
  | 12 => .array .int
  | 13 => .array .int
  | 14 => .array .int
  | 15 => .array .int
  | 16 => .array .boolean
  | 17 => .array .int
  | 18 => .array .int
  | 19 => .array .int
  | 20 => .int
  | 21 => .int
  | 22 => .array .int
  | 23 => .int
  | 24 => .int
  | 25 => .int
  | 26 => .int
  | 27 => .int
  | 28 => .array .int
  | 29 => .boolean
  | 30 => .array .int
  | 31 => .int
  | 32 => .array .int
  | 33 => .array .int
  | 34 => .array .int
  | 35 => .array .int
  | 36 => .array .int
  | 37 => .array .int
  | 38 => .int
  | 39 => .array .int
  | 40 => .array .int
  | 41 => .array .int
  | 42 => .array .int
  | 43 => .array .int
  | 44 => .array .int
  | 45 => .array .int
  | 46 => .array .int
  | 47 => .array .int
  | 48 => .array .int
  | 49 => .int
  | 50 => .array .int
  | 51 => .array .int
  | 52 => .array .int
  | 53 => .int
  | 54 => .array .int
  | 55 => .array .int
  | 56 => .array .int
  | 57 => .array .int
  | 58 => .int
  | 59 => .array .int
  | 60 => .array .int
  | 61 => .array .int
  | 62 => .array .int
  | _ => .array .boolean
abbrev wsX110 : List Cond := u_ws RX11 TX11 64
theorem nmX11 : ∀ a, a < 64 → ∀ b, b < 64 → a ≠ b → (TX11 a).2.1 ≠ (TX11 b).2.1 := by decide +kernel
theorem tyX11_ok : ∀ k, k < 64 → parseFieldDescriptor (TX11 k).2.2.1 = some (tyX11 k) := by decide +kernel
abbrev cX11_init : ByteArray := prog_13_method_1_code
def yX11_init : MethodName := ⟨RX11, "<init>", "()V"⟩
abbrev cX11_in : ByteArray := prog_13_method_3_code
def yX11_in : MethodName := ⟨RX11, "in", "(JJJ)Z"⟩
abbrev cX11_has : ByteArray := prog_13_method_4_code
def yX11_has : MethodName := ⟨RX11, "has", "(II)Z"⟩
abbrev cX11_isBush : ByteArray := prog_13_method_5_code
def yX11_isBush : MethodName := ⟨RX11, "isBush", "(I)Z"⟩
abbrev cX11_isPicker : ByteArray := prog_13_method_6_code
def yX11_isPicker : MethodName := ⟨RX11, "isPicker", "(I)Z"⟩
abbrev cX11_feed : ByteArray := prog_13_method_7_code
def yX11_feed : MethodName := ⟨RX11, "feed", "(I)I"⟩
abbrev cX11_here : ByteArray := prog_13_method_8_code
def yX11_here : MethodName := ⟨RX11, "here", "()I"⟩
abbrev cX11_fails : ByteArray := prog_13_method_9_code
def yX11_fails : MethodName := ⟨RX11, "fails", "(II)I"⟩
abbrev cX11_takeNumber : ByteArray := prog_13_method_10_code
def yX11_takeNumber : MethodName := ⟨RX11, "takeNumber", "(II)I"⟩
abbrev cX11_into : ByteArray := prog_13_method_11_code
def yX11_into : MethodName := ⟨RX11, "into", "([IIII)I"⟩
abbrev cX11_takeLaw : ByteArray := prog_13_method_12_code
def yX11_takeLaw : MethodName := ⟨RX11, "takeLaw", "()I"⟩
abbrev cX11_takeBush : ByteArray := prog_13_method_13_code
def yX11_takeBush : MethodName := ⟨RX11, "takeBush", "()I"⟩
abbrev cX11_takePicker : ByteArray := prog_13_method_14_code
def yX11_takePicker : MethodName := ⟨RX11, "takePicker", "()I"⟩
abbrev cX11_takeClause : ByteArray := prog_13_method_15_code
def yX11_takeClause : MethodName := ⟨RX11, "takeClause", "()I"⟩
abbrev cX11_takeRead : ByteArray := prog_13_method_16_code
def yX11_takeRead : MethodName := ⟨RX11, "takeRead", "()V"⟩
abbrev cX11_lane : ByteArray := prog_13_method_17_code
def yX11_lane : MethodName := ⟨RX11, "lane", "()I"⟩
abbrev cX11_fault : ByteArray := prog_13_method_18_code
def yX11_fault : MethodName := ⟨RX11, "fault", "()I"⟩
abbrev cX11_ripeInAll : ByteArray := prog_13_method_19_code
def yX11_ripeInAll : MethodName := ⟨RX11, "ripeInAll", "()I"⟩
abbrev cX11_told : ByteArray := prog_13_method_20_code
def yX11_told : MethodName := ⟨RX11, "told", "(I)I"⟩
abbrev cX11_bush : ByteArray := prog_13_method_21_code
def yX11_bush : MethodName := ⟨RX11, "bush", "(II)I"⟩
abbrev cX11_picker : ByteArray := prog_13_method_22_code
def yX11_picker : MethodName := ⟨RX11, "picker", "(II)I"⟩
abbrev cX11_givesOf : ByteArray := prog_13_method_23_code
def yX11_givesOf : MethodName := ⟨RX11, "givesOf", "(II)I"⟩
abbrev cX11_gives : ByteArray := prog_13_method_24_code
def yX11_gives : MethodName := ⟨RX11, "gives", "(II)I"⟩
abbrev cX11_momentsOf : ByteArray := prog_13_method_25_code
def yX11_momentsOf : MethodName := ⟨RX11, "momentsOf", "(IIII)I"⟩
abbrev cX11_wayOf : ByteArray := prog_13_method_26_code
def yX11_wayOf : MethodName := ⟨RX11, "wayOf", "(II)I"⟩
abbrev cX11_way : ByteArray := prog_13_method_27_code
def yX11_way : MethodName := ⟨RX11, "way", "(II)I"⟩
abbrev cX11_handfulTakes : ByteArray := prog_13_method_28_code
def yX11_handfulTakes : MethodName := ⟨RX11, "handfulTakes", "(I)I"⟩
abbrev cX11_rest : ByteArray := prog_13_method_29_code
def yX11_rest : MethodName := ⟨RX11, "rest", "(II)I"⟩
abbrev cX11_handful : ByteArray := prog_13_method_30_code
def yX11_handful : MethodName := ⟨RX11, "handful", "(II)I"⟩
abbrev cX11_go : ByteArray := prog_13_method_31_code
def yX11_go : MethodName := ⟨RX11, "go", "(II)I"⟩
abbrev cX11_atMost : ByteArray := prog_13_method_32_code
def yX11_atMost : MethodName := ⟨RX11, "atMost", "(II)I"⟩
abbrev cX11_pickNow : ByteArray := prog_13_method_33_code
def yX11_pickNow : MethodName := ⟨RX11, "pickNow", "(III)I"⟩
abbrev cX11_pick : ByteArray := prog_13_method_34_code
def yX11_pick : MethodName := ⟨RX11, "pick", "(III)I"⟩
abbrev cX11_stick : ByteArray := prog_13_method_35_code
def yX11_stick : MethodName := ⟨RX11, "stick", "(IZ)I"⟩
abbrev cX11_pour : ByteArray := prog_13_method_36_code
def yX11_pour : MethodName := ⟨RX11, "pour", "(I)I"⟩
abbrev cX11_ripen : ByteArray := prog_13_method_37_code
def yX11_ripen : MethodName := ⟨RX11, "ripen", "(IZ)V"⟩
abbrev cX11_dayNow : ByteArray := prog_13_method_38_code
def yX11_dayNow : MethodName := ⟨RX11, "dayNow", "(Z)V"⟩
abbrev cX11_day : ByteArray := prog_13_method_39_code
def yX11_day : MethodName := ⟨RX11, "day", "(IZ)I"⟩
abbrev cX11_draw : ByteArray := prog_13_method_40_code
def yX11_draw : MethodName := ⟨RX11, "draw", "(I)I"⟩
abbrev cX11_drift : ByteArray := prog_13_method_41_code
def yX11_drift : MethodName := ⟨RX11, "drift", "(I)I"⟩
abbrev cX11_save : ByteArray := prog_13_method_42_code
def yX11_save : MethodName := ⟨RX11, "save", "()V"⟩
abbrev cX11_putBack : ByteArray := prog_13_method_43_code
def yX11_putBack : MethodName := ⟨RX11, "putBack", "(I)V"⟩
abbrev cX11_putAllBack : ByteArray := prog_13_method_44_code
def yX11_putAllBack : MethodName := ⟨RX11, "putAllBack", "()V"⟩
abbrev cX11_length : ByteArray := prog_13_method_45_code
def yX11_length : MethodName := ⟨RX11, "length", "(III)I"⟩
abbrev cX11_findGains : ByteArray := prog_13_method_46_code
def yX11_findGains : MethodName := ⟨RX11, "findGains", "(II)V"⟩
abbrev cX11_stateOf : ByteArray := prog_13_method_47_code
def yX11_stateOf : MethodName := ⟨RX11, "stateOf", "(III)I"⟩
abbrev cX11_wayBetween : ByteArray := prog_13_method_48_code
def yX11_wayBetween : MethodName := ⟨RX11, "wayBetween", "(III)I"⟩
abbrev cX11_byNext : ByteArray := prog_13_method_49_code
def yX11_byNext : MethodName := ⟨RX11, "byNext", "(IIIIII)I"⟩
abbrev cX11_findMost : ByteArray := prog_13_method_50_code
def yX11_findMost : MethodName := ⟨RX11, "findMost", "(II)V"⟩
abbrev cX11_best : ByteArray := prog_13_method_51_code
def yX11_best : MethodName := ⟨RX11, "best", "(IIII)I"⟩
abbrev cX11_findCans : ByteArray := prog_13_method_52_code
def yX11_findCans : MethodName := ⟨RX11, "findCans", "(I)V"⟩
abbrev cX11_figure : ByteArray := prog_13_method_53_code
def yX11_figure : MethodName := ⟨RX11, "figure", "(II)I"⟩
abbrev cX11_allBy : ByteArray := prog_13_method_54_code
def yX11_allBy : MethodName := ⟨RX11, "allBy", "(I)I"⟩
abbrev cX11_where : ByteArray := prog_13_method_55_code
def yX11_where : MethodName := ⟨RX11, "where", "(II)I"⟩
abbrev cX11_rivalHas : ByteArray := prog_13_method_56_code
def yX11_rivalHas : MethodName := ⟨RX11, "rivalHas", "(IIIIIZ)I"⟩
abbrev cX11_bestAgainst : ByteArray := prog_13_method_57_code
def yX11_bestAgainst : MethodName := ⟨RX11, "bestAgainst", "(IIIIIZ)I"⟩
abbrev cX11_rivals : ByteArray := prog_13_method_58_code
def yX11_rivals : MethodName := ⟨RX11, "rivals", "(IIII)I"⟩
abbrev cX11_again : ByteArray := prog_13_method_59_code
def yX11_again : MethodName := ⟨RX11, "again", "(III)I"⟩
abbrev cX11_odds : ByteArray := prog_13_method_60_code
def yX11_odds : MethodName := ⟨RX11, "odds", "(IIII)I"⟩
abbrev cX11_bestOf : ByteArray := prog_13_method_61_code
def yX11_bestOf : MethodName := ⟨RX11, "bestOf", "(II)I"⟩
abbrev cX11_whom : ByteArray := prog_13_method_62_code
def yX11_whom : MethodName := ⟨RX11, "whom", "(II)I"⟩
abbrev cX11_left : ByteArray := prog_13_method_63_code
def yX11_left : MethodName := ⟨RX11, "left", "(III)I"⟩
abbrev cX11_isLeft : ByteArray := prog_13_method_64_code
def yX11_isLeft : MethodName := ⟨RX11, "isLeft", "(II)Z"⟩
abbrev cX11_wasVisited : ByteArray := prog_13_method_65_code
def yX11_wasVisited : MethodName := ⟨RX11, "wasVisited", "(III)Z"⟩
abbrev cX11_visited : ByteArray := prog_13_method_66_code
def yX11_visited : MethodName := ⟨RX11, "visited", "(II)I"⟩
abbrev cX11_can : ByteArray := prog_13_method_67_code
def yX11_can : MethodName := ⟨RX11, "can", "(IIII)I"⟩
abbrev cX11_isCan : ByteArray := prog_13_method_68_code
def yX11_isCan : MethodName := ⟨RX11, "isCan", "(II)Z"⟩
abbrev cX11_eats : ByteArray := prog_13_method_69_code
def yX11_eats : MethodName := ⟨RX11, "eats", "(I)I"⟩
abbrev cX11_write : ByteArray := prog_13_method_70_code
def yX11_write : MethodName := ⟨RX11, "write", "(III)I"⟩
abbrev cX11_judge : ByteArray := prog_13_method_71_code
def yX11_judge : MethodName := ⟨RX11, "judge", "()I"⟩
abbrev cX11_tear : ByteArray := prog_13_method_72_code
def yX11_tear : MethodName := ⟨RX11, "tear", "()I"⟩
abbrev cX11_seed : ByteArray := prog_13_method_73_code
def yX11_seed : MethodName := ⟨RX11, "seed", "(I)I"⟩
abbrev cX11_keep : ByteArray := prog_13_method_74_code
def yX11_keep : MethodName := ⟨RX11, "keep", "(I)I"⟩
abbrev cX11_goBack : ByteArray := prog_13_method_75_code
def yX11_goBack : MethodName := ⟨RX11, "goBack", "(I)I"⟩
def RJ9 : String := "java/lang/Math"
def TJ9 : u_T := fun k => match k with
  | _ => ("", "", "", false)
def tyJ9 : Nat → FieldType := fun k => match k with
  | _ => .int
abbrev wsJ90 : List Cond := u_ws RJ9 TJ9 0
theorem nmJ9 : ∀ a, a < 0 → ∀ b, b < 0 → a ≠ b → (TJ9 a).2.1 ≠ (TJ9 b).2.1 := by decide +kernel
theorem tyJ9_ok : ∀ k, k < 0 → parseFieldDescriptor (TJ9 k).2.2.1 = some (tyJ9 k) := by decide +kernel
abbrev cJ9_abs_0f7a4 : ByteArray := prog_14_method_59_code
def yJ9_abs_0f7a4 : MethodName := ⟨RJ9, "abs", "(I)I"⟩
abbrev cJ9_max_7cf53 : ByteArray := prog_14_method_65_code
def yJ9_max_7cf53 : MethodName := ⟨RJ9, "max", "(II)I"⟩
abbrev cJ9_min_7cf53 : ByteArray := prog_14_method_69_code
def yJ9_min_7cf53 : MethodName := ⟨RJ9, "min", "(II)I"⟩
def RJ10 : String := "java/lang/System"
def TJ10 : u_T := fun k => match k with
  | _ => ("", "", "", false)
def tyJ10 : Nat → FieldType := fun k => match k with
  | _ => .int
abbrev wsJ100 : List Cond := u_ws RJ10 TJ10 0
theorem nmJ10 : ∀ a, a < 0 → ∀ b, b < 0 → a ≠ b → (TJ10 a).2.1 ≠ (TJ10 b).2.1 := by decide +kernel
theorem tyJ10_ok : ∀ k, k < 0 → parseFieldDescriptor (TJ10 k).2.2.1 = some (tyJ10 k) := by decide +kernel
def RJ7 : String := "java/util/Arrays"
def TJ7 : u_T := fun k => match k with
  | _ => ("", "", "", false)
def tyJ7 : Nat → FieldType := fun k => match k with
  | _ => .int
abbrev wsJ70 : List Cond := u_ws RJ7 TJ7 0
theorem nmJ7 : ∀ a, a < 0 → ∀ b, b < 0 → a ≠ b → (TJ7 a).2.1 ≠ (TJ7 b).2.1 := by decide +kernel
theorem tyJ7_ok : ∀ k, k < 0 → parseFieldDescriptor (TJ7 k).2.2.1 = some (tyJ7 k) := by decide +kernel
abbrev cJ7_fill_53178 : ByteArray := prog_16_method_103_code
def yJ7_fill_53178 : MethodName := ⟨RJ7, "fill", "([II)V"⟩
def RL : String := "BerryLaneLaw"
abbrev cL_law : ByteArray := code
def yL_law : MethodName := ⟨RL, "law", "([I)Z"⟩
abbrev vwCl : List vw_C := [(RX0, TX0, 16), (RX1, TX1, 6), (RX2, TX2, 5), (RX3, TX3, 7), (RX4, TX4, 4), (RX5, TX5, 8), (RX6, TX6, 7), (RX7, TX7, 8), (RX8, TX8, 8), (RX9, TX9, 6), (RX10, TX10, 11), (RX11, TX11, 64)]
end
section
def bl_N : Nat := 147
-- 0: lane X10 
-- 1: model X11 
-- 2: reader X7 
-- 3: bestWay X0 
-- 4: places X6 
-- 5: contest X2 
-- 6: seen X8 
-- 7: triedBush X1 
-- 8: triedPicker X5 
-- 9: images L[] 2
-- 10: now X3 
-- 11: now.law X4 
-- 12: now.bushes B[] 6
-- 13: now.pickers P[] 4
-- 14: now.b0 X1 
-- 15: now.b1 X1 
-- 16: now.b2 X1 
-- 17: now.b3 X1 
-- 18: now.b4 X1 
-- 19: now.b5 X1 
-- 20: now.p0 X5 
-- 21: now.p1 X5 
-- 22: now.p2 X5 
-- 23: now.p3 X5 
-- 24: im0 X3 
-- 25: im0.law X4 
-- 26: im0.bushes B[] 6
-- 27: im0.pickers P[] 4
-- 28: im0.b0 X1 
-- 29: im0.b1 X1 
-- 30: im0.b2 X1 
-- 31: im0.b3 X1 
-- 32: im0.b4 X1 
-- 33: im0.b5 X1 
-- 34: im0.p0 X5 
-- 35: im0.p1 X5 
-- 36: im0.p2 X5 
-- 37: im0.p3 X5 
-- 38: im1 X3 
-- 39: im1.law X4 
-- 40: im1.bushes B[] 6
-- 41: im1.pickers P[] 4
-- 42: im1.b0 X1 
-- 43: im1.b1 X1 
-- 44: im1.b2 X1 
-- 45: im1.b3 X1 
-- 46: im1.b4 X1 
-- 47: im1.b5 X1 
-- 48: im1.p0 X5 
-- 49: im1.p1 X5 
-- 50: im1.p2 X5 
-- 51: im1.p3 X5 
-- 52: draft X3 
-- 53: draft.law X4 
-- 54: draft.bushes B[] 6
-- 55: draft.pickers P[] 4
-- 56: draft.b0 X1 
-- 57: draft.b1 X1 
-- 58: draft.b2 X1 
-- 59: draft.b3 X1 
-- 60: draft.b4 X1 
-- 61: draft.b5 X1 
-- 62: draft.p0 X5 
-- 63: draft.p1 X5 
-- 64: draft.p2 X5 
-- 65: draft.p3 X5 
-- 66: kept Z[] 2
-- 67: reader.text C[] 230
-- 68: reader.numbers I[] 6
-- 69: bestWay.stopBush I[] 6
-- 70: bestWay.stopHandfuls I[] 6
-- 71: bestWay.shortest I[] 448
-- 72: bestWay.gathered I[] 1600
-- 73: bestWay.gains I[] 150
-- 74: bestWay.useful I[] 6
-- 75: bestWay.handfulMoments I[] 6
-- 76: bestWay.wayMoments I[] 42
-- 77: bestWay.trial X1 
-- 78: places.gains I[] 24
-- 79: places.row I[] 4
-- 80: places.bestRow I[] 4
-- 81: places.trial X1 
-- 82: contest.trial X1 
-- 83: seen.remains X9 
-- 84: seen.cans X9 
-- 85: seen.book X9 
-- 86: seen.untouched X1 
-- 87: seen.trial X1 
-- 88: seen.guess X5 
-- 89: seen.ripeThen I[] 6
-- 90: seen.remains.picker I[] 20
-- 91: seen.remains.bush I[] 20
-- 92: seen.remains.number I[] 20
-- 93: seen.remains.much I[] 20
-- 94: seen.cans.picker I[] 20
-- 95: seen.cans.bush I[] 20
-- 96: seen.cans.number I[] 20
-- 97: seen.cans.much I[] 20
-- 98: seen.book.picker I[] 20
-- 99: seen.book.bush I[] 20
-- 100: seen.book.number I[] 20
-- 101: seen.book.much I[] 20
-- 102: model.bushAt I[] 6
-- 103: model.bushSide I[] 6
-- 104: model.kind I[] 6
-- 105: model.red I[] 6
-- 106: model.ripe I[] 6
-- 107: model.soft I[] 6
-- 108: model.yard I[] 4
-- 109: model.side I[] 4
-- 110: model.quick I[] 4
-- 111: model.eats I[] 4
-- 112: model.high Z[] 4
-- 113: model.can I[] 4
-- 114: model.eaten I[] 4
-- 115: model.clock I[] 4
-- 116: model.text I[] 230
-- 117: model.readLaw I[] 3
-- 118: model.readHolds I[] 1
-- 119: model.readAt I[] 6
-- 120: model.readSide I[] 6
-- 121: model.readKind I[] 6
-- 122: model.readRed I[] 6
-- 123: model.readRipe I[] 6
-- 124: model.readSoft I[] 6
-- 125: model.readYard I[] 4
-- 126: model.readQuick I[] 4
-- 127: model.readEats I[] 4
-- 128: model.readHigh I[] 4
-- 129: model.wasRed I[] 6
-- 130: model.wasRipe I[] 6
-- 131: model.wasSoft I[] 6
-- 132: model.gains I[] 150
-- 133: model.most I[] 11200
-- 134: model.cansAt I[] 24
-- 135: model.leftBush I[] 8
-- 136: model.leftDays I[] 8
-- 137: model.leftRipe I[] 8
-- 138: model.canWho I[] 8
-- 139: model.canBush I[] 8
-- 140: model.canHands I[] 8
-- 141: model.canMuch I[] 8
-- 142: model.bookWho I[] 20
-- 143: model.bookBush I[] 20
-- 144: model.bookGave I[] 20
-- 145: model.images I[] 100
-- 146: model.isKept Z[] 2
def bl_kdT : List Nat := [10, 11, 7, 0, 6, 2, 8, 1, 5, 25, 3, 4, 23, 24, 1, 1, 1, 1, 1, 1, 5, 5, 5, 5, 3, 4, 23, 24, 1, 1, 1, 1, 1, 1, 5, 5, 5, 5, 3, 4, 23, 24, 1, 1, 1, 1, 1, 1, 5, 5, 5, 5, 3, 4, 23, 24, 1, 1, 1, 1, 1, 1, 5, 5, 5, 5, 22, 21, 20, 20, 20, 20, 20, 20, 20, 20, 20, 1, 20, 20, 20, 1, 1, 9, 9, 9, 1, 1, 5, 20, 20, 20, 20, 20, 20, 20, 20, 20, 20, 20, 20, 20, 20, 20, 20, 20, 20, 20, 20, 20, 20, 20, 22, 20, 20, 20, 20, 20, 20, 20, 20, 20, 20, 20, 20, 20, 20, 20, 20, 20, 20, 20, 20, 20, 20, 20, 20, 20, 20, 20, 20, 20, 20, 20, 20, 20, 22, 26, 26, 26, 26]
def bl_lnT : List Nat := [11, 64, 8, 16, 7, 5, 8, 6, 8, 2, 7, 4, 6, 4, 6, 6, 6, 6, 6, 6, 8, 8, 8, 8, 7, 4, 6, 4, 6, 6, 6, 6, 6, 6, 8, 8, 8, 8, 7, 4, 6, 4, 6, 6, 6, 6, 6, 6, 8, 8, 8, 8, 7, 4, 6, 4, 6, 6, 6, 6, 6, 6, 8, 8, 8, 8, 2, 230, 6, 6, 6, 448, 1600, 150, 6, 6, 42, 6, 24, 4, 4, 6, 6, 6, 6, 6, 6, 6, 8, 6, 20, 20, 20, 20, 20, 20, 20, 20, 20, 20, 20, 20, 6, 6, 6, 6, 6, 6, 4, 4, 4, 4, 4, 4, 4, 4, 230, 3, 1, 6, 6, 6, 6, 6, 6, 4, 4, 4, 4, 6, 6, 6, 150, 11200, 24, 8, 8, 8, 8, 8, 8, 8, 20, 20, 20, 100, 2, 6, 12, 8, 2]
def bl_rfT : List (Nat → Nat) := [fun j => [2, 10, 9, 66, 3, 4, 5, 6, 7, 8, 0].getD j 0, fun j => [0, 0, 0, 0, 0, 102, 103, 104, 105, 106, 107, 0, 108, 109, 110, 111, 112, 113, 114, 115, 0, 0, 116, 0, 0, 0, 0, 0, 117, 0, 118, 0, 119, 120, 121, 122, 123, 124, 0, 125, 126, 127, 128, 129, 130, 131, 132, 133, 134, 0, 135, 136, 137, 0, 138, 139, 140, 141, 0, 142, 143, 144, 145, 146].getD j 0, fun j => [52, 0, 0, 67, 68, 0, 0, 0].getD j 0, fun j => [0, 0, 69, 70, 71, 72, 73, 74, 75, 76, 77, 0, 0, 0, 0, 0].getD j 0, fun j => [0, 78, 79, 80, 81, 0, 0].getD j 0, fun j => [0, 0, 0, 0, 82].getD j 0, fun j => [83, 84, 85, 0, 86, 87, 88, 89].getD j 0, fun _ => 0, fun _ => 0, fun j => 24 + 14 * j, fun j => [11, 12, 13, 0, 0, 0, 0].getD j 0, fun _ => 0, fun j => 14 + j, fun j => 20 + j, fun _ => 0, fun _ => 0, fun _ => 0, fun _ => 0, fun _ => 0, fun _ => 0, fun _ => 0, fun _ => 0, fun _ => 0, fun _ => 0, fun j => [25, 26, 27, 0, 0, 0, 0].getD j 0, fun _ => 0, fun j => 28 + j, fun j => 34 + j, fun _ => 0, fun _ => 0, fun _ => 0, fun _ => 0, fun _ => 0, fun _ => 0, fun _ => 0, fun _ => 0, fun _ => 0, fun _ => 0, fun j => [39, 40, 41, 0, 0, 0, 0].getD j 0, fun _ => 0, fun j => 42 + j, fun j => 48 + j, fun _ => 0, fun _ => 0, fun _ => 0, fun _ => 0, fun _ => 0, fun _ => 0, fun _ => 0, fun _ => 0, fun _ => 0, fun _ => 0, fun j => [53, 54, 55, 0, 0, 0, 0].getD j 0, fun _ => 0, fun j => 56 + j, fun j => 62 + j, fun _ => 0, fun _ => 0, fun _ => 0, fun _ => 0, fun _ => 0, fun _ => 0, fun _ => 0, fun _ => 0, fun _ => 0, fun _ => 0, fun _ => 0, fun _ => 0, fun _ => 0, fun _ => 0, fun _ => 0, fun _ => 0, fun _ => 0, fun _ => 0, fun _ => 0, fun _ => 0, fun _ => 0, fun _ => 0, fun _ => 0, fun _ => 0, fun _ => 0, fun _ => 0, fun _ => 0, fun j => [90, 91, 92, 93, 0, 0].getD j 0, fun j => [94, 95, 96, 97, 0, 0].getD j 0, fun j => [98, 99, 100, 101, 0, 0].getD j 0, fun _ => 0, fun _ => 0, fun _ => 0, fun _ => 0, fun _ => 0, fun _ => 0, fun _ => 0, fun _ => 0, fun _ => 0, fun _ => 0, fun _ => 0, fun _ => 0, fun _ => 0, fun _ => 0, fun _ => 0, fun _ => 0, fun _ => 0, fun _ => 0, fun _ => 0, fun _ => 0, fun _ => 0, fun _ => 0, fun _ => 0, fun _ => 0, fun _ => 0, fun _ => 0, fun _ => 0, fun _ => 0, fun _ => 0, fun _ => 0, fun _ => 0, fun _ => 0, fun _ => 0, fun _ => 0, fun _ => 0, fun _ => 0, fun _ => 0, fun _ => 0, fun _ => 0, fun _ => 0, fun _ => 0, fun _ => 0, fun _ => 0, fun _ => 0, fun _ => 0, fun _ => 0, fun _ => 0, fun _ => 0, fun _ => 0, fun _ => 0, fun _ => 0, fun _ => 0, fun _ => 0, fun _ => 0, fun _ => 0, fun _ => 0, fun _ => 0, fun _ => 0, fun _ => 0, fun _ => 0, fun _ => 0]
def bl_frT : List (List Bool) := [[false, false, true, true, true, true, true, true, true, true, true, false, false, false, false, false], [false, false, false, false, false, false], [false, false, false, false, true], [true, true, true, false, false, false, false], [false, false, false, false], [false, false, false, false, false, false, false, false], [false, true, true, true, true, false, false], [true, false, false, true, true, false, false, false], [true, true, true, false, true, true, true, true], [true, true, true, true, false, false], [true, true, true, true, true, true, true, true, true, true, false], [false, false, false, false, false, true, true, true, true, true, true, false, true, true, true, true, true, true, true, true, false, false, true, false, false, false, false, false, true, false, true, false, true, true, true, true, true, true, false, true, true, true, true, true, true, true, true, true, true, false, true, true, true, false, true, true, true, true, false, true, true, true, true, true]]
def bl_roT : List (List Int32) := [[1, 20, 1, 20, 1, 20], [0, 99, 0, 1, 0, 3, 0, 300, 0, 300, 0, 300], [0, 99, 1, 20, 0, 9, 0, 1], [1, 999]]
def bl_rnT : List String := ["LAW_BOUNDS", "BUSH_BOUNDS", "PICKER_BOUNDS", "CAN_BOUNDS"]
def bl_kd (k : Nat) : Nat := bl_kdT.getD k 99
def bl_ln (k : Nat) : Nat := bl_lnT.getD k 0
def bl_rf (k j : Nat) : Nat := (bl_rfT.getD k (fun _ => 0)) j
def bl_fr (ci j : Nat) : Bool := (bl_frT.getD ci []).getD j false
def bl_ro (a j : Nat) : Int32 := (bl_roT.getD (a - bl_N) []).getD j 0
def bl_rn (i : Nat) : String := bl_rnT.getD i ""
end
section
/-! THE WORLD: all cells of class and reference after their making. The references among them never change, so a state is the numbers: cell, slot ↦ Int32. -/
abbrev bl_S : Type := Nat → Nat → Int32
def bl_up (σ : bl_S) (c j : Nat) (v : Int32) : bl_S := fun c' j' => if c' = c ∧ j' = j then v else σ c' j'
def bl_gt : List Cond := lw_tbl.filter goodWord
theorem bl_gt_good : GoodIn bl_gt bl_gt := fun w h => ⟨h, good_of_word (List.mem_filter.mp h).2⟩
theorem bl_gt_tbl {w : Cond} (h : w ∈ bl_gt) : w ∈ lw_tbl := (List.mem_filter.mp h).1
def bl_cell (α : Nat → Nat) (cA : Nat → ClassId) (σ : bl_S) (k : Nat) : va_E :=
  if bl_kd k < 20 then .inr (bl_kd k, (List.range (bl_ln k)).map (fun j => if bl_fr (bl_kd k) j then Value.ref (α (bl_rf k j)) else Value.int (σ k j)))
  else if bl_kd k < 23 then .inl (cA k, bl_ln k, .inl (σ k)) else .inl (cA k, bl_ln k, .inr (.inr (.inr (.inr (fun j => some (α (bl_rf k j)))))))
def bl_aty (k : Nat) : FieldType := if bl_kd k = 21 then .char else if bl_kd k = 22 then .boolean else if bl_kd k = 23 then .object RX1 else if bl_kd k = 24 then .object RX5 else if bl_kd k = 25 then .object RX3 else .int
def bl_ws (α : Nat → Nat) (cA : Nat → ClassId) (σ : bl_S) : va_W := (List.range bl_N).map fun k => (α k, bl_cell α cA σ k)
def bl_tys (cA : Nat → ClassId) : List (ClassId × FieldType) := (List.range bl_N).map fun k => (cA k, bl_aty k)
theorem bl_ws_at {α : Nat → Nat} {cA : Nat → ClassId} {σ : bl_S} {k : Nat} (h : k < bl_N) : (bl_ws α cA σ)[k]? = some (α k, bl_cell α cA σ k) := by
  simp [bl_ws, h]
theorem bl_tys_at {cA : Nat → ClassId} {k : Nat} (h : k < bl_N) : (bl_tys cA)[k]? = some (cA k, bl_aty k) := by
  simp [bl_tys, h]
theorem bl_kd_len : bl_kdT.length = bl_N + 4 := by decide +kernel
theorem bl_kd_ro : ∀ i, i < 4 → bl_kd (bl_N + i) = 26 := by decide +kernel
theorem bl_lt {k c : Nat} (h : bl_kd k = c) (hc : c < 26) : k < bl_N := by
  rcases Nat.lt_or_ge k bl_N with q | q
  · exact q
  · exfalso
    rcases Nat.lt_or_ge k (bl_N + 4) with r | r
    · have := bl_kd_ro (k - bl_N) (by omega)
      rw [show bl_N + (k - bl_N) = k by omega] at this
      omega
    · have : bl_kd k = 99 := by
        unfold bl_kd
        rw [List.getD_eq_getElem?_getD, List.getElem?_eq_none (by rw [bl_kd_len]; omega)]
        rfl
      omega
theorem bl_cell_obj {α : Nat → Nat} {cA : Nat → ClassId} {σ : bl_S} {k ci : Nat} (h : bl_kd k = ci) (hc : ci < 20) : bl_cell α cA σ k = .inr (ci, (List.range (bl_ln k)).map (fun j => if bl_fr ci j then Value.ref (α (bl_rf k j)) else Value.int (σ k j))) := by
  unfold bl_cell
  rw [h, if_pos hc]
theorem bl_cell_arr {α : Nat → Nat} {cA : Nat → ClassId} {σ : bl_S} {k ci : Nat} (h : bl_kd k = ci) (h1 : 20 ≤ ci) (h2 : ci < 23) : bl_cell α cA σ k = .inl (cA k, bl_ln k, .inl (σ k)) := by
  unfold bl_cell
  rw [h, if_neg (by omega), if_pos h2]
theorem bl_cell_refs {α : Nat → Nat} {cA : Nat → ClassId} {σ : bl_S} {k ci : Nat} (h : bl_kd k = ci) (h1 : 23 ≤ ci) : bl_cell α cA σ k = .inl (cA k, bl_ln k, .inr (.inr (.inr (.inr (fun j => some (α (bl_rf k j))))))) := by
  unfold bl_cell
  rw [h, if_neg (by omega), if_neg (by omega)]
theorem bl_ws_set {α : Nat → Nat} {cA : Nat → ClassId} {σ σ' : bl_S} {k : Nat} {E : va_E} (hk : k < bl_N) (h1 : bl_cell α cA σ' k = E) (h2 : ∀ c, c ≠ k → σ' c = σ c) : (bl_ws α cA σ).set k (α k, E) = bl_ws α cA σ' := by
  apply List.ext_getElem?
  intro i
  by_cases hi : i = k
  · subst hi
    rw [List.getElem?_set_self (by simp [bl_ws]; exact hk), bl_ws_at hk, h1]
  · rw [List.getElem?_set_ne (Ne.symm hi)]
    by_cases hn : i < bl_N
    · rw [bl_ws_at hn, bl_ws_at hn]
      have e : bl_cell α cA σ i = bl_cell α cA σ' i := by
        unfold bl_cell
        rw [h2 i hi]
      rw [e]
    · rw [List.getElem?_eq_none (by simp [bl_ws]; omega), List.getElem?_eq_none (by simp [bl_ws]; omega)]
theorem bl_up_ne {σ : bl_S} {c j : Nat} {v : Int32} {c' : Nat} (h : c' ≠ c) : bl_up σ c j v c' = σ c' := by
  funext j'
  simp [bl_up, h]
theorem bl_up_eq {σ : bl_S} {c j : Nat} {v : Int32} : bl_up σ c j v c = upd (σ c) j v := by
  funext j'
  simp [bl_up, upd]
theorem bl_ws_put {α : Nat → Nat} {cA : Nat → ClassId} {σ : bl_S} {k ci j : Nat} {x : Int32} (h : bl_kd k = ci) (hc : ci < 20) (hf : bl_fr ci j = false) :
    (bl_ws α cA σ).set k (α k, .inr (ci, ((List.range (bl_ln k)).map (fun j => if bl_fr ci j then Value.ref (α (bl_rf k j)) else Value.int (σ k j))).set j (.int x))) = bl_ws α cA (bl_up σ k j x) := by
  refine bl_ws_set (bl_lt h (by omega)) ?_ (fun c hc => bl_up_ne hc)
  rw [bl_cell_obj h hc]
  congr 2
  apply List.ext_getElem?
  intro i
  by_cases hi : i = j
  · subst hi
    by_cases hl : i < bl_ln k
    · rw [List.getElem?_set_self (by simp; exact hl)]
      simp [hl, hf, bl_up]
    · rw [List.getElem?_eq_none (by simp; omega), List.getElem?_eq_none (by simp; omega)]
  · rw [List.getElem?_set_ne (Ne.symm hi)]
    by_cases hl : i < bl_ln k
    · simp [bl_up, hi, hl]
    · rw [List.getElem?_eq_none (by simp; omega), List.getElem?_eq_none (by simp; omega)]
theorem bl_ws_ast {α : Nat → Nat} {cA : Nat → ClassId} {σ : bl_S} {k ci j : Nat} {x : Int32} (h : bl_kd k = ci) (h1 : 20 ≤ ci) (h2 : ci < 23) : (bl_ws α cA σ).set k (α k, .inl (cA k, bl_ln k, .inl (upd (σ k) j x))) = bl_ws α cA (bl_up σ k j x) := by
  refine bl_ws_set (bl_lt h (by omega)) ?_ (fun c hc => bl_up_ne hc)
  rw [bl_cell_arr h h1 h2, bl_up_eq]
/-- a method: name, code, locals, answer's type, frames, words, the links that its code uses -/
abbrev bl_MI : Type := MethodName × ByteArray × Nat × Option FieldType × Nat × Nat × List Cond
abbrev bl_En : Type := Nat × Instr × Nat × Nat × Nat × Nat × Nat × Int32 × Int64 × List (Int32 × Nat)
def bl_nestW : Cond := .methodLinkNest RX7 104 yX10_within RX10
/-- what is read and never written: the four tables of the reader; one link of a nest mate -/
def bl_RO (α : Nat → Nat) (A : Nat → Prop) (U : State) (H : Heap) : Prop :=
  (∀ i, i < 4 → va_Z RX7 (bl_rn i) "[I" (.ref (α (bl_N + i))) A U H ∧ va_T .int (α (bl_N + i)) (bl_ln (bl_N + i)) (fun j => .int (bl_ro (bl_N + i) j)) A U H) ∧ va_Nw bl_nestW U
theorem bl_RO.at {α : Nat → Nat} {A B : Nat → Prop} {s U : State} {H : Heap} {locs : List Loc} (h : bl_RO α A s s.heap) (hS : va_S A s.heap H locs) (hB : ∀ q, B q → A q) (hW : s.WarmedH U.vm) : bl_RO α B U H := by
  refine ⟨fun i hi => ⟨?_, ?_⟩, va_Nw.warmM hW h.2⟩
  · exact (va_Z.moved hW.alike ((h.1 i hi).1.kept hS.2.1)).narrow hB
  · exact (va_T.moved hW.alike ((h.1 i hi).2.kept hS.2.1)).narrow hB
theorem bl_RO.calling {α : Nat → Nat} {A : Nat → Prop} {U : State} {g : JFrame} {mk : MethodId} {a : Array Value} {H : Heap} (h : bl_RO α A U H) : bl_RO α A (U.calling g mk a) H :=
  ⟨fun i hi => ⟨va_Z.moved (u := U) (U := U.calling g mk a) (Vm.Alike.refl U.vm) (h.1 i hi).1, va_T.moved (u := U) (U := U.calling g mk a) (Vm.Alike.refl U.vm) (h.1 i hi).2⟩, va_Nw.same rfl (rfl : U.vm = (U.calling g mk a).vm) h.2⟩
def bl_A (α : Nat → Nat) : Nat → Prop := fun q => ∃ k, k < bl_N ∧ q = α k
def bl_inj (α : Nat → Nat) : Prop := ∀ i j : Nat, i < bl_N → j < bl_N → α i = α j → i = j
theorem bl_D {α : Nat → Nat} {cA : Nat → ClassId} {σ : bl_S} {A : Nat → Prop} (hi : bl_inj α) (hA : ∀ k, k < bl_N → A (α k)) : va_D A (bl_ws α cA σ) := by
  have key : ∀ (k : Nat) (q : Nat × va_E), (bl_ws α cA σ)[k]? = some q → k < bl_N ∧ q.1 = α k := by
    intro k q hk
    by_cases h : k < bl_N
    · rw [bl_ws_at h] at hk
      cases hk
      exact ⟨h, rfl⟩
    · rw [List.getElem?_eq_none (by simp [bl_ws]; omega)] at hk
      cases hk
  refine ⟨fun i j p q h1 h2 e => ?_, fun k q hk => ?_⟩
  · obtain ⟨a1, a2⟩ := key i p h1
    obtain ⟨b1, b2⟩ := key j q h2
    exact hi i j a1 b1 (by rw [← a2, ← b2]; exact e)
  · obtain ⟨a1, a2⟩ := key k q hk
    rw [a2]
    exact hA k a1
def bl_cv (α : Nat → Nat) : Value → Value
  | .ref a => .ref (α a)
  | v => v
def bl_cl (α : Nat → Nat) (lv : List (Nat × Value)) : List (Nat × Value) := lv.map fun q => (q.1, bl_cv α q.2)
theorem bl_cv_cat (α : Nat → Nat) (v : Value) : (bl_cv α v).category = v.category := by cases v <;> rfl
/-- what holds all along a method's body -/
def bl_CX (M : bl_MI) (D : va_G) (α : Nat → Nat) (cA : Nat → ClassId) (A : Nat → Prop) (p : Program) (R : Room) (s : State) (m : MethodId) (args : Array Value) (meth : Method) (c : Code) (cells slots : Nat) : Prop :=
  p.tables.exec = Jvm.exec ∧ c.code = M.2.1 ∧ c.maxLocals = M.2.2.1 ∧ meth.sig.returnType = M.2.2.2.1 ∧ meth.locks = false ∧ s.vm.findClass M.1.cls = some m.cls ∧ (∀ w ∈ bl_gt, w.before args s = true) ∧ va_K D vwCl (bl_tys cA) s ∧ bl_inj α ∧ (∀ k, k < bl_N → A (α k)) ∧ bl_RO α A s s.heap ∧ M.2.2.2.2.1 ≤ R.frames ∧ M.2.2.2.2.2.1 ≤ R.locals ∧ cells ≤ R.cells ∧ slots ≤ R.slots
/-- an answer stands at a return instruction -/
def bl_ret (M : bl_MI) (pc : Nat) (v : Option Value) : Prop := match v with
  | none => decode M.2.1 pc = .ok (.return_, 1) ∧ M.2.2.2.1 = none
  | some (.int x) => decode M.2.1 pc = .ok (.ireturn, 1) ∧ ∃ ty, M.2.2.2.1 = some ty ∧ narrow ty (.int x) = .int x
  | some (.ref _) => decode M.2.1 pc = .ok (.areturn, 1) ∧ ∃ ty, M.2.2.2.1 = some (.array ty)
  | _ => False
/-- from here, in any machine that holds the world σ, the method comes to an end with Q -/
def bl_Wx (M : bl_MI) (pc : Nat) (lv : List (Nat × Value)) (st : List Value) (σ : bl_S) (Q : Option Value → bl_S → Prop) : Prop :=
  ∀ (p : Program) (l : Launch) (e : Env) (R : Room) (s : State) (m : MethodId) (args : Array Value) (below : List Frame) (meth : Method) (c : Code) (cells slots : Nat) (Qf : State → Prop) (D : va_G) (α : Nat → Nat) (cA : Nat → ClassId) (A : Nat → Prop),
    bl_CX M D α cA A p R s m args meth c cells slots →
    (∀ (pc : Nat) (v : Option Value) (σ : bl_S) (H : Heap) (locs : List Loc) (ls : Array Slot), Q v σ → va_P D vwCl (bl_ws α cA σ) H → va_S A s.heap H locs → bl_ret M pc v → W p l e R s m args below meth c H locs cells slots Qf (F0 m pc ls (v.map (bl_cv α)).toList)) →
    ∀ (H : Heap) (locs : List Loc) (ls : Array Slot), va_P D vwCl (bl_ws α cA σ) H → va_S A s.heap H locs → lv_has ls M.2.2.1 (bl_cl α lv) → W p l e R s m args below meth c H locs cells slots Qf (F0 m pc ls (st.map (bl_cv α)))
def bl_wz (M : bl_MI) : List Cond := Cond.code M.1 M.2.1 M.2.2.1 M.2.2.2.1 :: bl_gt
def bl_rm (M : bl_MI) : Room := { frames := M.2.2.2.2.1, cells := 0, slots := 0, locals := M.2.2.2.2.2.1 }
def bl_Wd (D : va_G) (α : Nat → Nat) (cA : Nat → ClassId) (σ : bl_S) (U : State) : Prop := va_P D vwCl (bl_ws α cA σ) U.heap ∧ va_K D vwCl (bl_tys cA) U ∧ bl_inj α ∧ bl_RO α (bl_A α) U U.heap
def bl_Qc (D : va_G) (α : Nat → Nat) (cA : Nat → ClassId) (r : Option Value) (σ : bl_S) : Array Value → State → Outcome → State → Prop := fun _ st oc t => (oc = .returned (r.map (bl_cv α)) ∧ va_P D vwCl (bl_ws α cA σ) t.heap) ∧ va_F (bl_A α) st t
/-- a method's contract: from the world σ it answers r and leaves the world σ' -/
def bl_Con (M : bl_MI) (as : List Value) (σ : bl_S) (r : Option Value) (σ' : bl_S) : Prop :=
  ∀ (l : Launch) (D : va_G) (α : Nat → Nat) (cA : Nat → ClassId), Met l M.1 (bl_wz M) (bl_rm M) (va_Pc (as.map (bl_cv α)) (bl_Wd D α cA σ)) (bl_Qc D α cA r σ') 0 0 (bl_A α)
end
section
/-! THE WALK AS A PROPOSITION: what must hold for a stretch of code to run through. -/
def bl_pi (st : List Value) (K : Int32 → List Value → Prop) : Prop := match st with
  | .int x :: r => K x r
  | _ => False
def bl_pii (st : List Value) (K : Int32 → Int32 → List Value → Prop) : Prop := match st with
  | .int y :: .int x :: r => K x y r
  | _ => False
def bl_pl (st : List Value) (K : Int64 → List Value → Prop) : Prop := match st with
  | .long x :: r => K x r
  | _ => False
def bl_pll (st : List Value) (K : Int64 → Int64 → List Value → Prop) : Prop := match st with
  | .long y :: .long x :: r => K x y r
  | _ => False
def bl_pr (st : List Value) (K : Nat → List Value → Prop) : Prop := match st with
  | .ref a :: r => K a r
  | _ => False
def bl_pir (st : List Value) (K : Nat → Int32 → List Value → Prop) : Prop := match st with
  | .int i :: .ref a :: r => K a i r
  | _ => False
def bl_piir (st : List Value) (K : Nat → Int32 → Int32 → List Value → Prop) : Prop := match st with
  | .int x :: .int i :: .ref a :: r => K a i x r
  | _ => False
def bl_p1 (st : List Value) (K : Value → List Value → Prop) : Prop := match st with
  | v :: r => v.category = 1 ∧ K v r
  | _ => False
def bl_p2 (st : List Value) (K : Value → Value → List Value → Prop) : Prop := match st with
  | v :: w :: r => v.category = 1 ∧ w.category = 1 ∧ K v w r
  | _ => False
def bl_pcopy (st : List Value) (K : Nat → Int32 → Nat → Int32 → Int32 → List Value → Prop) : Prop := match st with
  | .int n :: .int dp :: .ref a :: .int sp :: .ref a0 :: r => K a0 sp a dp n r
  | _ => False
theorem bl_pi_e {st : List Value} {K : Int32 → List Value → Prop} (h : bl_pi st K) : ∃ x r, st = .int x :: r ∧ K x r := by
  unfold bl_pi at h
  split at h
  · exact ⟨_, _, rfl, h⟩
  · exact h.elim
theorem bl_pii_e {st : List Value} {K : Int32 → Int32 → List Value → Prop} (h : bl_pii st K) : ∃ x y r, st = .int y :: .int x :: r ∧ K x y r := by
  unfold bl_pii at h
  split at h
  · exact ⟨_, _, _, rfl, h⟩
  · exact h.elim
theorem bl_pl_e {st : List Value} {K : Int64 → List Value → Prop} (h : bl_pl st K) : ∃ x r, st = .long x :: r ∧ K x r := by
  unfold bl_pl at h
  split at h
  · exact ⟨_, _, rfl, h⟩
  · exact h.elim
theorem bl_pll_e {st : List Value} {K : Int64 → Int64 → List Value → Prop} (h : bl_pll st K) : ∃ x y r, st = .long y :: .long x :: r ∧ K x y r := by
  unfold bl_pll at h
  split at h
  · exact ⟨_, _, _, rfl, h⟩
  · exact h.elim
theorem bl_pr_e {st : List Value} {K : Nat → List Value → Prop} (h : bl_pr st K) : ∃ x r, st = .ref x :: r ∧ K x r := by
  unfold bl_pr at h
  split at h
  · exact ⟨_, _, rfl, h⟩
  · exact h.elim
theorem bl_pir_e {st : List Value} {K : Nat → Int32 → List Value → Prop} (h : bl_pir st K) : ∃ a i r, st = .int i :: .ref a :: r ∧ K a i r := by
  unfold bl_pir at h
  split at h
  · exact ⟨_, _, _, rfl, h⟩
  · exact h.elim
theorem bl_piir_e {st : List Value} {K : Nat → Int32 → Int32 → List Value → Prop} (h : bl_piir st K) : ∃ a i x r, st = .int x :: .int i :: .ref a :: r ∧ K a i x r := by
  unfold bl_piir at h
  split at h
  · exact ⟨_, _, _, _, rfl, h⟩
  · exact h.elim
theorem bl_p1_e {st : List Value} {K : Value → List Value → Prop} (h : bl_p1 st K) : ∃ v r, st = v :: r ∧ v.category = 1 ∧ K v r := by
  unfold bl_p1 at h
  split at h
  · exact ⟨_, _, rfl, h⟩
  · exact h.elim
theorem bl_p2_e {st : List Value} {K : Value → Value → List Value → Prop} (h : bl_p2 st K) : ∃ v w r, st = v :: w :: r ∧ v.category = 1 ∧ w.category = 1 ∧ K v w r := by
  unfold bl_p2 at h
  split at h
  · exact ⟨_, _, _, rfl, h⟩
  · exact h.elim
theorem bl_pcopy_e {st : List Value} {K : Nat → Int32 → Nat → Int32 → Int32 → List Value → Prop} (h : bl_pcopy st K) : ∃ a0 sp a dp n r, st = .int n :: .int dp :: .ref a :: .int sp :: .ref a0 :: r ∧ K a0 sp a dp n r := by
  unfold bl_pcopy at h
  split at h
  · exact ⟨_, _, _, _, _, _, rfl, h⟩
  · exact h.elim
def bl_lk : List (Nat × Value) → Nat → Option Value
  | [], _ => none
  | q :: r, i => bif Nat.beq q.1 i then some q.2 else bl_lk r i
theorem bl_lk_mem : ∀ {lv : List (Nat × Value)} {i : Nat} {v : Value}, bl_lk lv i = some v → (i, v) ∈ lv
  | [], _, _, h => by cases h
  | q :: r, i, v, h => by
    unfold bl_lk at h
    cases hb : Nat.beq q.1 i with
    | true =>
      rw [hb] at h
      have : q.1 = i := Nat.eq_of_beq_eq_true hb
      have h2 : q.2 = v := Option.some.inj h
      have h3 : (i, v) = q := by rw [← this, ← h2]
      rw [h3]
      exact List.mem_cons_self
    | false =>
      rw [hb] at h
      exact List.mem_cons_of_mem _ (bl_lk_mem h)
theorem bl_lk_has {α : Nat → Nat} {ls : Array Slot} {n : Nat} {lv : List (Nat × Value)} {i : Nat} {v : Value} (hl : lv_has ls n (bl_cl α lv)) (h : bl_lk lv i = some v) : ls[i]? = some (.val (bl_cv α v)) :=
  hl.2.2 (i, bl_cv α v) (List.mem_map.mpr ⟨(i, v), bl_lk_mem h, rfl⟩)
def bl_li (lv : List (Nat × Value)) (i : Nat) (K : Int32 → Prop) : Prop := match bl_lk lv i with
  | some (.int x) => K x
  | _ => False
def bl_ll (lv : List (Nat × Value)) (i : Nat) (K : Int64 → Prop) : Prop := match bl_lk lv i with
  | some (.long x) => K x
  | _ => False
def bl_lr (lv : List (Nat × Value)) (i : Nat) (K : Nat → Prop) : Prop := match bl_lk lv i with
  | some (.ref x) => K x
  | _ => False
theorem bl_li_e {lv : List (Nat × Value)} {i : Nat} {K : Int32 → Prop} (h : bl_li lv i K) : ∃ x, bl_lk lv i = some (.int x) ∧ K x := by
  unfold bl_li at h
  split at h
  · next hh => exact ⟨_, hh, h⟩
  · exact h.elim
theorem bl_ll_e {lv : List (Nat × Value)} {i : Nat} {K : Int64 → Prop} (h : bl_ll lv i K) : ∃ x, bl_lk lv i = some (.long x) ∧ K x := by
  unfold bl_ll at h
  split at h
  · next hh => exact ⟨_, hh, h⟩
  · exact h.elim
theorem bl_lr_e {lv : List (Nat × Value)} {i : Nat} {K : Nat → Prop} (h : bl_lr lv i K) : ∃ x, bl_lk lv i = some (.ref x) ∧ K x := by
  unfold bl_lr at h
  split at h
  · next hh => exact ⟨_, hh, h⟩
  · exact h.elim
def bl_ins (i : Nat) (v : Value) : List (Nat × Value) → List (Nat × Value)
  | [] => [(i, v)]
  | q :: r => bif Nat.blt i q.1 then (i, v) :: q :: r else q :: bl_ins i v r
theorem bl_ins_mem {i : Nat} {v : Value} {q : Nat × Value} : ∀ {l : List (Nat × Value)}, q ∈ bl_ins i v l → q = (i, v) ∨ q ∈ l
  | [], h => Or.inl (List.mem_singleton.mp h)
  | x :: r, h => by
    unfold bl_ins at h
    cases hb : Nat.blt i x.1 with
    | true =>
      rw [hb] at h
      exact List.mem_cons.mp h
    | false =>
      rw [hb] at h
      rcases List.mem_cons.mp h with h | h
      · exact Or.inr (by rw [h]; exact List.mem_cons_self)
      · rcases bl_ins_mem h with h | h
        · exact Or.inl h
        · exact Or.inr (List.mem_cons_of_mem _ h)
def bl_f1 (i : Nat) (q : Nat × Value) : Bool := !(q.1 == i) && !(q.1 + 1 == i && q.2.category == 2)
def bl_f2 (i : Nat) (q : Nat × Value) : Bool := !(q.1 == i) && (!(q.1 == i + 1) && !(q.1 + 1 == i && q.2.category == 2))
def bl_s1 (lv : List (Nat × Value)) (i : Nat) (v : Value) : List (Nat × Value) := bl_ins i v (lv.filter (bl_f1 i))
def bl_s2 (lv : List (Nat × Value)) (i : Nat) (v : Value) : List (Nat × Value) := bl_ins i v (lv.filter (bl_f2 i))
theorem bl_s1_has {α : Nat → Nat} {ls : Array Slot} {n : Nat} {lv : List (Nat × Value)} {i : Nat} {v : Value} (h : lv_has ls n ((i, bl_cv α v) :: (bl_cl α lv).filter (fun q => !(q.1 == i) && !(q.1 + 1 == i && q.2.category == 2)))) : lv_has ls n (bl_cl α (bl_s1 lv i v)) := by
  refine ⟨h.1, h.2.1, fun q hq => h.2.2 q ?_⟩
  obtain ⟨x, hx, rfl⟩ := List.mem_map.mp hq
  rcases bl_ins_mem hx with rfl | hx
  · exact List.mem_cons_self
  · refine List.mem_cons_of_mem _ (List.mem_filter.mpr ⟨List.mem_map.mpr ⟨x, (List.mem_filter.mp hx).1, rfl⟩, ?_⟩)
    have := (List.mem_filter.mp hx).2
    unfold bl_f1 at this
    rw [bl_cv_cat]
    exact this
theorem bl_s2_has {α : Nat → Nat} {ls : Array Slot} {n : Nat} {lv : List (Nat × Value)} {i : Nat} {v : Value} (h : lv_has ls n ((i, bl_cv α v) :: (bl_cl α lv).filter (fun q => !(q.1 == i) && (!(q.1 == i + 1) && !(q.1 + 1 == i && q.2.category == 2))))) : lv_has ls n (bl_cl α (bl_s2 lv i v)) := by
  refine ⟨h.1, h.2.1, fun q hq => h.2.2 q ?_⟩
  obtain ⟨x, hx, rfl⟩ := List.mem_map.mp hq
  rcases bl_ins_mem hx with rfl | hx
  · exact List.mem_cons_self
  · refine List.mem_cons_of_mem _ (List.mem_filter.mpr ⟨List.mem_map.mpr ⟨x, (List.mem_filter.mp hx).1, rfl⟩, ?_⟩)
    have := (List.mem_filter.mp hx).2
    unfold bl_f2 at this
    rw [bl_cv_cat]
    exact this
def bl_sw (x : Int32) : List (Int32 × Nat) → (Nat → Prop) → Nat → Prop
  | [], K, d => K d
  | q :: r, K, d => (x = q.1 → K q.2) ∧ (¬ x = q.1 → bl_sw x r K d)
def bl_to (es : List bl_En) (t : Nat) : List bl_En := es.dropWhile (fun e => !(Nat.beq e.1 t))
def bl_w8 (st : List Value) : Bool := Nat.ble (st.map fun v => v.category).sum 8
def bl_rcv (st : List Value) (b : Nat) : Prop := match st with
  | .ref q :: _ => bl_kd q = b
  | _ => False
def bl_dr (st : List Value) (a : Nat) : List Value := st.drop a
def bl_ar (st : List Value) (a : Nat) : List Value := (st.take a).reverse
def bl_cpy (σ : bl_S) (a0 a sp dp n : Nat) : bl_S := fun c => if c = a then va_cpy (σ a0) (σ a) sp dp n else σ c
end
section
theorem bl_t0 {w : Cond} {i : Nat} (h : tables_1_1[i]? = some w) (hg : goodWord w = true) : w ∈ bl_gt := List.mem_filter.mpr ⟨List.mem_append_right _ (show w ∈ tables_1 from List.mem_append_left _ (List.mem_of_getElem? h)), hg⟩
theorem bl_t1 {w : Cond} {i : Nat} (h : tables_1_2[i]? = some w) (hg : goodWord w = true) : w ∈ bl_gt := List.mem_filter.mpr ⟨List.mem_append_right _ (show w ∈ tables_1 from List.mem_append_right _ (List.mem_append_left _ (List.mem_of_getElem? h))), hg⟩
theorem bl_t2 {w : Cond} {i : Nat} (h : tables_1_3[i]? = some w) (hg : goodWord w = true) : w ∈ bl_gt := List.mem_filter.mpr ⟨List.mem_append_right _ (show w ∈ tables_1 from List.mem_append_right _ (List.mem_append_right _ (List.mem_append_left _ (List.mem_of_getElem? h)))), hg⟩
theorem bl_t3 {w : Cond} {i : Nat} (h : tables_1_4[i]? = some w) (hg : goodWord w = true) : w ∈ bl_gt := List.mem_filter.mpr ⟨List.mem_append_right _ (show w ∈ tables_1 from List.mem_append_right _ (List.mem_append_right _ (List.mem_append_right _ (List.mem_append_left _ (List.mem_of_getElem? h))))), hg⟩
theorem bl_t4 {w : Cond} {i : Nat} (h : tables_1_5[i]? = some w) (hg : goodWord w = true) : w ∈ bl_gt := List.mem_filter.mpr ⟨List.mem_append_right _ (show w ∈ tables_1 from List.mem_append_right _ (List.mem_append_right _ (List.mem_append_right _ (List.mem_append_right _ (List.mem_append_left _ (List.mem_of_getElem? h)))))), hg⟩
theorem bl_t5 {w : Cond} {i : Nat} (h : tables_1_6[i]? = some w) (hg : goodWord w = true) : w ∈ bl_gt := List.mem_filter.mpr ⟨List.mem_append_right _ (show w ∈ tables_1 from List.mem_append_right _ (List.mem_append_right _ (List.mem_append_right _ (List.mem_append_right _ (List.mem_append_right _ (List.mem_of_getElem? h)))))), hg⟩
theorem bl_ts {w : Cond} {i : Nat} (h : (k2_sels lw_privs)[i]? = some w) (hg : goodWord w = true) : w ∈ bl_gt := List.mem_filter.mpr ⟨List.mem_append_left _ (List.mem_of_getElem? h), hg⟩
def bl_lkJ7 : List Cond := []
set_option maxRecDepth 100000 in
theorem bl_lkJ7_ok : ∀ w ∈ bl_lkJ7, w ∈ bl_gt := fun _ h => absurd h List.not_mem_nil
def bl_lkX0 : List Cond := [.fieldLink RX0 9 "BerryLane$BestWay" "stopBush" "[I", .fieldLink RX0 15 "BerryLane$BestWay" "stopHandfuls" "[I", .fieldLink RX0 18 "BerryLane$BestWay" "shortest" "[I", .fieldLink RX0 21 "BerryLane$BestWay" "gathered" "[I", .fieldLink RX0 24 "BerryLane$BestWay" "gains" "[I", .fieldLink RX0 27 "BerryLane$BestWay" "useful" "[I", .fieldLink RX0 30 "BerryLane$BestWay" "handfulMoments" "[I", .fieldLink RX0 33 "BerryLane$BestWay" "wayMoments" "[I", .fieldLink RX0 39 "BerryLane$BestWay" "trial" "LBerryLane$Bush;", .fieldLink RX0 43 "BerryLane$Lane" "bushCount" "I", .fieldLink RX0 49 "BerryLane$BestWay" "bushCount" "I", .fieldLink RX0 50 "BerryLane$Lane" "bushes" "[LBerryLane$Bush;", .fieldLink RX0 74 "BerryLane$BestWay" "most" "I", .fieldLink RX0 90 "BerryLane$Bush" "yard" "I", .fieldLink RX0 93 "BerryLane$Bush" "side" "I", .fieldLink RX0 111 "BerryLane$BestWay" "stops" "I", .fieldLink RX0 114 "BerryLane$BestWay" "been" "I", .fieldLink RX0 117 "BerryLane$BestWay" "last" "I", .fieldLink RX0 120 "BerryLane$BestWay" "timeLeft" "I", .fieldLink RX0 123 "BerryLane$BestWay" "aim" "I", .methodLink RX0 54 yX0_measureGains, .instanceMethod yX0_measureGains, .selects RX0 yX0_measureGains yX0_measureGains, .initialized RX0, .methodLink RX0 58 yX0_measureWays, .instanceMethod yX0_measureWays, .selects RX0 yX0_measureWays yX0_measureWays, .methodLink RX0 62 yX0_fillShortest, .instanceMethod yX0_fillShortest, .selects RX0 yX0_fillShortest yX0_fillShortest, .methodLink RX0 66 yX0_fillGathered, .instanceMethod yX0_fillGathered, .selects RX0 yX0_fillGathered yX0_fillGathered, .methodLink RX0 70 yX0_mostBeyond, .instanceMethod yX0_mostBeyond, .selects RX0 yX0_mostBeyond yX0_mostBeyond, .methodLink RX0 77 yX1_copyFrom, .instanceMethod yX1_copyFrom, .selects RX1 yX1_copyFrom yX1_copyFrom, .initialized RX1, .methodLink RX0 81 yX1_handfulMoments, .instanceMethod yX1_handfulMoments, .selects RX1 yX1_handfulMoments yX1_handfulMoments, .methodLink RX0 84 yX5_tryHandful, .instanceMethod yX5_tryHandful, .selects RX5 yX5_tryHandful yX5_tryHandful, .initialized RX5, .methodLink RX0 96 yX1_momentsFrom, .instanceMethod yX1_momentsFrom, .selects RX1 yX1_momentsFrom yX1_momentsFrom, .methodLink RX0 100 yX5_momentsTo, .instanceMethod yX5_momentsTo, .selects RX5 yX5_momentsTo yX5_momentsTo, .methodLink RX0 103 Lib.Math.min.name, .static Lib.Math.min.name, .initialized "java/lang/Math", .methodLink RX0 108 Lib.Math.max.name, .static Lib.Math.max.name, .methodLink RX0 126 yX0_findNextStop, .instanceMethod yX0_findNextStop, .selects RX0 yX0_findNextStop yX0_findNextStop, .methodLink RX0 129 yX0_fewestHandfuls, .instanceMethod yX0_fewestHandfuls, .selects RX0 yX0_fewestHandfuls yX0_fewestHandfuls, .methodLink RX0 133 yX0_addStop, .instanceMethod yX0_addStop, .selects RX0 yX0_addStop yX0_addStop]
set_option maxRecDepth 100000 in
theorem bl_lkX0_ok : ∀ w ∈ bl_lkX0, w ∈ bl_gt := List.forall_mem_cons.mpr ⟨bl_t1 (i := 10) rfl rfl, List.forall_mem_cons.mpr ⟨bl_t1 (i := 12) rfl rfl, List.forall_mem_cons.mpr ⟨bl_t1 (i := 14) rfl rfl, List.forall_mem_cons.mpr ⟨bl_t1 (i := 15) rfl rfl, List.forall_mem_cons.mpr ⟨bl_t1 (i := 16) rfl rfl, List.forall_mem_cons.mpr ⟨bl_t1 (i := 17) rfl rfl, List.forall_mem_cons.mpr ⟨bl_t1 (i := 18) rfl rfl, List.forall_mem_cons.mpr ⟨bl_t1 (i := 19) rfl rfl, List.forall_mem_cons.mpr ⟨bl_t1 (i := 20) rfl rfl, List.forall_mem_cons.mpr ⟨bl_t0 (i := 176) rfl rfl, List.forall_mem_cons.mpr ⟨bl_t1 (i := 21) rfl rfl, List.forall_mem_cons.mpr ⟨bl_t0 (i := 164) rfl rfl, List.forall_mem_cons.mpr ⟨bl_t1 (i := 7) rfl rfl, List.forall_mem_cons.mpr ⟨bl_t0 (i := 77) rfl rfl, List.forall_mem_cons.mpr ⟨bl_t0 (i := 82) rfl rfl, List.forall_mem_cons.mpr ⟨bl_t1 (i := 8) rfl rfl, List.forall_mem_cons.mpr ⟨bl_t1 (i := 22) rfl rfl, List.forall_mem_cons.mpr ⟨bl_t1 (i := 23) rfl rfl, List.forall_mem_cons.mpr ⟨bl_t1 (i := 24) rfl rfl, List.forall_mem_cons.mpr ⟨bl_t1 (i := 25) rfl rfl, List.forall_mem_cons.mpr ⟨bl_t2 (i := 235) rfl rfl, List.forall_mem_cons.mpr ⟨bl_t2 (i := 237) rfl rfl, List.forall_mem_cons.mpr ⟨bl_ts (i := 12) rfl rfl, List.forall_mem_cons.mpr ⟨bl_t0 (i := 7) rfl rfl, List.forall_mem_cons.mpr ⟨bl_t3 (i := 2) rfl rfl, List.forall_mem_cons.mpr ⟨bl_t3 (i := 4) rfl rfl, List.forall_mem_cons.mpr ⟨bl_ts (i := 13) rfl rfl, List.forall_mem_cons.mpr ⟨bl_t3 (i := 8) rfl rfl, List.forall_mem_cons.mpr ⟨bl_t3 (i := 10) rfl rfl, List.forall_mem_cons.mpr ⟨bl_ts (i := 14) rfl rfl, List.forall_mem_cons.mpr ⟨bl_t3 (i := 13) rfl rfl, List.forall_mem_cons.mpr ⟨bl_t3 (i := 15) rfl rfl, List.forall_mem_cons.mpr ⟨bl_ts (i := 15) rfl rfl, List.forall_mem_cons.mpr ⟨bl_t3 (i := 20) rfl rfl, List.forall_mem_cons.mpr ⟨bl_t3 (i := 22) rfl rfl, List.forall_mem_cons.mpr ⟨bl_ts (i := 16) rfl rfl, List.forall_mem_cons.mpr ⟨bl_t2 (i := 239) rfl rfl, List.forall_mem_cons.mpr ⟨bl_t2 (i := 84) rfl rfl, List.forall_mem_cons.mpr ⟨bl_t2 (i := 85) rfl rfl, List.forall_mem_cons.mpr ⟨bl_t0 (i := 5) rfl rfl, List.forall_mem_cons.mpr ⟨bl_t3 (i := 0) rfl rfl, List.forall_mem_cons.mpr ⟨bl_t2 (i := 172) rfl rfl, List.forall_mem_cons.mpr ⟨bl_t2 (i := 173) rfl rfl, List.forall_mem_cons.mpr ⟨bl_t3 (i := 1) rfl rfl, List.forall_mem_cons.mpr ⟨bl_t2 (i := 224) rfl rfl, List.forall_mem_cons.mpr ⟨bl_t2 (i := 225) rfl rfl, List.forall_mem_cons.mpr ⟨bl_t0 (i := 6) rfl rfl, List.forall_mem_cons.mpr ⟨bl_t3 (i := 6) rfl rfl, List.forall_mem_cons.mpr ⟨bl_t2 (i := 142) rfl rfl, List.forall_mem_cons.mpr ⟨bl_t2 (i := 143) rfl rfl, List.forall_mem_cons.mpr ⟨bl_t3 (i := 7) rfl rfl, List.forall_mem_cons.mpr ⟨bl_t2 (i := 138) rfl rfl, List.forall_mem_cons.mpr ⟨bl_t2 (i := 139) rfl rfl, List.forall_mem_cons.mpr ⟨bl_t3 (i := 12) rfl rfl, List.forall_mem_cons.mpr ⟨bl_t1 (i := 132) rfl rfl, List.forall_mem_cons.mpr ⟨bl_t0 (i := 12) rfl rfl, List.forall_mem_cons.mpr ⟨bl_t3 (i := 17) rfl rfl, List.forall_mem_cons.mpr ⟨bl_t3 (i := 18) rfl rfl, List.forall_mem_cons.mpr ⟨bl_t3 (i := 28) rfl rfl, List.forall_mem_cons.mpr ⟨bl_t3 (i := 30) rfl rfl, List.forall_mem_cons.mpr ⟨bl_ts (i := 17) rfl rfl, List.forall_mem_cons.mpr ⟨bl_t3 (i := 32) rfl rfl, List.forall_mem_cons.mpr ⟨bl_t3 (i := 34) rfl rfl, List.forall_mem_cons.mpr ⟨bl_ts (i := 18) rfl rfl, List.forall_mem_cons.mpr ⟨bl_t3 (i := 36) rfl rfl, List.forall_mem_cons.mpr ⟨bl_t3 (i := 38) rfl rfl, List.forall_mem_cons.mpr ⟨bl_ts (i := 19) rfl rfl, fun _ h => absurd h List.not_mem_nil⟩⟩⟩⟩⟩⟩⟩⟩⟩⟩⟩⟩⟩⟩⟩⟩⟩⟩⟩⟩⟩⟩⟩⟩⟩⟩⟩⟩⟩⟩⟩⟩⟩⟩⟩⟩⟩⟩⟩⟩⟩⟩⟩⟩⟩⟩⟩⟩⟩⟩⟩⟩⟩⟩⟩⟩⟩⟩⟩⟩⟩⟩⟩⟩⟩⟩⟩
def bl_lkX1 : List Cond := [.fieldLink RX1 9 "BerryLane$Bush" "yard" "I", .fieldLink RX1 15 "BerryLane$Bush" "side" "I", .fieldLink RX1 18 "BerryLane$Bush" "kind" "I", .fieldLink RX1 21 "BerryLane$Bush" "red" "I", .fieldLink RX1 24 "BerryLane$Bush" "ripe" "I", .fieldLink RX1 27 "BerryLane$Bush" "soft" "I", .fieldLink RX1 42 "BerryLane$Law" "ripening" "I", .fieldLink RX1 45 "BerryLane$Law" "softening" "I", .fieldLink RX1 48 "BerryLane$Law" "falling" "I", .methodLink RX1 30 Lib.Math.abs.name, .static Lib.Math.abs.name, .initialized "java/lang/Math", .methodLink RX1 36 yX4_isTold, .instanceMethod yX4_isTold, .selects RX4 yX4_isTold yX4_isTold, .initialized RX4]
set_option maxRecDepth 100000 in
theorem bl_lkX1_ok : ∀ w ∈ bl_lkX1, w ∈ bl_gt := List.forall_mem_cons.mpr ⟨bl_t0 (i := 76) rfl rfl, List.forall_mem_cons.mpr ⟨bl_t0 (i := 81) rfl rfl, List.forall_mem_cons.mpr ⟨bl_t0 (i := 86) rfl rfl, List.forall_mem_cons.mpr ⟨bl_t0 (i := 90) rfl rfl, List.forall_mem_cons.mpr ⟨bl_t0 (i := 93) rfl rfl, List.forall_mem_cons.mpr ⟨bl_t0 (i := 99) rfl rfl, List.forall_mem_cons.mpr ⟨bl_t0 (i := 43) rfl rfl, List.forall_mem_cons.mpr ⟨bl_t0 (i := 47) rfl rfl, List.forall_mem_cons.mpr ⟨bl_t0 (i := 51) rfl rfl, List.forall_mem_cons.mpr ⟨bl_t2 (i := 145) rfl rfl, List.forall_mem_cons.mpr ⟨bl_t2 (i := 146) rfl rfl, List.forall_mem_cons.mpr ⟨bl_t0 (i := 12) rfl rfl, List.forall_mem_cons.mpr ⟨bl_t2 (i := 197) rfl rfl, List.forall_mem_cons.mpr ⟨bl_t2 (i := 36) rfl rfl, List.forall_mem_cons.mpr ⟨bl_t2 (i := 37) rfl rfl, List.forall_mem_cons.mpr ⟨bl_t0 (i := 4) rfl rfl, fun _ h => absurd h List.not_mem_nil⟩⟩⟩⟩⟩⟩⟩⟩⟩⟩⟩⟩⟩⟩⟩⟩
def bl_lkX2 : List Cond := [.fieldLink RX2 12 "BerryLane$Contest" "trial" "LBerryLane$Bush;", .fieldLink RX2 18 "BerryLane$Contest" "changes" "I", .fieldLink RX2 22 "BerryLane$Contest" "bushOfA" "I", .fieldLink RX2 25 "BerryLane$Contest" "bushOfB" "I", .fieldLink RX2 32 "BerryLane$Contest" "settled" "Z", .fieldLink RX2 36 "BerryLane$Lane" "bushCount" "I", .fieldLink RX2 41 "BerryLane$Lane" "bushes" "[LBerryLane$Bush;", .fieldLink RX2 49 "BerryLane$Lane" "pickers" "[LBerryLane$Picker;", .methodLink RX2 28 yX2_takeTurn, .instanceMethod yX2_takeTurn, .selects RX2 yX2_takeTurn yX2_takeTurn, .initialized RX2, .methodLink RX2 45 yX1_copyFrom, .instanceMethod yX1_copyFrom, .selects RX1 yX1_copyFrom yX1_copyFrom, .initialized RX1, .methodLink RX2 53 yX2_shareOf, .instanceMethod yX2_shareOf, .selects RX2 yX2_shareOf yX2_shareOf, .methodLink RX2 57 yX5_tryHandfuls, .instanceMethod yX5_tryHandfuls, .selects RX5 yX5_tryHandfuls yX5_tryHandfuls, .initialized RX5, .methodLink RX2 63 yX5_tryHandful, .instanceMethod yX5_tryHandful, .selects RX5 yX5_tryHandful yX5_tryHandful]
set_option maxRecDepth 100000 in
theorem bl_lkX2_ok : ∀ w ∈ bl_lkX2, w ∈ bl_gt := List.forall_mem_cons.mpr ⟨bl_t1 (i := 107) rfl rfl, List.forall_mem_cons.mpr ⟨bl_t1 (i := 99) rfl rfl, List.forall_mem_cons.mpr ⟨bl_t1 (i := 101) rfl rfl, List.forall_mem_cons.mpr ⟨bl_t1 (i := 103) rfl rfl, List.forall_mem_cons.mpr ⟨bl_t1 (i := 105) rfl rfl, List.forall_mem_cons.mpr ⟨bl_t0 (i := 178) rfl rfl, List.forall_mem_cons.mpr ⟨bl_t0 (i := 166) rfl rfl, List.forall_mem_cons.mpr ⟨bl_t0 (i := 171) rfl rfl, List.forall_mem_cons.mpr ⟨bl_t3 (i := 88) rfl rfl, List.forall_mem_cons.mpr ⟨bl_t3 (i := 90) rfl rfl, List.forall_mem_cons.mpr ⟨bl_ts (i := 24) rfl rfl, List.forall_mem_cons.mpr ⟨bl_t0 (i := 9) rfl rfl, List.forall_mem_cons.mpr ⟨bl_t3 (i := 92) rfl rfl, List.forall_mem_cons.mpr ⟨bl_t2 (i := 84) rfl rfl, List.forall_mem_cons.mpr ⟨bl_t2 (i := 85) rfl rfl, List.forall_mem_cons.mpr ⟨bl_t0 (i := 5) rfl rfl, List.forall_mem_cons.mpr ⟨bl_t3 (i := 93) rfl rfl, List.forall_mem_cons.mpr ⟨bl_t3 (i := 95) rfl rfl, List.forall_mem_cons.mpr ⟨bl_ts (i := 25) rfl rfl, List.forall_mem_cons.mpr ⟨bl_t3 (i := 98) rfl rfl, List.forall_mem_cons.mpr ⟨bl_t3 (i := 54) rfl rfl, List.forall_mem_cons.mpr ⟨bl_t3 (i := 55) rfl rfl, List.forall_mem_cons.mpr ⟨bl_t0 (i := 6) rfl rfl, List.forall_mem_cons.mpr ⟨bl_t3 (i := 97) rfl rfl, List.forall_mem_cons.mpr ⟨bl_t2 (i := 224) rfl rfl, List.forall_mem_cons.mpr ⟨bl_t2 (i := 225) rfl rfl, fun _ h => absurd h List.not_mem_nil⟩⟩⟩⟩⟩⟩⟩⟩⟩⟩⟩⟩⟩⟩⟩⟩⟩⟩⟩⟩⟩⟩⟩⟩⟩⟩
def bl_lkX3 : List Cond := [.fieldLink RX3 12 "BerryLane$Lane" "law" "LBerryLane$Law;", .fieldLink RX3 20 "BerryLane$Lane" "bushes" "[LBerryLane$Bush;", .fieldLink RX3 26 "BerryLane$Lane" "pickers" "[LBerryLane$Picker;", .fieldLink RX3 36 "BerryLane$Lane" "seed" "I", .fieldLink RX3 44 "BerryLane$Lane" "bushCount" "I", .fieldLink RX3 47 "BerryLane$Lane" "pickerCount" "I", .fieldLink RX3 50 "BerryLane$Lane" "dayNumber" "I", .fieldLink RX3 62 "BerryLane$Bush" "ripe" "I", .fieldLink RX3 69 "BerryLane$Picker" "clock" "I", .fieldLink RX3 79 "BerryLane$Law" "canHolds" "I", .constant RX3 95 (65536), .constantLong RX3 89 (1103515245), .constantLong RX3 91 (12345), .constantLong RX3 93 (2147483647), .methodLink RX3 32 yX3_startAs, .instanceMethod yX3_startAs, .selects RX3 yX3_startAs yX3_startAs, .initialized RX3, .methodLink RX3 40 yX4_copyFrom, .instanceMethod yX4_copyFrom, .selects RX4 yX4_copyFrom yX4_copyFrom, .initialized RX4, .methodLink RX3 53 yX1_copyFrom, .instanceMethod yX1_copyFrom, .selects RX1 yX1_copyFrom yX1_copyFrom, .initialized RX1, .methodLink RX3 56 yX5_copyFrom, .instanceMethod yX5_copyFrom, .selects RX5 yX5_copyFrom yX5_copyFrom, .initialized RX5, .methodLink RX3 59 yX4_forget, .instanceMethod yX4_forget, .selects RX4 yX4_forget yX4_forget, .methodLink RX3 65 yX1_passDay, .instanceMethod yX1_passDay, .selects RX1 yX1_passDay yX1_passDay, .methodLink RX3 72 yX3_draw, .instanceMethod yX3_draw, .selects RX3 yX3_draw yX3_draw, .methodLink RX3 76 yX5_walkTo, .instanceMethod yX5_walkTo, .selects RX5 yX5_walkTo yX5_walkTo, .methodLink RX3 82 yX5_takeHandfuls, .instanceMethod yX5_takeHandfuls, .selects RX5 yX5_takeHandfuls yX5_takeHandfuls, .methodLink RX3 86 yX3_passDay, .instanceMethod yX3_passDay, .selects RX3 yX3_passDay yX3_passDay]
set_option maxRecDepth 100000 in
theorem bl_lkX3_ok : ∀ w ∈ bl_lkX3, w ∈ bl_gt := List.forall_mem_cons.mpr ⟨bl_t0 (i := 159) rfl rfl, List.forall_mem_cons.mpr ⟨bl_t0 (i := 163) rfl rfl, List.forall_mem_cons.mpr ⟨bl_t0 (i := 170) rfl rfl, List.forall_mem_cons.mpr ⟨bl_t0 (i := 189) rfl rfl, List.forall_mem_cons.mpr ⟨bl_t0 (i := 177) rfl rfl, List.forall_mem_cons.mpr ⟨bl_t0 (i := 183) rfl rfl, List.forall_mem_cons.mpr ⟨bl_t0 (i := 187) rfl rfl, List.forall_mem_cons.mpr ⟨bl_t0 (i := 96) rfl rfl, List.forall_mem_cons.mpr ⟨bl_t0 (i := 140) rfl rfl, List.forall_mem_cons.mpr ⟨bl_t0 (i := 56) rfl rfl, List.forall_mem_cons.mpr ⟨bl_t2 (i := 213) rfl rfl, List.forall_mem_cons.mpr ⟨bl_t2 (i := 210) rfl rfl, List.forall_mem_cons.mpr ⟨bl_t2 (i := 211) rfl rfl, List.forall_mem_cons.mpr ⟨bl_t2 (i := 212) rfl rfl, List.forall_mem_cons.mpr ⟨bl_t3 (i := 203) rfl rfl, List.forall_mem_cons.mpr ⟨bl_t2 (i := 76) rfl rfl, List.forall_mem_cons.mpr ⟨bl_t2 (i := 77) rfl rfl, List.forall_mem_cons.mpr ⟨bl_t0 (i := 3) rfl rfl, List.forall_mem_cons.mpr ⟨bl_t2 (i := 79) rfl rfl, List.forall_mem_cons.mpr ⟨bl_t2 (i := 80) rfl rfl, List.forall_mem_cons.mpr ⟨bl_t2 (i := 81) rfl rfl, List.forall_mem_cons.mpr ⟨bl_t0 (i := 4) rfl rfl, List.forall_mem_cons.mpr ⟨bl_t2 (i := 83) rfl rfl, List.forall_mem_cons.mpr ⟨bl_t2 (i := 84) rfl rfl, List.forall_mem_cons.mpr ⟨bl_t2 (i := 85) rfl rfl, List.forall_mem_cons.mpr ⟨bl_t0 (i := 5) rfl rfl, List.forall_mem_cons.mpr ⟨bl_t2 (i := 87) rfl rfl, List.forall_mem_cons.mpr ⟨bl_t2 (i := 88) rfl rfl, List.forall_mem_cons.mpr ⟨bl_t2 (i := 89) rfl rfl, List.forall_mem_cons.mpr ⟨bl_t0 (i := 6) rfl rfl, List.forall_mem_cons.mpr ⟨bl_t2 (i := 19) rfl rfl, List.forall_mem_cons.mpr ⟨bl_t2 (i := 20) rfl rfl, List.forall_mem_cons.mpr ⟨bl_t2 (i := 21) rfl rfl, List.forall_mem_cons.mpr ⟨bl_t2 (i := 193) rfl rfl, List.forall_mem_cons.mpr ⟨bl_t2 (i := 194) rfl rfl, List.forall_mem_cons.mpr ⟨bl_t2 (i := 195) rfl rfl, List.forall_mem_cons.mpr ⟨bl_t2 (i := 206) rfl rfl, List.forall_mem_cons.mpr ⟨bl_t2 (i := 208) rfl rfl, List.forall_mem_cons.mpr ⟨bl_ts (i := 11) rfl rfl, List.forall_mem_cons.mpr ⟨bl_t2 (i := 214) rfl rfl, List.forall_mem_cons.mpr ⟨bl_t2 (i := 153) rfl rfl, List.forall_mem_cons.mpr ⟨bl_t2 (i := 154) rfl rfl, List.forall_mem_cons.mpr ⟨bl_t2 (i := 215) rfl rfl, List.forall_mem_cons.mpr ⟨bl_t2 (i := 166) rfl rfl, List.forall_mem_cons.mpr ⟨bl_t2 (i := 167) rfl rfl, List.forall_mem_cons.mpr ⟨bl_t2 (i := 216) rfl rfl, List.forall_mem_cons.mpr ⟨bl_t2 (i := 190) rfl rfl, List.forall_mem_cons.mpr ⟨bl_t2 (i := 191) rfl rfl, fun _ h => absurd h List.not_mem_nil⟩⟩⟩⟩⟩⟩⟩⟩⟩⟩⟩⟩⟩⟩⟩⟩⟩⟩⟩⟩⟩⟩⟩⟩⟩⟩⟩⟩⟩⟩⟩⟩⟩⟩⟩⟩⟩⟩⟩⟩⟩⟩⟩⟩⟩⟩⟩⟩
def bl_lkX4 : List Cond := [.fieldLink RX4 9 "BerryLane$Law" "canHolds" "I", .fieldLink RX4 15 "BerryLane$Law" "ripening" "I", .fieldLink RX4 18 "BerryLane$Law" "softening" "I", .fieldLink RX4 21 "BerryLane$Law" "falling" "I"]
set_option maxRecDepth 100000 in
theorem bl_lkX4_ok : ∀ w ∈ bl_lkX4, w ∈ bl_gt := List.forall_mem_cons.mpr ⟨bl_t0 (i := 54) rfl rfl, List.forall_mem_cons.mpr ⟨bl_t0 (i := 42) rfl rfl, List.forall_mem_cons.mpr ⟨bl_t0 (i := 46) rfl rfl, List.forall_mem_cons.mpr ⟨bl_t0 (i := 50) rfl rfl, fun _ h => absurd h List.not_mem_nil⟩⟩⟩⟩
def bl_lkX5 : List Cond := [.fieldLink RX5 9 "BerryLane$Picker" "yard" "I", .fieldLink RX5 15 "BerryLane$Picker" "side" "I", .fieldLink RX5 18 "BerryLane$Picker" "quickness" "I", .fieldLink RX5 21 "BerryLane$Picker" "appetite" "I", .fieldLink RX5 24 "BerryLane$Picker" "reachesHigh" "Z", .fieldLink RX5 28 "BerryLane$Picker" "inCan" "I", .fieldLink RX5 31 "BerryLane$Picker" "eaten" "I", .fieldLink RX5 34 "BerryLane$Picker" "clock" "I", .fieldLink RX5 37 "BerryLane$Bush" "ripe" "I", .fieldLink RX5 48 "BerryLane$Bush" "kind" "I", .fieldLink RX5 54 "BerryLane$Bush" "yard" "I", .fieldLink RX5 55 "BerryLane$Bush" "side" "I", .constant RX5 63 (999999), .methodLink RX5 42 Lib.Math.min.name, .static Lib.Math.min.name, .initialized "java/lang/Math", .methodLink RX5 51 yX1_momentsFrom, .instanceMethod yX1_momentsFrom, .selects RX1 yX1_momentsFrom yX1_momentsFrom, .initialized RX1, .methodLink RX5 56 yX5_momentsTo, .instanceMethod yX5_momentsTo, .selects RX5 yX5_momentsTo yX5_momentsTo, .initialized RX5, .methodLink RX5 60 yX5_wouldGet, .instanceMethod yX5_wouldGet, .selects RX5 yX5_wouldGet yX5_wouldGet, .methodLink RX5 64 yX1_handfulMoments, .instanceMethod yX1_handfulMoments, .selects RX1 yX1_handfulMoments yX1_handfulMoments, .methodLink RX5 68 yX5_tryHandful, .instanceMethod yX5_tryHandful, .selects RX5 yX5_tryHandful yX5_tryHandful]
set_option maxRecDepth 100000 in
theorem bl_lkX5_ok : ∀ w ∈ bl_lkX5, w ∈ bl_gt := List.forall_mem_cons.mpr ⟨bl_t0 (i := 120) rfl rfl, List.forall_mem_cons.mpr ⟨bl_t0 (i := 123) rfl rfl, List.forall_mem_cons.mpr ⟨bl_t0 (i := 125) rfl rfl, List.forall_mem_cons.mpr ⟨bl_t0 (i := 128) rfl rfl, List.forall_mem_cons.mpr ⟨bl_t0 (i := 132) rfl rfl, List.forall_mem_cons.mpr ⟨bl_t0 (i := 135) rfl rfl, List.forall_mem_cons.mpr ⟨bl_t0 (i := 137) rfl rfl, List.forall_mem_cons.mpr ⟨bl_t0 (i := 139) rfl rfl, List.forall_mem_cons.mpr ⟨bl_t0 (i := 94) rfl rfl, List.forall_mem_cons.mpr ⟨bl_t0 (i := 87) rfl rfl, List.forall_mem_cons.mpr ⟨bl_t0 (i := 78) rfl rfl, List.forall_mem_cons.mpr ⟨bl_t0 (i := 83) rfl rfl, List.forall_mem_cons.mpr ⟨bl_t2 (i := 170) rfl rfl, List.forall_mem_cons.mpr ⟨bl_t2 (i := 132) rfl rfl, List.forall_mem_cons.mpr ⟨bl_t1 (i := 132) rfl rfl, List.forall_mem_cons.mpr ⟨bl_t0 (i := 12) rfl rfl, List.forall_mem_cons.mpr ⟨bl_t2 (i := 141) rfl rfl, List.forall_mem_cons.mpr ⟨bl_t2 (i := 142) rfl rfl, List.forall_mem_cons.mpr ⟨bl_t2 (i := 143) rfl rfl, List.forall_mem_cons.mpr ⟨bl_t0 (i := 5) rfl rfl, List.forall_mem_cons.mpr ⟨bl_t2 (i := 156) rfl rfl, List.forall_mem_cons.mpr ⟨bl_t2 (i := 138) rfl rfl, List.forall_mem_cons.mpr ⟨bl_t2 (i := 139) rfl rfl, List.forall_mem_cons.mpr ⟨bl_t0 (i := 6) rfl rfl, List.forall_mem_cons.mpr ⟨bl_t2 (i := 169) rfl rfl, List.forall_mem_cons.mpr ⟨bl_t2 (i := 129) rfl rfl, List.forall_mem_cons.mpr ⟨bl_t2 (i := 130) rfl rfl, List.forall_mem_cons.mpr ⟨bl_t2 (i := 171) rfl rfl, List.forall_mem_cons.mpr ⟨bl_t2 (i := 172) rfl rfl, List.forall_mem_cons.mpr ⟨bl_t2 (i := 173) rfl rfl, List.forall_mem_cons.mpr ⟨bl_t3 (i := 57) rfl rfl, List.forall_mem_cons.mpr ⟨bl_t2 (i := 224) rfl rfl, List.forall_mem_cons.mpr ⟨bl_t2 (i := 225) rfl rfl, fun _ h => absurd h List.not_mem_nil⟩⟩⟩⟩⟩⟩⟩⟩⟩⟩⟩⟩⟩⟩⟩⟩⟩⟩⟩⟩⟩⟩⟩⟩⟩⟩⟩⟩⟩⟩⟩⟩⟩
def bl_lkX6 : List Cond := [.fieldLink RX6 9 "BerryLane$Places" "gains" "[I", .fieldLink RX6 15 "BerryLane$Places" "row" "[I", .fieldLink RX6 18 "BerryLane$Places" "bestRow" "[I", .fieldLink RX6 24 "BerryLane$Places" "trial" "LBerryLane$Bush;", .fieldLink RX6 32 "BerryLane$Places" "most" "I", .fieldLink RX6 58 "BerryLane$Places" "bushCount" "I", .fieldLink RX6 61 "BerryLane$Lane" "bushCount" "I", .fieldLink RX6 64 "BerryLane$Lane" "pickerCount" "I", .fieldLink RX6 67 "BerryLane$Places" "pickerCount" "I", .fieldLink RX6 68 "BerryLane$Lane" "bushes" "[LBerryLane$Bush;", .fieldLink RX6 76 "BerryLane$Lane" "pickers" "[LBerryLane$Picker;", .methodLink RX6 28 yX6_measure, .instanceMethod yX6_measure, .selects RX6 yX6_measure yX6_measure, .initialized RX6, .methodLink RX6 36 yJ7_fill_53178, .static yJ7_fill_53178, .initialized RJ7, .methodLink RX6 42 yX6_countRows, .instanceMethod yX6_countRows, .selects RX6 yX6_countRows yX6_countRows, .methodLink RX6 46 yX6_sumOfRow, .instanceMethod yX6_sumOfRow, .selects RX6 yX6_sumOfRow yX6_sumOfRow, .methodLink RX6 49 arraycopyName, .static arraycopyName, .native arraycopyName, .initialized "java/lang/System", .methodLink RX6 55 yX6_stepRow, .instanceMethod yX6_stepRow, .selects RX6 yX6_stepRow yX6_stepRow, .methodLink RX6 72 yX1_copyFrom, .instanceMethod yX1_copyFrom, .selects RX1 yX1_copyFrom yX1_copyFrom, .initialized RX1, .methodLink RX6 80 yX5_tryHandfuls, .instanceMethod yX5_tryHandfuls, .selects RX5 yX5_tryHandfuls yX5_tryHandfuls, .initialized RX5]
set_option maxRecDepth 100000 in
theorem bl_lkX6_ok : ∀ w ∈ bl_lkX6, w ∈ bl_gt := List.forall_mem_cons.mpr ⟨bl_t1 (i := 70) rfl rfl, List.forall_mem_cons.mpr ⟨bl_t1 (i := 71) rfl rfl, List.forall_mem_cons.mpr ⟨bl_t1 (i := 72) rfl rfl, List.forall_mem_cons.mpr ⟨bl_t1 (i := 73) rfl rfl, List.forall_mem_cons.mpr ⟨bl_t1 (i := 68) rfl rfl, List.forall_mem_cons.mpr ⟨bl_t1 (i := 74) rfl rfl, List.forall_mem_cons.mpr ⟨bl_t0 (i := 180) rfl rfl, List.forall_mem_cons.mpr ⟨bl_t0 (i := 184) rfl rfl, List.forall_mem_cons.mpr ⟨bl_t1 (i := 75) rfl rfl, List.forall_mem_cons.mpr ⟨bl_t0 (i := 167) rfl rfl, List.forall_mem_cons.mpr ⟨bl_t0 (i := 172) rfl rfl, List.forall_mem_cons.mpr ⟨bl_t3 (i := 48) rfl rfl, List.forall_mem_cons.mpr ⟨bl_t3 (i := 50) rfl rfl, List.forall_mem_cons.mpr ⟨bl_ts (i := 20) rfl rfl, List.forall_mem_cons.mpr ⟨bl_t0 (i := 8) rfl rfl, List.forall_mem_cons.mpr ⟨bl_t3 (i := 58) rfl rfl, List.forall_mem_cons.mpr ⟨bl_t3 (i := 59) rfl rfl, List.forall_mem_cons.mpr ⟨bl_t0 (i := 14) rfl rfl, List.forall_mem_cons.mpr ⟨bl_t3 (i := 61) rfl rfl, List.forall_mem_cons.mpr ⟨bl_t3 (i := 63) rfl rfl, List.forall_mem_cons.mpr ⟨bl_ts (i := 21) rfl rfl, List.forall_mem_cons.mpr ⟨bl_t3 (i := 65) rfl rfl, List.forall_mem_cons.mpr ⟨bl_t3 (i := 67) rfl rfl, List.forall_mem_cons.mpr ⟨bl_ts (i := 22) rfl rfl, List.forall_mem_cons.mpr ⟨bl_t3 (i := 69) rfl rfl, List.forall_mem_cons.mpr ⟨bl_t3 (i := 70) rfl rfl, List.forall_mem_cons.mpr ⟨bl_t3 (i := 71) rfl rfl, List.forall_mem_cons.mpr ⟨bl_t0 (i := 15) rfl rfl, List.forall_mem_cons.mpr ⟨bl_t3 (i := 72) rfl rfl, List.forall_mem_cons.mpr ⟨bl_t3 (i := 74) rfl rfl, List.forall_mem_cons.mpr ⟨bl_ts (i := 23) rfl rfl, List.forall_mem_cons.mpr ⟨bl_t3 (i := 52) rfl rfl, List.forall_mem_cons.mpr ⟨bl_t2 (i := 84) rfl rfl, List.forall_mem_cons.mpr ⟨bl_t2 (i := 85) rfl rfl, List.forall_mem_cons.mpr ⟨bl_t0 (i := 5) rfl rfl, List.forall_mem_cons.mpr ⟨bl_t3 (i := 53) rfl rfl, List.forall_mem_cons.mpr ⟨bl_t3 (i := 54) rfl rfl, List.forall_mem_cons.mpr ⟨bl_t3 (i := 55) rfl rfl, List.forall_mem_cons.mpr ⟨bl_t0 (i := 6) rfl rfl, fun _ h => absurd h List.not_mem_nil⟩⟩⟩⟩⟩⟩⟩⟩⟩⟩⟩⟩⟩⟩⟩⟩⟩⟩⟩⟩⟩⟩⟩⟩⟩⟩⟩⟩⟩⟩⟩⟩⟩⟩⟩⟩⟩⟩⟩
def bl_lkX7 : List Cond := [.fieldLink RX7 12 "BerryLane$Reader" "draft" "LBerryLane$Lane;", .fieldLink RX7 18 "BerryLane$Reader" "faultPlace" "I", .fieldLink RX7 22 "BerryLane$Reader" "text" "[C", .fieldLink RX7 26 "BerryLane$Reader" "numbers" "[I", .fieldLink RX7 30 "BerryLane$Reader" "size" "I", .fieldLink RX7 36 "BerryLane$Reader" "canTold" "Z", .fieldLink RX7 40 "BerryLane$Reader" "place" "I", .fieldLink RX7 43 "BerryLane$Reader" "fault" "I", .fieldLink RX7 72 "BerryLane$Lane" "law" "LBerryLane$Law;", .fieldLink RX7 82 "BerryLane$Lane" "bushCount" "I", .fieldLink RX7 85 "BerryLane$Lane" "pickerCount" "I", .fieldLink RX7 88 "BerryLane$Reader" "LAW_BOUNDS" "[I", .fieldLink RX7 91 "BerryLane$Reader" "BUSH_BOUNDS" "[I", .fieldLink RX7 94 "BerryLane$Reader" "PICKER_BOUNDS" "[I", .fieldLink RX7 97 "BerryLane$Reader" "CAN_BOUNDS" "[I", .fieldLink RX7 108 "BerryLane$Law" "ripening" "I", .fieldLink RX7 111 "BerryLane$Law" "softening" "I", .fieldLink RX7 114 "BerryLane$Law" "falling" "I", .fieldLink RX7 123 "BerryLane$Law" "canHolds" "I", .fieldLink RX7 126 "BerryLane$Lane" "bushes" "[LBerryLane$Bush;", .fieldLink RX7 130 "BerryLane$Bush" "yard" "I", .fieldLink RX7 135 "BerryLane$Bush" "side" "I", .fieldLink RX7 138 "BerryLane$Bush" "kind" "I", .fieldLink RX7 141 "BerryLane$Bush" "red" "I", .fieldLink RX7 144 "BerryLane$Bush" "ripe" "I", .fieldLink RX7 147 "BerryLane$Bush" "soft" "I", .fieldLink RX7 150 "BerryLane$Lane" "pickers" "[LBerryLane$Picker;", .fieldLink RX7 154 "BerryLane$Picker" "yard" "I", .fieldLink RX7 157 "BerryLane$Picker" "quickness" "I", .fieldLink RX7 160 "BerryLane$Picker" "appetite" "I", .fieldLink RX7 163 "BerryLane$Picker" "reachesHigh" "Z", .methodLink RX7 33 yX3_forget, .instanceMethod yX3_forget, .selects RX3 yX3_forget yX3_forget, .initialized RX3, .methodLink RX7 46 yX7_skipBlanks, .instanceMethod yX7_skipBlanks, .selects RX7 yX7_skipBlanks yX7_skipBlanks, .initialized RX7, .methodLink RX7 49 yX7_readClause, .instanceMethod yX7_readClause, .selects RX7 yX7_readClause yX7_readClause, .methodLink RX7 52 yX7_faultOfWord, .instanceMethod yX7_faultOfWord, .selects RX7 yX7_faultOfWord yX7_faultOfWord, .methodLink RX7 56 yX7_note, .instanceMethod yX7_note, .selects RX7 yX7_note yX7_note, .methodLink RX7 60 yX7_boundsOf, .static yX7_boundsOf, .methodLink RX7 64 yX7_readNumbers, .instanceMethod yX7_readNumbers, .selects RX7 yX7_readNumbers yX7_readNumbers, .methodLink RX7 68 yX7_take, .instanceMethod yX7_take, .selects RX7 yX7_take yX7_take, .methodLink RX7 76 yX4_isTold, .instanceMethod yX4_isTold, .selects RX4 yX4_isTold yX4_isTold, .initialized RX4, .methodLink RX7 100 yX7_readNumber, .instanceMethod yX7_readNumber, .selects RX7 yX7_readNumber yX7_readNumber, .methodLink RX7 117 yX7_takeBush, .instanceMethod yX7_takeBush, .selects RX7 yX7_takeBush yX7_takeBush, .methodLink RX7 120 yX7_takePicker, .instanceMethod yX7_takePicker, .selects RX7 yX7_takePicker yX7_takePicker, .static yX10_within, .initialized RX10]
set_option maxRecDepth 100000 in
theorem bl_lkX7_ok : ∀ w ∈ bl_lkX7, w ∈ bl_gt := List.forall_mem_cons.mpr ⟨bl_t0 (i := 206) rfl rfl, List.forall_mem_cons.mpr ⟨bl_t0 (i := 210) rfl rfl, List.forall_mem_cons.mpr ⟨bl_t0 (i := 212) rfl rfl, List.forall_mem_cons.mpr ⟨bl_t0 (i := 213) rfl rfl, List.forall_mem_cons.mpr ⟨bl_t0 (i := 208) rfl rfl, List.forall_mem_cons.mpr ⟨bl_t0 (i := 216) rfl rfl, List.forall_mem_cons.mpr ⟨bl_t0 (i := 214) rfl rfl, List.forall_mem_cons.mpr ⟨bl_t0 (i := 215) rfl rfl, List.forall_mem_cons.mpr ⟨bl_t0 (i := 162) rfl rfl, List.forall_mem_cons.mpr ⟨bl_t0 (i := 181) rfl rfl, List.forall_mem_cons.mpr ⟨bl_t0 (i := 186) rfl rfl, List.forall_mem_cons.mpr ⟨bl_t2 (i := 46) rfl rfl, List.forall_mem_cons.mpr ⟨bl_t2 (i := 48) rfl rfl, List.forall_mem_cons.mpr ⟨bl_t2 (i := 50) rfl rfl, List.forall_mem_cons.mpr ⟨bl_t2 (i := 52) rfl rfl, List.forall_mem_cons.mpr ⟨bl_t0 (i := 45) rfl rfl, List.forall_mem_cons.mpr ⟨bl_t0 (i := 49) rfl rfl, List.forall_mem_cons.mpr ⟨bl_t0 (i := 53) rfl rfl, List.forall_mem_cons.mpr ⟨bl_t0 (i := 57) rfl rfl, List.forall_mem_cons.mpr ⟨bl_t0 (i := 169) rfl rfl, List.forall_mem_cons.mpr ⟨bl_t0 (i := 80) rfl rfl, List.forall_mem_cons.mpr ⟨bl_t0 (i := 85) rfl rfl, List.forall_mem_cons.mpr ⟨bl_t0 (i := 89) rfl rfl, List.forall_mem_cons.mpr ⟨bl_t0 (i := 92) rfl rfl, List.forall_mem_cons.mpr ⟨bl_t0 (i := 98) rfl rfl, List.forall_mem_cons.mpr ⟨bl_t0 (i := 101) rfl rfl, List.forall_mem_cons.mpr ⟨bl_t0 (i := 175) rfl rfl, List.forall_mem_cons.mpr ⟨bl_t0 (i := 122) rfl rfl, List.forall_mem_cons.mpr ⟨bl_t0 (i := 127) rfl rfl, List.forall_mem_cons.mpr ⟨bl_t0 (i := 131) rfl rfl, List.forall_mem_cons.mpr ⟨bl_t0 (i := 134) rfl rfl, List.forall_mem_cons.mpr ⟨bl_t2 (i := 15) rfl rfl, List.forall_mem_cons.mpr ⟨bl_t2 (i := 16) rfl rfl, List.forall_mem_cons.mpr ⟨bl_t2 (i := 17) rfl rfl, List.forall_mem_cons.mpr ⟨bl_t0 (i := 3) rfl rfl, List.forall_mem_cons.mpr ⟨bl_t2 (i := 23) rfl rfl, List.forall_mem_cons.mpr ⟨bl_t2 (i := 25) rfl rfl, List.forall_mem_cons.mpr ⟨bl_ts (i := 0) rfl rfl, List.forall_mem_cons.mpr ⟨bl_t0 (i := 2) rfl rfl, List.forall_mem_cons.mpr ⟨bl_t2 (i := 27) rfl rfl, List.forall_mem_cons.mpr ⟨bl_t2 (i := 29) rfl rfl, List.forall_mem_cons.mpr ⟨bl_ts (i := 1) rfl rfl, List.forall_mem_cons.mpr ⟨bl_t2 (i := 31) rfl rfl, List.forall_mem_cons.mpr ⟨bl_t2 (i := 33) rfl rfl, List.forall_mem_cons.mpr ⟨bl_ts (i := 2) rfl rfl, List.forall_mem_cons.mpr ⟨bl_t2 (i := 39) rfl rfl, List.forall_mem_cons.mpr ⟨bl_t2 (i := 41) rfl rfl, List.forall_mem_cons.mpr ⟨bl_ts (i := 3) rfl rfl, List.forall_mem_cons.mpr ⟨bl_t2 (i := 43) rfl rfl, List.forall_mem_cons.mpr ⟨bl_t2 (i := 44) rfl rfl, List.forall_mem_cons.mpr ⟨bl_t2 (i := 54) rfl rfl, List.forall_mem_cons.mpr ⟨bl_t2 (i := 56) rfl rfl, List.forall_mem_cons.mpr ⟨bl_ts (i := 4) rfl rfl, List.forall_mem_cons.mpr ⟨bl_t2 (i := 63) rfl rfl, List.forall_mem_cons.mpr ⟨bl_t2 (i := 65) rfl rfl, List.forall_mem_cons.mpr ⟨bl_ts (i := 6) rfl rfl, List.forall_mem_cons.mpr ⟨bl_t2 (i := 35) rfl rfl, List.forall_mem_cons.mpr ⟨bl_t2 (i := 36) rfl rfl, List.forall_mem_cons.mpr ⟨bl_t2 (i := 37) rfl rfl, List.forall_mem_cons.mpr ⟨bl_t0 (i := 4) rfl rfl, List.forall_mem_cons.mpr ⟨bl_t2 (i := 58) rfl rfl, List.forall_mem_cons.mpr ⟨bl_t2 (i := 60) rfl rfl, List.forall_mem_cons.mpr ⟨bl_ts (i := 5) rfl rfl, List.forall_mem_cons.mpr ⟨bl_t2 (i := 67) rfl rfl, List.forall_mem_cons.mpr ⟨bl_t2 (i := 69) rfl rfl, List.forall_mem_cons.mpr ⟨bl_ts (i := 7) rfl rfl, List.forall_mem_cons.mpr ⟨bl_t2 (i := 71) rfl rfl, List.forall_mem_cons.mpr ⟨bl_t2 (i := 73) rfl rfl, List.forall_mem_cons.mpr ⟨bl_ts (i := 8) rfl rfl, List.forall_mem_cons.mpr ⟨bl_t1 (i := 235) rfl rfl, List.forall_mem_cons.mpr ⟨bl_t0 (i := 1) rfl rfl, fun _ h => absurd h List.not_mem_nil⟩⟩⟩⟩⟩⟩⟩⟩⟩⟩⟩⟩⟩⟩⟩⟩⟩⟩⟩⟩⟩⟩⟩⟩⟩⟩⟩⟩⟩⟩⟩⟩⟩⟩⟩⟩⟩⟩⟩⟩⟩⟩⟩⟩⟩⟩⟩⟩⟩⟩⟩⟩⟩⟩⟩⟩⟩⟩⟩⟩⟩⟩⟩⟩⟩⟩⟩⟩⟩⟩⟩
def bl_lkX8 : List Cond := [.fieldLink RX8 14 "BerryLane$Seen" "remains" "LBerryLane$Sheet;", .fieldLink RX8 20 "BerryLane$Seen" "cans" "LBerryLane$Sheet;", .fieldLink RX8 23 "BerryLane$Seen" "book" "LBerryLane$Sheet;", .fieldLink RX8 29 "BerryLane$Seen" "untouched" "LBerryLane$Bush;", .fieldLink RX8 33 "BerryLane$Seen" "trial" "LBerryLane$Bush;", .fieldLink RX8 39 "BerryLane$Seen" "guess" "LBerryLane$Picker;", .fieldLink RX8 43 "BerryLane$Seen" "ripeThen" "[I", .fieldLink RX8 47 "BerryLane$Sheet" "size" "I", .fieldLink RX8 51 "BerryLane$Seen" "soughtVisit" "I", .fieldLink RX8 54 "BerryLane$Lane" "bushes" "[LBerryLane$Bush;", .fieldLink RX8 64 "BerryLane$Bush" "ripe" "I", .fieldLink RX8 67 "BerryLane$Lane" "law" "LBerryLane$Law;", .fieldLink RX8 83 "BerryLane$Sheet" "bush" "[I", .fieldLink RX8 86 "BerryLane$Sheet" "number" "[I", .fieldLink RX8 89 "BerryLane$Sheet" "much" "[I", .fieldLink RX8 92 "BerryLane$Lane" "pickers" "[LBerryLane$Picker;", .fieldLink RX8 99 "BerryLane$Picker" "appetite" "I", .fieldLink RX8 106 "BerryLane$Sheet" "picker" "[I", .fieldLink RX8 113 "BerryLane$Lane" "bushCount" "I", .methodLink RX8 60 yX1_copyFrom, .instanceMethod yX1_copyFrom, .selects RX1 yX1_copyFrom yX1_copyFrom, .initialized RX1, .methodLink RX8 71 yX8_agreesAfterVisit, .instanceMethod yX8_agreesAfterVisit, .selects RX8 yX8_agreesAfterVisit yX8_agreesAfterVisit, .initialized RX8, .methodLink RX8 75 yX8_agreesOnDay, .instanceMethod yX8_agreesOnDay, .selects RX8 yX8_agreesOnDay yX8_agreesOnDay, .methodLink RX8 79 yX1_passDay, .instanceMethod yX1_passDay, .selects RX1 yX1_passDay yX1_passDay, .methodLink RX8 96 yX5_copyFrom, .instanceMethod yX5_copyFrom, .selects RX5 yX5_copyFrom yX5_copyFrom, .initialized RX5, .methodLink RX8 102 yX8_cansAgree, .instanceMethod yX8_cansAgree, .selects RX8 yX8_cansAgree yX8_cansAgree, .methodLink RX8 109 yX5_tryHandfuls, .instanceMethod yX5_tryHandfuls, .selects RX5 yX5_tryHandfuls yX5_tryHandfuls, .methodLink RX8 116 yX5_wouldGet, .instanceMethod yX5_wouldGet, .selects RX5 yX5_wouldGet yX5_wouldGet]
set_option maxRecDepth 100000 in
theorem bl_lkX8_ok : ∀ w ∈ bl_lkX8, w ∈ bl_gt := List.forall_mem_cons.mpr ⟨bl_t1 (i := 163) rfl rfl, List.forall_mem_cons.mpr ⟨bl_t1 (i := 165) rfl rfl, List.forall_mem_cons.mpr ⟨bl_t1 (i := 167) rfl rfl, List.forall_mem_cons.mpr ⟨bl_t1 (i := 171) rfl rfl, List.forall_mem_cons.mpr ⟨bl_t1 (i := 172) rfl rfl, List.forall_mem_cons.mpr ⟨bl_t1 (i := 173) rfl rfl, List.forall_mem_cons.mpr ⟨bl_t1 (i := 174) rfl rfl, List.forall_mem_cons.mpr ⟨bl_t1 (i := 143) rfl rfl, List.forall_mem_cons.mpr ⟨bl_t1 (i := 169) rfl rfl, List.forall_mem_cons.mpr ⟨bl_t0 (i := 165) rfl rfl, List.forall_mem_cons.mpr ⟨bl_t0 (i := 95) rfl rfl, List.forall_mem_cons.mpr ⟨bl_t0 (i := 160) rfl rfl, List.forall_mem_cons.mpr ⟨bl_t1 (i := 137) rfl rfl, List.forall_mem_cons.mpr ⟨bl_t1 (i := 139) rfl rfl, List.forall_mem_cons.mpr ⟨bl_t1 (i := 141) rfl rfl, List.forall_mem_cons.mpr ⟨bl_t0 (i := 173) rfl rfl, List.forall_mem_cons.mpr ⟨bl_t0 (i := 129) rfl rfl, List.forall_mem_cons.mpr ⟨bl_t1 (i := 135) rfl rfl, List.forall_mem_cons.mpr ⟨bl_t0 (i := 182) rfl rfl, List.forall_mem_cons.mpr ⟨bl_t3 (i := 146) rfl rfl, List.forall_mem_cons.mpr ⟨bl_t2 (i := 84) rfl rfl, List.forall_mem_cons.mpr ⟨bl_t2 (i := 85) rfl rfl, List.forall_mem_cons.mpr ⟨bl_t0 (i := 5) rfl rfl, List.forall_mem_cons.mpr ⟨bl_t3 (i := 147) rfl rfl, List.forall_mem_cons.mpr ⟨bl_t3 (i := 149) rfl rfl, List.forall_mem_cons.mpr ⟨bl_ts (i := 28) rfl rfl, List.forall_mem_cons.mpr ⟨bl_t0 (i := 10) rfl rfl, List.forall_mem_cons.mpr ⟨bl_t3 (i := 151) rfl rfl, List.forall_mem_cons.mpr ⟨bl_t3 (i := 153) rfl rfl, List.forall_mem_cons.mpr ⟨bl_ts (i := 29) rfl rfl, List.forall_mem_cons.mpr ⟨bl_t3 (i := 155) rfl rfl, List.forall_mem_cons.mpr ⟨bl_t2 (i := 194) rfl rfl, List.forall_mem_cons.mpr ⟨bl_t2 (i := 195) rfl rfl, List.forall_mem_cons.mpr ⟨bl_t3 (i := 168) rfl rfl, List.forall_mem_cons.mpr ⟨bl_t2 (i := 88) rfl rfl, List.forall_mem_cons.mpr ⟨bl_t2 (i := 89) rfl rfl, List.forall_mem_cons.mpr ⟨bl_t0 (i := 6) rfl rfl, List.forall_mem_cons.mpr ⟨bl_t3 (i := 169) rfl rfl, List.forall_mem_cons.mpr ⟨bl_t3 (i := 171) rfl rfl, List.forall_mem_cons.mpr ⟨bl_ts (i := 30) rfl rfl, List.forall_mem_cons.mpr ⟨bl_t3 (i := 173) rfl rfl, List.forall_mem_cons.mpr ⟨bl_t3 (i := 54) rfl rfl, List.forall_mem_cons.mpr ⟨bl_t3 (i := 55) rfl rfl, List.forall_mem_cons.mpr ⟨bl_t3 (i := 186) rfl rfl, List.forall_mem_cons.mpr ⟨bl_t2 (i := 129) rfl rfl, List.forall_mem_cons.mpr ⟨bl_t2 (i := 130) rfl rfl, fun _ h => absurd h List.not_mem_nil⟩⟩⟩⟩⟩⟩⟩⟩⟩⟩⟩⟩⟩⟩⟩⟩⟩⟩⟩⟩⟩⟩⟩⟩⟩⟩⟩⟩⟩⟩⟩⟩⟩⟩⟩⟩⟩⟩⟩⟩⟩⟩⟩⟩⟩⟩
def bl_lkX9 : List Cond := [.fieldLink RX9 9 "BerryLane$Sheet" "picker" "[I", .fieldLink RX9 15 "BerryLane$Sheet" "bush" "[I", .fieldLink RX9 18 "BerryLane$Sheet" "number" "[I", .fieldLink RX9 21 "BerryLane$Sheet" "much" "[I", .fieldLink RX9 30 "BerryLane$Sheet" "room" "I", .fieldLink RX9 34 "BerryLane$Sheet" "size" "I", .methodLink RX9 24 Lib.Math.min.name, .static Lib.Math.min.name, .initialized "java/lang/Math"]
set_option maxRecDepth 100000 in
theorem bl_lkX9_ok : ∀ w ∈ bl_lkX9, w ∈ bl_gt := List.forall_mem_cons.mpr ⟨bl_t1 (i := 134) rfl rfl, List.forall_mem_cons.mpr ⟨bl_t1 (i := 136) rfl rfl, List.forall_mem_cons.mpr ⟨bl_t1 (i := 138) rfl rfl, List.forall_mem_cons.mpr ⟨bl_t1 (i := 140) rfl rfl, List.forall_mem_cons.mpr ⟨bl_t1 (i := 145) rfl rfl, List.forall_mem_cons.mpr ⟨bl_t1 (i := 142) rfl rfl, List.forall_mem_cons.mpr ⟨bl_t1 (i := 131) rfl rfl, List.forall_mem_cons.mpr ⟨bl_t1 (i := 132) rfl rfl, List.forall_mem_cons.mpr ⟨bl_t0 (i := 12) rfl rfl, fun _ h => absurd h List.not_mem_nil⟩⟩⟩⟩⟩⟩⟩⟩⟩
def bl_lkX10 : List Cond := [.fieldLink RX10 10 "BerryLane" "reader" "LBerryLane$Reader;", .fieldLink RX10 19 "BerryLane" "now" "LBerryLane$Lane;", .fieldLink RX10 23 "BerryLane" "images" "[LBerryLane$Lane;", .fieldLink RX10 27 "BerryLane" "kept" "[Z", .fieldLink RX10 34 "BerryLane" "bestWay" "LBerryLane$BestWay;", .fieldLink RX10 41 "BerryLane" "places" "LBerryLane$Places;", .fieldLink RX10 48 "BerryLane" "contest" "LBerryLane$Contest;", .fieldLink RX10 55 "BerryLane" "seen" "LBerryLane$Seen;", .fieldLink RX10 62 "BerryLane" "triedBush" "LBerryLane$Bush;", .fieldLink RX10 69 "BerryLane" "triedPicker" "LBerryLane$Picker;", .fieldLink RX10 73 "BerryLane" "faultPlace" "I", .fieldLink RX10 95 "BerryLane$Reader" "faultPlace" "I", .fieldLink RX10 96 "BerryLane$Reader" "draft" "LBerryLane$Lane;", .fieldLink RX10 106 "BerryLane$Lane" "bushCount" "I", .fieldLink RX10 109 "BerryLane$Lane" "law" "LBerryLane$Law;", .fieldLink RX10 113 "BerryLane$Law" "ripening" "I", .fieldLink RX10 118 "BerryLane$Law" "softening" "I", .fieldLink RX10 121 "BerryLane$Law" "falling" "I", .fieldLink RX10 124 "BerryLane$Lane" "pickerCount" "I", .fieldLink RX10 127 "BerryLane$Law" "canHolds" "I", .fieldLink RX10 130 "BerryLane$Reader" "size" "I", .fieldLink RX10 133 "BerryLane$Lane" "dayNumber" "I", .fieldLink RX10 139 "BerryLane$Seen" "remains" "LBerryLane$Sheet;", .fieldLink RX10 143 "BerryLane$Sheet" "size" "I", .fieldLink RX10 146 "BerryLane$Seen" "cans" "LBerryLane$Sheet;", .fieldLink RX10 149 "BerryLane$Seen" "book" "LBerryLane$Sheet;", .fieldLink RX10 157 "BerryLane$Lane" "bushes" "[LBerryLane$Bush;", .fieldLink RX10 161 "BerryLane$Bush" "yard" "I", .fieldLink RX10 164 "BerryLane$Bush" "side" "I", .fieldLink RX10 167 "BerryLane$Bush" "kind" "I", .fieldLink RX10 170 "BerryLane$Bush" "red" "I", .fieldLink RX10 173 "BerryLane$Bush" "ripe" "I", .fieldLink RX10 176 "BerryLane$Bush" "soft" "I", .fieldLink RX10 182 "BerryLane$Lane" "pickers" "[LBerryLane$Picker;", .fieldLink RX10 186 "BerryLane$Picker" "yard" "I", .fieldLink RX10 187 "BerryLane$Picker" "side" "I", .fieldLink RX10 188 "BerryLane$Picker" "quickness" "I", .fieldLink RX10 191 "BerryLane$Picker" "appetite" "I", .fieldLink RX10 194 "BerryLane$Picker" "reachesHigh" "Z", .fieldLink RX10 198 "BerryLane$Picker" "inCan" "I", .fieldLink RX10 201 "BerryLane$Picker" "eaten" "I", .fieldLink RX10 204 "BerryLane$Picker" "clock" "I", .fieldLink RX10 254 "BerryLane$BestWay" "stops" "I", .fieldLink RX10 257 "BerryLane$BestWay" "stopBush" "[I", .fieldLink RX10 261 "BerryLane$BestWay" "stopHandfuls" "[I", .fieldLink RX10 268 "BerryLane$Places" "most" "I", .fieldLink RX10 279 "BerryLane$Contest" "settled" "Z", .fieldLink RX10 282 "BerryLane$Contest" "changes" "I", .fieldLink RX10 285 "BerryLane$Contest" "bushOfA" "I", .fieldLink RX10 288 "BerryLane$Contest" "bushOfB" "I", .fieldLink RX10 313 "BerryLane$Seen" "soughtVisit" "I", .fieldLink RX10 324 "BerryLane$Lane" "seed" "I", .constant RX10 81 (-1000000002), .constant RX10 86 (-1000000004), .constant RX10 156 (-1000000001), .constant RX10 226 (-1000000003), .constant RX10 329 (1000000000), .constantLong RX10 330 (100), .methodLink RX10 77 yX10_within, .static yX10_within, .initialized RX10, .methodLink RX10 82 yX7_isFull, .instanceMethod yX7_isFull, .selects RX7 yX7_isFull yX7_isFull, .initialized RX7, .methodLink RX10 87 yX7_append, .instanceMethod yX7_append, .selects RX7 yX7_append yX7_append, .methodLink RX10 91 yX7_readAll, .instanceMethod yX7_readAll, .selects RX7 yX7_readAll yX7_readAll, .methodLink RX10 99 yX3_startAs, .instanceMethod yX3_startAs, .selects RX3 yX3_startAs yX3_startAs, .initialized RX3, .methodLink RX10 103 yX8_clearAll, .instanceMethod yX8_clearAll, .selects RX8 yX8_clearAll yX8_clearAll, .initialized RX8, .methodLink RX10 136 yX3_ripeInAll, .instanceMethod yX3_ripeInAll, .selects RX3 yX3_ripeInAll yX3_ripeInAll, .methodLink RX10 152 yX10_isBush, .instanceMethod yX10_isBush, .selects RX10 yX10_isBush yX10_isBush, .methodLink RX10 179 yX10_isPicker, .instanceMethod yX10_isPicker, .selects RX10 yX10_isPicker yX10_isPicker, .methodLink RX10 207 yX5_wouldGet, .instanceMethod yX5_wouldGet, .selects RX5 yX5_wouldGet yX5_wouldGet, .initialized RX5, .methodLink RX10 211 yX5_momentsTo, .instanceMethod yX5_momentsTo, .selects RX5 yX5_momentsTo yX5_momentsTo, .methodLink RX10 214 yX5_walkTo, .instanceMethod yX5_walkTo, .selects RX5 yX5_walkTo yX5_walkTo, .methodLink RX10 218 yX5_isAt, .instanceMethod yX5_isAt, .selects RX5 yX5_isAt yX5_isAt, .methodLink RX10 222 yX5_takeHandfuls, .instanceMethod yX5_takeHandfuls, .selects RX5 yX5_takeHandfuls yX5_takeHandfuls, .methodLink RX10 227 yX4_isTold, .instanceMethod yX4_isTold, .selects RX4 yX4_isTold yX4_isTold, .initialized RX4, .methodLink RX10 230 yX3_passDay, .instanceMethod yX3_passDay, .selects RX3 yX3_passDay yX3_passDay, .methodLink RX10 234 yX3_passDayByDraws, .instanceMethod yX3_passDayByDraws, .selects RX3 yX3_passDayByDraws yX3_passDayByDraws, .methodLink RX10 237 yX1_copyFrom, .instanceMethod yX1_copyFrom, .selects RX1 yX1_copyFrom yX1_copyFrom, .initialized RX1, .methodLink RX10 240 yX1_handfulMoments, .instanceMethod yX1_handfulMoments, .selects RX1 yX1_handfulMoments yX1_handfulMoments, .methodLink RX10 243 yX5_tryHandful, .instanceMethod yX5_tryHandful, .selects RX5 yX5_tryHandful yX5_tryHandful, .methodLink RX10 246 yX0_findMost, .instanceMethod yX0_findMost, .selects RX0 yX0_findMost yX0_findMost, .initialized RX0, .methodLink RX10 250 yX0_findStops, .instanceMethod yX0_findStops, .selects RX0 yX0_findStops yX0_findStops, .methodLink RX10 264 yX6_findFor, .instanceMethod yX6_findFor, .selects RX6 yX6_findFor yX6_findFor, .initialized RX6, .methodLink RX10 271 yX6_bushOf, .instanceMethod yX6_bushOf, .selects RX6 yX6_bushOf yX6_bushOf, .methodLink RX10 275 yX2_playOut, .instanceMethod yX2_playOut, .selects RX2 yX2_playOut yX2_playOut, .initialized RX2, .methodLink RX10 291 yX1_passDay, .instanceMethod yX1_passDay, .selects RX1 yX1_passDay yX1_passDay, .methodLink RX10 294 yX10_partOfRow, .static yX10_partOfRow, .methodLink RX10 298 yX10_ripeAfterRow, .instanceMethod yX10_ripeAfterRow, .selects RX10 yX10_ripeAfterRow yX10_ripeAfterRow, .methodLink RX10 301 yX10_moreByStick, .instanceMethod yX10_moreByStick, .selects RX10 yX10_moreByStick yX10_moreByStick, .methodLink RX10 305 yX9_isFull, .instanceMethod yX9_isFull, .selects RX9 yX9_isFull yX9_isFull, .initialized RX9, .methodLink RX10 306 yX9_append, .instanceMethod yX9_append, .selects RX9 yX9_append yX9_append, .methodLink RX10 309 yX8_findVisits, .instanceMethod yX8_findVisits, .selects RX8 yX8_findVisits yX8_findVisits, .methodLink RX10 316 yX8_appetitesOf, .instanceMethod yX8_appetitesOf, .selects RX8 yX8_appetitesOf yX8_appetitesOf, .methodLink RX10 320 yX8_firstWrong, .instanceMethod yX8_firstWrong, .selects RX8 yX8_firstWrong yX8_firstWrong, .methodLink RX10 327 yX3_copyFrom, .instanceMethod yX3_copyFrom, .selects RX3 yX3_copyFrom yX3_copyFrom, .methodLink RX10 332 yX5_copyFrom, .instanceMethod yX5_copyFrom, .selects RX5 yX5_copyFrom yX5_copyFrom]
set_option maxRecDepth 100000 in
theorem bl_lkX10_ok : ∀ w ∈ bl_lkX10, w ∈ bl_gt := List.forall_mem_cons.mpr ⟨bl_t1 (i := 196) rfl rfl, List.forall_mem_cons.mpr ⟨bl_t1 (i := 197) rfl rfl, List.forall_mem_cons.mpr ⟨bl_t1 (i := 198) rfl rfl, List.forall_mem_cons.mpr ⟨bl_t1 (i := 199) rfl rfl, List.forall_mem_cons.mpr ⟨bl_t1 (i := 200) rfl rfl, List.forall_mem_cons.mpr ⟨bl_t1 (i := 201) rfl rfl, List.forall_mem_cons.mpr ⟨bl_t1 (i := 202) rfl rfl, List.forall_mem_cons.mpr ⟨bl_t1 (i := 203) rfl rfl, List.forall_mem_cons.mpr ⟨bl_t1 (i := 204) rfl rfl, List.forall_mem_cons.mpr ⟨bl_t1 (i := 205) rfl rfl, List.forall_mem_cons.mpr ⟨bl_t1 (i := 206) rfl rfl, List.forall_mem_cons.mpr ⟨bl_t0 (i := 211) rfl rfl, List.forall_mem_cons.mpr ⟨bl_t0 (i := 207) rfl rfl, List.forall_mem_cons.mpr ⟨bl_t0 (i := 179) rfl rfl, List.forall_mem_cons.mpr ⟨bl_t0 (i := 161) rfl rfl, List.forall_mem_cons.mpr ⟨bl_t0 (i := 44) rfl rfl, List.forall_mem_cons.mpr ⟨bl_t0 (i := 48) rfl rfl, List.forall_mem_cons.mpr ⟨bl_t0 (i := 52) rfl rfl, List.forall_mem_cons.mpr ⟨bl_t0 (i := 185) rfl rfl, List.forall_mem_cons.mpr ⟨bl_t0 (i := 55) rfl rfl, List.forall_mem_cons.mpr ⟨bl_t0 (i := 209) rfl rfl, List.forall_mem_cons.mpr ⟨bl_t0 (i := 188) rfl rfl, List.forall_mem_cons.mpr ⟨bl_t1 (i := 164) rfl rfl, List.forall_mem_cons.mpr ⟨bl_t1 (i := 144) rfl rfl, List.forall_mem_cons.mpr ⟨bl_t1 (i := 166) rfl rfl, List.forall_mem_cons.mpr ⟨bl_t1 (i := 168) rfl rfl, List.forall_mem_cons.mpr ⟨bl_t0 (i := 168) rfl rfl, List.forall_mem_cons.mpr ⟨bl_t0 (i := 79) rfl rfl, List.forall_mem_cons.mpr ⟨bl_t0 (i := 84) rfl rfl, List.forall_mem_cons.mpr ⟨bl_t0 (i := 88) rfl rfl, List.forall_mem_cons.mpr ⟨bl_t0 (i := 91) rfl rfl, List.forall_mem_cons.mpr ⟨bl_t0 (i := 97) rfl rfl, List.forall_mem_cons.mpr ⟨bl_t0 (i := 100) rfl rfl, List.forall_mem_cons.mpr ⟨bl_t0 (i := 174) rfl rfl, List.forall_mem_cons.mpr ⟨bl_t0 (i := 121) rfl rfl, List.forall_mem_cons.mpr ⟨bl_t0 (i := 124) rfl rfl, List.forall_mem_cons.mpr ⟨bl_t0 (i := 126) rfl rfl, List.forall_mem_cons.mpr ⟨bl_t0 (i := 130) rfl rfl, List.forall_mem_cons.mpr ⟨bl_t0 (i := 133) rfl rfl, List.forall_mem_cons.mpr ⟨bl_t0 (i := 136) rfl rfl, List.forall_mem_cons.mpr ⟨bl_t0 (i := 138) rfl rfl, List.forall_mem_cons.mpr ⟨bl_t0 (i := 141) rfl rfl, List.forall_mem_cons.mpr ⟨bl_t1 (i := 9) rfl rfl, List.forall_mem_cons.mpr ⟨bl_t1 (i := 11) rfl rfl, List.forall_mem_cons.mpr ⟨bl_t1 (i := 13) rfl rfl, List.forall_mem_cons.mpr ⟨bl_t1 (i := 69) rfl rfl, List.forall_mem_cons.mpr ⟨bl_t1 (i := 106) rfl rfl, List.forall_mem_cons.mpr ⟨bl_t1 (i := 100) rfl rfl, List.forall_mem_cons.mpr ⟨bl_t1 (i := 102) rfl rfl, List.forall_mem_cons.mpr ⟨bl_t1 (i := 104) rfl rfl, List.forall_mem_cons.mpr ⟨bl_t1 (i := 170) rfl rfl, List.forall_mem_cons.mpr ⟨bl_t0 (i := 190) rfl rfl, List.forall_mem_cons.mpr ⟨bl_t1 (i := 237) rfl rfl, List.forall_mem_cons.mpr ⟨bl_t2 (i := 2) rfl rfl, List.forall_mem_cons.mpr ⟨bl_t2 (i := 115) rfl rfl, List.forall_mem_cons.mpr ⟨bl_t2 (i := 175) rfl rfl, List.forall_mem_cons.mpr ⟨bl_t3 (i := 111) rfl rfl, List.forall_mem_cons.mpr ⟨bl_t3 (i := 112) rfl rfl, List.forall_mem_cons.mpr ⟨bl_t1 (i := 234) rfl rfl, List.forall_mem_cons.mpr ⟨bl_t1 (i := 235) rfl rfl, List.forall_mem_cons.mpr ⟨bl_t0 (i := 1) rfl rfl, List.forall_mem_cons.mpr ⟨bl_t1 (i := 238) rfl rfl, List.forall_mem_cons.mpr ⟨bl_t1 (i := 239) rfl rfl, List.forall_mem_cons.mpr ⟨bl_t2 (i := 0) rfl rfl, List.forall_mem_cons.mpr ⟨bl_t0 (i := 2) rfl rfl, List.forall_mem_cons.mpr ⟨bl_t2 (i := 3) rfl rfl, List.forall_mem_cons.mpr ⟨bl_t2 (i := 4) rfl rfl, List.forall_mem_cons.mpr ⟨bl_t2 (i := 5) rfl rfl, List.forall_mem_cons.mpr ⟨bl_t2 (i := 11) rfl rfl, List.forall_mem_cons.mpr ⟨bl_t2 (i := 12) rfl rfl, List.forall_mem_cons.mpr ⟨bl_t2 (i := 13) rfl rfl, List.forall_mem_cons.mpr ⟨bl_t2 (i := 75) rfl rfl, List.forall_mem_cons.mpr ⟨bl_t2 (i := 76) rfl rfl, List.forall_mem_cons.mpr ⟨bl_t2 (i := 77) rfl rfl, List.forall_mem_cons.mpr ⟨bl_t0 (i := 3) rfl rfl, List.forall_mem_cons.mpr ⟨bl_t2 (i := 91) rfl rfl, List.forall_mem_cons.mpr ⟨bl_t2 (i := 92) rfl rfl, List.forall_mem_cons.mpr ⟨bl_t2 (i := 93) rfl rfl, List.forall_mem_cons.mpr ⟨bl_t0 (i := 10) rfl rfl, List.forall_mem_cons.mpr ⟨bl_t2 (i := 103) rfl rfl, List.forall_mem_cons.mpr ⟨bl_t2 (i := 104) rfl rfl, List.forall_mem_cons.mpr ⟨bl_t2 (i := 105) rfl rfl, List.forall_mem_cons.mpr ⟨bl_t2 (i := 111) rfl rfl, List.forall_mem_cons.mpr ⟨bl_t2 (i := 113) rfl rfl, List.forall_mem_cons.mpr ⟨bl_ts (i := 9) rfl rfl, List.forall_mem_cons.mpr ⟨bl_t2 (i := 120) rfl rfl, List.forall_mem_cons.mpr ⟨bl_t2 (i := 122) rfl rfl, List.forall_mem_cons.mpr ⟨bl_ts (i := 10) rfl rfl, List.forall_mem_cons.mpr ⟨bl_t2 (i := 128) rfl rfl, List.forall_mem_cons.mpr ⟨bl_t2 (i := 129) rfl rfl, List.forall_mem_cons.mpr ⟨bl_t2 (i := 130) rfl rfl, List.forall_mem_cons.mpr ⟨bl_t0 (i := 6) rfl rfl, List.forall_mem_cons.mpr ⟨bl_t2 (i := 137) rfl rfl, List.forall_mem_cons.mpr ⟨bl_t2 (i := 138) rfl rfl, List.forall_mem_cons.mpr ⟨bl_t2 (i := 139) rfl rfl, List.forall_mem_cons.mpr ⟨bl_t2 (i := 152) rfl rfl, List.forall_mem_cons.mpr ⟨bl_t2 (i := 153) rfl rfl, List.forall_mem_cons.mpr ⟨bl_t2 (i := 154) rfl rfl, List.forall_mem_cons.mpr ⟨bl_t2 (i := 161) rfl rfl, List.forall_mem_cons.mpr ⟨bl_t2 (i := 162) rfl rfl, List.forall_mem_cons.mpr ⟨bl_t2 (i := 163) rfl rfl, List.forall_mem_cons.mpr ⟨bl_t2 (i := 165) rfl rfl, List.forall_mem_cons.mpr ⟨bl_t2 (i := 166) rfl rfl, List.forall_mem_cons.mpr ⟨bl_t2 (i := 167) rfl rfl, List.forall_mem_cons.mpr ⟨bl_t2 (i := 188) rfl rfl, List.forall_mem_cons.mpr ⟨bl_t2 (i := 36) rfl rfl, List.forall_mem_cons.mpr ⟨bl_t2 (i := 37) rfl rfl, List.forall_mem_cons.mpr ⟨bl_t0 (i := 4) rfl rfl, List.forall_mem_cons.mpr ⟨bl_t2 (i := 189) rfl rfl, List.forall_mem_cons.mpr ⟨bl_t2 (i := 190) rfl rfl, List.forall_mem_cons.mpr ⟨bl_t2 (i := 191) rfl rfl, List.forall_mem_cons.mpr ⟨bl_t2 (i := 202) rfl rfl, List.forall_mem_cons.mpr ⟨bl_t2 (i := 203) rfl rfl, List.forall_mem_cons.mpr ⟨bl_t2 (i := 204) rfl rfl, List.forall_mem_cons.mpr ⟨bl_t2 (i := 221) rfl rfl, List.forall_mem_cons.mpr ⟨bl_t2 (i := 84) rfl rfl, List.forall_mem_cons.mpr ⟨bl_t2 (i := 85) rfl rfl, List.forall_mem_cons.mpr ⟨bl_t0 (i := 5) rfl rfl, List.forall_mem_cons.mpr ⟨bl_t2 (i := 222) rfl rfl, List.forall_mem_cons.mpr ⟨bl_t2 (i := 172) rfl rfl, List.forall_mem_cons.mpr ⟨bl_t2 (i := 173) rfl rfl, List.forall_mem_cons.mpr ⟨bl_t2 (i := 223) rfl rfl, List.forall_mem_cons.mpr ⟨bl_t2 (i := 224) rfl rfl, List.forall_mem_cons.mpr ⟨bl_t2 (i := 225) rfl rfl, List.forall_mem_cons.mpr ⟨bl_t2 (i := 231) rfl rfl, List.forall_mem_cons.mpr ⟨bl_t2 (i := 232) rfl rfl, List.forall_mem_cons.mpr ⟨bl_t2 (i := 233) rfl rfl, List.forall_mem_cons.mpr ⟨bl_t0 (i := 7) rfl rfl, List.forall_mem_cons.mpr ⟨bl_t3 (i := 24) rfl rfl, List.forall_mem_cons.mpr ⟨bl_t3 (i := 25) rfl rfl, List.forall_mem_cons.mpr ⟨bl_t3 (i := 26) rfl rfl, List.forall_mem_cons.mpr ⟨bl_t3 (i := 44) rfl rfl, List.forall_mem_cons.mpr ⟨bl_t3 (i := 45) rfl rfl, List.forall_mem_cons.mpr ⟨bl_t3 (i := 46) rfl rfl, List.forall_mem_cons.mpr ⟨bl_t0 (i := 8) rfl rfl, List.forall_mem_cons.mpr ⟨bl_t3 (i := 76) rfl rfl, List.forall_mem_cons.mpr ⟨bl_t3 (i := 77) rfl rfl, List.forall_mem_cons.mpr ⟨bl_t3 (i := 78) rfl rfl, List.forall_mem_cons.mpr ⟨bl_t3 (i := 84) rfl rfl, List.forall_mem_cons.mpr ⟨bl_t3 (i := 85) rfl rfl, List.forall_mem_cons.mpr ⟨bl_t3 (i := 86) rfl rfl, List.forall_mem_cons.mpr ⟨bl_t0 (i := 9) rfl rfl, List.forall_mem_cons.mpr ⟨bl_t3 (i := 103) rfl rfl, List.forall_mem_cons.mpr ⟨bl_t2 (i := 194) rfl rfl, List.forall_mem_cons.mpr ⟨bl_t2 (i := 195) rfl rfl, List.forall_mem_cons.mpr ⟨bl_t3 (i := 108) rfl rfl, List.forall_mem_cons.mpr ⟨bl_t3 (i := 109) rfl rfl, List.forall_mem_cons.mpr ⟨bl_t3 (i := 113) rfl rfl, List.forall_mem_cons.mpr ⟨bl_t3 (i := 115) rfl rfl, List.forall_mem_cons.mpr ⟨bl_ts (i := 26) rfl rfl, List.forall_mem_cons.mpr ⟨bl_t3 (i := 121) rfl rfl, List.forall_mem_cons.mpr ⟨bl_t3 (i := 123) rfl rfl, List.forall_mem_cons.mpr ⟨bl_ts (i := 27) rfl rfl, List.forall_mem_cons.mpr ⟨bl_t3 (i := 130) rfl rfl, List.forall_mem_cons.mpr ⟨bl_t3 (i := 131) rfl rfl, List.forall_mem_cons.mpr ⟨bl_t3 (i := 132) rfl rfl, List.forall_mem_cons.mpr ⟨bl_t0 (i := 11) rfl rfl, List.forall_mem_cons.mpr ⟨bl_t3 (i := 134) rfl rfl, List.forall_mem_cons.mpr ⟨bl_t3 (i := 135) rfl rfl, List.forall_mem_cons.mpr ⟨bl_t3 (i := 136) rfl rfl, List.forall_mem_cons.mpr ⟨bl_t3 (i := 142) rfl rfl, List.forall_mem_cons.mpr ⟨bl_t3 (i := 143) rfl rfl, List.forall_mem_cons.mpr ⟨bl_t3 (i := 144) rfl rfl, List.forall_mem_cons.mpr ⟨bl_t3 (i := 164) rfl rfl, List.forall_mem_cons.mpr ⟨bl_t3 (i := 165) rfl rfl, List.forall_mem_cons.mpr ⟨bl_t3 (i := 166) rfl rfl, List.forall_mem_cons.mpr ⟨bl_t3 (i := 182) rfl rfl, List.forall_mem_cons.mpr ⟨bl_t3 (i := 183) rfl rfl, List.forall_mem_cons.mpr ⟨bl_t3 (i := 184) rfl rfl, List.forall_mem_cons.mpr ⟨bl_t3 (i := 199) rfl rfl, List.forall_mem_cons.mpr ⟨bl_t3 (i := 200) rfl rfl, List.forall_mem_cons.mpr ⟨bl_t3 (i := 201) rfl rfl, List.forall_mem_cons.mpr ⟨bl_t3 (i := 125) rfl rfl, List.forall_mem_cons.mpr ⟨bl_t2 (i := 88) rfl rfl, List.forall_mem_cons.mpr ⟨bl_t2 (i := 89) rfl rfl, fun _ h => absurd h List.not_mem_nil⟩⟩⟩⟩⟩⟩⟩⟩⟩⟩⟩⟩⟩⟩⟩⟩⟩⟩⟩⟩⟩⟩⟩⟩⟩⟩⟩⟩⟩⟩⟩⟩⟩⟩⟩⟩⟩⟩⟩⟩⟩⟩⟩⟩⟩⟩⟩⟩⟩⟩⟩⟩⟩⟩⟩⟩⟩⟩⟩⟩⟩⟩⟩⟩⟩⟩⟩⟩⟩⟩⟩⟩⟩⟩⟩⟩⟩⟩⟩⟩⟩⟩⟩⟩⟩⟩⟩⟩⟩⟩⟩⟩⟩⟩⟩⟩⟩⟩⟩⟩⟩⟩⟩⟩⟩⟩⟩⟩⟩⟩⟩⟩⟩⟩⟩⟩⟩⟩⟩⟩⟩⟩⟩⟩⟩⟩⟩⟩⟩⟩⟩⟩⟩⟩⟩⟩⟩⟩⟩⟩⟩⟩⟩⟩⟩⟩⟩⟩⟩⟩⟩⟩⟩⟩⟩⟩⟩⟩⟩⟩⟩⟩⟩⟩⟩⟩⟩⟩⟩⟩⟩⟩⟩⟩⟩
def bl_lkX11 : List Cond := [.fieldLink RX11 7 "BerryLaneModel" "holds" "I", .fieldLink RX11 13 "BerryLaneModel" "bushAt" "[I", .fieldLink RX11 17 "BerryLaneModel" "bushSide" "[I", .fieldLink RX11 20 "BerryLaneModel" "kind" "[I", .fieldLink RX11 23 "BerryLaneModel" "red" "[I", .fieldLink RX11 26 "BerryLaneModel" "ripe" "[I", .fieldLink RX11 29 "BerryLaneModel" "soft" "[I", .fieldLink RX11 32 "BerryLaneModel" "yard" "[I", .fieldLink RX11 35 "BerryLaneModel" "side" "[I", .fieldLink RX11 38 "BerryLaneModel" "quick" "[I", .fieldLink RX11 41 "BerryLaneModel" "eats" "[I", .fieldLink RX11 44 "BerryLaneModel" "high" "[Z", .fieldLink RX11 48 "BerryLaneModel" "can" "[I", .fieldLink RX11 51 "BerryLaneModel" "eaten" "[I", .fieldLink RX11 54 "BerryLaneModel" "clock" "[I", .fieldLink RX11 57 "BerryLaneModel" "text" "[I", .fieldLink RX11 60 "BerryLaneModel" "faultPlace" "I", .fieldLink RX11 63 "BerryLaneModel" "readLaw" "[I", .fieldLink RX11 66 "BerryLaneModel" "readHolds" "[I", .fieldLink RX11 69 "BerryLaneModel" "readAt" "[I", .fieldLink RX11 72 "BerryLaneModel" "readSide" "[I", .fieldLink RX11 75 "BerryLaneModel" "readKind" "[I", .fieldLink RX11 78 "BerryLaneModel" "readRed" "[I", .fieldLink RX11 81 "BerryLaneModel" "readRipe" "[I", .fieldLink RX11 84 "BerryLaneModel" "readSoft" "[I", .fieldLink RX11 87 "BerryLaneModel" "readYard" "[I", .fieldLink RX11 90 "BerryLaneModel" "readQuick" "[I", .fieldLink RX11 93 "BerryLaneModel" "readEats" "[I", .fieldLink RX11 96 "BerryLaneModel" "readHigh" "[I", .fieldLink RX11 99 "BerryLaneModel" "wasRed" "[I", .fieldLink RX11 102 "BerryLaneModel" "wasRipe" "[I", .fieldLink RX11 105 "BerryLaneModel" "wasSoft" "[I", .fieldLink RX11 108 "BerryLaneModel" "gains" "[I", .fieldLink RX11 111 "BerryLaneModel" "most" "[I", .fieldLink RX11 114 "BerryLaneModel" "cansAt" "[I", .fieldLink RX11 117 "BerryLaneModel" "leftBush" "[I", .fieldLink RX11 120 "BerryLaneModel" "leftDays" "[I", .fieldLink RX11 123 "BerryLaneModel" "leftRipe" "[I", .fieldLink RX11 126 "BerryLaneModel" "canWho" "[I", .fieldLink RX11 129 "BerryLaneModel" "canBush" "[I", .fieldLink RX11 132 "BerryLaneModel" "canHands" "[I", .fieldLink RX11 135 "BerryLaneModel" "canMuch" "[I", .fieldLink RX11 138 "BerryLaneModel" "bookWho" "[I", .fieldLink RX11 141 "BerryLaneModel" "bookBush" "[I", .fieldLink RX11 144 "BerryLaneModel" "bookGave" "[I", .fieldLink RX11 147 "BerryLaneModel" "images" "[I", .fieldLink RX11 150 "BerryLaneModel" "isKept" "[Z", .fieldLink RX11 153 "BerryLaneModel" "ripens" "I", .fieldLink RX11 156 "BerryLaneModel" "bushes" "I", .fieldLink RX11 163 "BerryLaneModel" "pickers" "I", .fieldLink RX11 169 "BerryLaneModel" "texted" "I", .fieldLink RX11 173 "BerryLaneModel" "at0" "I", .fieldLink RX11 188 "BerryLaneModel" "numberAt" "I", .fieldLink RX11 191 "BerryLaneModel" "number" "I", .fieldLink RX11 197 "BerryLaneModel" "hasLaw" "Z", .fieldLink RX11 205 "BerryLaneModel" "readBushes" "I", .fieldLink RX11 208 "BerryLaneModel" "readPickers" "I", .fieldLink RX11 220 "BerryLaneModel" "softens" "I", .fieldLink RX11 223 "BerryLaneModel" "falls" "I", .fieldLink RX11 232 "BerryLaneModel" "day" "I", .fieldLink RX11 235 "BerryLaneModel" "lefts" "I", .fieldLink RX11 238 "BerryLaneModel" "cans" "I", .fieldLink RX11 241 "BerryLaneModel" "booked" "I", .fieldLink RX11 296 "BerryLaneModel" "seed" "I", .constant RX11 168 (-1000000002), .constant RX11 172 (-1000000004), .constant RX11 251 (-1000000001), .constant RX11 274 (999999), .constant RX11 285 (-1000000003), .constant RX11 305 (65536), .constant RX11 331 (-1000000), .constantLong RX11 166 (255), .constantLong RX11 180 (48), .constantLong RX11 182 (57), .constantLong RX11 279 (60), .constantLong RX11 290 (99), .constantLong RX11 299 (1103515245), .constantLong RX11 301 (12345), .constantLong RX11 303 (2147483648), .constantLong RX11 316 (20), .constantLong RX11 343 (24), .constantLong RX11 361 (2), .constantLong RX11 366 (30), .constantLong RX11 368 (999), .constantLong RX11 370 (8), .constantLong RX11 372 (100), .constantLong RX11 374 (1000000000), .constantLong RX11 379 (9), .methodLink RX11 159 yX11_in, .static yX11_in, .initialized RX11, .methodLink RX11 176 yX11_here, .instanceMethod yX11_here, .selects RX11 yX11_here yX11_here, .methodLink RX11 184 yX11_fails, .instanceMethod yX11_fails, .selects RX11 yX11_fails yX11_fails, .methodLink RX11 194 yX11_takeNumber, .instanceMethod yX11_takeNumber, .selects RX11 yX11_takeNumber yX11_takeNumber, .methodLink RX11 201 yX11_into, .instanceMethod yX11_into, .selects RX11 yX11_into yX11_into, .methodLink RX11 211 yX11_takeLaw, .instanceMethod yX11_takeLaw, .selects RX11 yX11_takeLaw yX11_takeLaw, .methodLink RX11 214 yX11_takeBush, .instanceMethod yX11_takeBush, .selects RX11 yX11_takeBush yX11_takeBush, .methodLink RX11 217 yX11_takePicker, .instanceMethod yX11_takePicker, .selects RX11 yX11_takePicker yX11_takePicker, .methodLink RX11 226 yX11_takeClause, .instanceMethod yX11_takeClause, .selects RX11 yX11_takeClause yX11_takeClause, .methodLink RX11 229 yX11_takeRead, .instanceMethod yX11_takeRead, .selects RX11 yX11_takeRead yX11_takeRead, .methodLink RX11 244 yX11_ripeInAll, .instanceMethod yX11_ripeInAll, .selects RX11 yX11_ripeInAll yX11_ripeInAll, .methodLink RX11 247 yX11_isBush, .instanceMethod yX11_isBush, .selects RX11 yX11_isBush yX11_isBush, .methodLink RX11 252 yX11_isPicker, .instanceMethod yX11_isPicker, .selects RX11 yX11_isPicker yX11_isPicker, .methodLink RX11 255 yX11_givesOf, .instanceMethod yX11_givesOf, .selects RX11 yX11_givesOf yX11_givesOf, .methodLink RX11 258 yX11_momentsOf, .static yX11_momentsOf, .methodLink RX11 262 yX11_wayOf, .instanceMethod yX11_wayOf, .selects RX11 yX11_wayOf yX11_wayOf, .methodLink RX11 265 yX11_handful, .instanceMethod yX11_handful, .selects RX11 yX11_handful yX11_handful, .methodLink RX11 268 yX11_rest, .static yX11_rest, .methodLink RX11 271 yX11_atMost, .static yX11_atMost, .methodLink RX11 275 yX11_handfulTakes, .instanceMethod yX11_handfulTakes, .selects RX11 yX11_handfulTakes yX11_handfulTakes, .methodLink RX11 281 yX11_pickNow, .instanceMethod yX11_pickNow, .selects RX11 yX11_pickNow yX11_pickNow, .methodLink RX11 286 yX11_ripen, .instanceMethod yX11_ripen, .selects RX11 yX11_ripen yX11_ripen, .methodLink RX11 292 yX11_dayNow, .instanceMethod yX11_dayNow, .selects RX11 yX11_dayNow yX11_dayNow, .methodLink RX11 306 yX11_draw, .instanceMethod yX11_draw, .selects RX11 yX11_draw yX11_draw, .methodLink RX11 309 yX11_go, .instanceMethod yX11_go, .selects RX11 yX11_go yX11_go, .methodLink RX11 312 yX11_putBack, .instanceMethod yX11_putBack, .selects RX11 yX11_putBack yX11_putBack, .methodLink RX11 318 yX11_save, .instanceMethod yX11_save, .selects RX11 yX11_save yX11_save, .methodLink RX11 321 yX11_putAllBack, .instanceMethod yX11_putAllBack, .selects RX11 yX11_putAllBack yX11_putAllBack, .methodLink RX11 324 yX11_wayBetween, .instanceMethod yX11_wayBetween, .selects RX11 yX11_wayBetween yX11_wayBetween, .methodLink RX11 327 yX11_has, .static yX11_has, .methodLink RX11 332 yX11_stateOf, .instanceMethod yX11_stateOf, .selects RX11 yX11_stateOf yX11_stateOf, .methodLink RX11 335 yX11_findGains, .instanceMethod yX11_findGains, .selects RX11 yX11_findGains yX11_findGains, .methodLink RX11 339 yX11_byNext, .instanceMethod yX11_byNext, .selects RX11 yX11_byNext yX11_byNext, .methodLink RX11 345 yX11_findMost, .instanceMethod yX11_findMost, .selects RX11 yX11_findMost yX11_findMost, .methodLink RX11 348 yX11_figure, .instanceMethod yX11_figure, .selects RX11 yX11_figure yX11_figure, .methodLink RX11 351 yX11_findCans, .instanceMethod yX11_findCans, .selects RX11 yX11_findCans yX11_findCans, .methodLink RX11 354 yX11_allBy, .instanceMethod yX11_allBy, .selects RX11 yX11_allBy yX11_allBy, .methodLink RX11 357 yX11_rivalHas, .instanceMethod yX11_rivalHas, .selects RX11 yX11_rivalHas yX11_rivalHas, .methodLink RX11 363 yX11_bestAgainst, .instanceMethod yX11_bestAgainst, .selects RX11 yX11_bestAgainst yX11_bestAgainst, .methodLink RX11 376 yX11_bestOf, .instanceMethod yX11_bestOf, .selects RX11 yX11_bestOf yX11_bestOf, .methodLink RX11 381 yX11_isLeft, .instanceMethod yX11_isLeft, .selects RX11 yX11_isLeft yX11_isLeft, .methodLink RX11 384 yX11_wasVisited, .instanceMethod yX11_wasVisited, .selects RX11 yX11_wasVisited yX11_wasVisited, .methodLink RX11 388 yX11_isCan, .instanceMethod yX11_isCan, .selects RX11 yX11_isCan yX11_isCan]
set_option maxRecDepth 100000 in
theorem bl_lkX11_ok : ∀ w ∈ bl_lkX11, w ∈ bl_gt := List.forall_mem_cons.mpr ⟨bl_t3 (i := 217) rfl rfl, List.forall_mem_cons.mpr ⟨bl_t3 (i := 219) rfl rfl, List.forall_mem_cons.mpr ⟨bl_t3 (i := 220) rfl rfl, List.forall_mem_cons.mpr ⟨bl_t3 (i := 221) rfl rfl, List.forall_mem_cons.mpr ⟨bl_t3 (i := 222) rfl rfl, List.forall_mem_cons.mpr ⟨bl_t3 (i := 223) rfl rfl, List.forall_mem_cons.mpr ⟨bl_t3 (i := 224) rfl rfl, List.forall_mem_cons.mpr ⟨bl_t3 (i := 226) rfl rfl, List.forall_mem_cons.mpr ⟨bl_t3 (i := 227) rfl rfl, List.forall_mem_cons.mpr ⟨bl_t3 (i := 228) rfl rfl, List.forall_mem_cons.mpr ⟨bl_t3 (i := 229) rfl rfl, List.forall_mem_cons.mpr ⟨bl_t3 (i := 230) rfl rfl, List.forall_mem_cons.mpr ⟨bl_t3 (i := 231) rfl rfl, List.forall_mem_cons.mpr ⟨bl_t3 (i := 232) rfl rfl, List.forall_mem_cons.mpr ⟨bl_t3 (i := 233) rfl rfl, List.forall_mem_cons.mpr ⟨bl_t3 (i := 236) rfl rfl, List.forall_mem_cons.mpr ⟨bl_t3 (i := 238) rfl rfl, List.forall_mem_cons.mpr ⟨bl_t4 (i := 2) rfl rfl, List.forall_mem_cons.mpr ⟨bl_t4 (i := 4) rfl rfl, List.forall_mem_cons.mpr ⟨bl_t4 (i := 6) rfl rfl, List.forall_mem_cons.mpr ⟨bl_t4 (i := 7) rfl rfl, List.forall_mem_cons.mpr ⟨bl_t4 (i := 8) rfl rfl, List.forall_mem_cons.mpr ⟨bl_t4 (i := 9) rfl rfl, List.forall_mem_cons.mpr ⟨bl_t4 (i := 10) rfl rfl, List.forall_mem_cons.mpr ⟨bl_t4 (i := 11) rfl rfl, List.forall_mem_cons.mpr ⟨bl_t4 (i := 13) rfl rfl, List.forall_mem_cons.mpr ⟨bl_t4 (i := 14) rfl rfl, List.forall_mem_cons.mpr ⟨bl_t4 (i := 15) rfl rfl, List.forall_mem_cons.mpr ⟨bl_t4 (i := 16) rfl rfl, List.forall_mem_cons.mpr ⟨bl_t4 (i := 17) rfl rfl, List.forall_mem_cons.mpr ⟨bl_t4 (i := 18) rfl rfl, List.forall_mem_cons.mpr ⟨bl_t4 (i := 19) rfl rfl, List.forall_mem_cons.mpr ⟨bl_t4 (i := 20) rfl rfl, List.forall_mem_cons.mpr ⟨bl_t4 (i := 21) rfl rfl, List.forall_mem_cons.mpr ⟨bl_t4 (i := 22) rfl rfl, List.forall_mem_cons.mpr ⟨bl_t4 (i := 24) rfl rfl, List.forall_mem_cons.mpr ⟨bl_t4 (i := 25) rfl rfl, List.forall_mem_cons.mpr ⟨bl_t4 (i := 26) rfl rfl, List.forall_mem_cons.mpr ⟨bl_t4 (i := 28) rfl rfl, List.forall_mem_cons.mpr ⟨bl_t4 (i := 29) rfl rfl, List.forall_mem_cons.mpr ⟨bl_t4 (i := 30) rfl rfl, List.forall_mem_cons.mpr ⟨bl_t4 (i := 31) rfl rfl, List.forall_mem_cons.mpr ⟨bl_t4 (i := 33) rfl rfl, List.forall_mem_cons.mpr ⟨bl_t4 (i := 34) rfl rfl, List.forall_mem_cons.mpr ⟨bl_t4 (i := 35) rfl rfl, List.forall_mem_cons.mpr ⟨bl_t4 (i := 36) rfl rfl, List.forall_mem_cons.mpr ⟨bl_t4 (i := 37) rfl rfl, List.forall_mem_cons.mpr ⟨bl_t3 (i := 214) rfl rfl, List.forall_mem_cons.mpr ⟨bl_t3 (i := 218) rfl rfl, List.forall_mem_cons.mpr ⟨bl_t3 (i := 225) rfl rfl, List.forall_mem_cons.mpr ⟨bl_t3 (i := 237) rfl rfl, List.forall_mem_cons.mpr ⟨bl_t3 (i := 239) rfl rfl, List.forall_mem_cons.mpr ⟨bl_t4 (i := 1) rfl rfl, List.forall_mem_cons.mpr ⟨bl_t4 (i := 0) rfl rfl, List.forall_mem_cons.mpr ⟨bl_t4 (i := 3) rfl rfl, List.forall_mem_cons.mpr ⟨bl_t4 (i := 5) rfl rfl, List.forall_mem_cons.mpr ⟨bl_t4 (i := 12) rfl rfl, List.forall_mem_cons.mpr ⟨bl_t3 (i := 215) rfl rfl, List.forall_mem_cons.mpr ⟨bl_t3 (i := 216) rfl rfl, List.forall_mem_cons.mpr ⟨bl_t3 (i := 234) rfl rfl, List.forall_mem_cons.mpr ⟨bl_t4 (i := 23) rfl rfl, List.forall_mem_cons.mpr ⟨bl_t4 (i := 27) rfl rfl, List.forall_mem_cons.mpr ⟨bl_t4 (i := 32) rfl rfl, List.forall_mem_cons.mpr ⟨bl_t3 (i := 235) rfl rfl, List.forall_mem_cons.mpr ⟨bl_t4 (i := 175) rfl rfl, List.forall_mem_cons.mpr ⟨bl_t4 (i := 176) rfl rfl, List.forall_mem_cons.mpr ⟨bl_t4 (i := 239) rfl rfl, List.forall_mem_cons.mpr ⟨bl_t5 (i := 50) rfl rfl, List.forall_mem_cons.mpr ⟨bl_t5 (i := 55) rfl rfl, List.forall_mem_cons.mpr ⟨bl_t5 (i := 88) rfl rfl, List.forall_mem_cons.mpr ⟨bl_t5 (i := 131) rfl rfl, List.forall_mem_cons.mpr ⟨bl_t4 (i := 171) rfl rfl, List.forall_mem_cons.mpr ⟨bl_t4 (i := 205) rfl rfl, List.forall_mem_cons.mpr ⟨bl_t4 (i := 206) rfl rfl, List.forall_mem_cons.mpr ⟨bl_t5 (i := 35) rfl rfl, List.forall_mem_cons.mpr ⟨bl_t5 (i := 68) rfl rfl, List.forall_mem_cons.mpr ⟨bl_t5 (i := 85) rfl rfl, List.forall_mem_cons.mpr ⟨bl_t5 (i := 86) rfl rfl, List.forall_mem_cons.mpr ⟨bl_t5 (i := 87) rfl rfl, List.forall_mem_cons.mpr ⟨bl_t5 (i := 94) rfl rfl, List.forall_mem_cons.mpr ⟨bl_t5 (i := 107) rfl rfl, List.forall_mem_cons.mpr ⟨bl_t5 (i := 156) rfl rfl, List.forall_mem_cons.mpr ⟨bl_t5 (i := 169) rfl rfl, List.forall_mem_cons.mpr ⟨bl_t5 (i := 174) rfl rfl, List.forall_mem_cons.mpr ⟨bl_t5 (i := 175) rfl rfl, List.forall_mem_cons.mpr ⟨bl_t5 (i := 176) rfl rfl, List.forall_mem_cons.mpr ⟨bl_t5 (i := 177) rfl rfl, List.forall_mem_cons.mpr ⟨bl_t5 (i := 190) rfl rfl, List.forall_mem_cons.mpr ⟨bl_t4 (i := 172) rfl rfl, List.forall_mem_cons.mpr ⟨bl_t4 (i := 173) rfl rfl, List.forall_mem_cons.mpr ⟨bl_t0 (i := 13) rfl rfl, List.forall_mem_cons.mpr ⟨bl_t4 (i := 181) rfl rfl, List.forall_mem_cons.mpr ⟨bl_t4 (i := 183) rfl rfl, List.forall_mem_cons.mpr ⟨bl_ts (i := 31) rfl rfl, List.forall_mem_cons.mpr ⟨bl_t4 (i := 189) rfl rfl, List.forall_mem_cons.mpr ⟨bl_t4 (i := 191) rfl rfl, List.forall_mem_cons.mpr ⟨bl_ts (i := 33) rfl rfl, List.forall_mem_cons.mpr ⟨bl_t4 (i := 201) rfl rfl, List.forall_mem_cons.mpr ⟨bl_t4 (i := 203) rfl rfl, List.forall_mem_cons.mpr ⟨bl_ts (i := 36) rfl rfl, List.forall_mem_cons.mpr ⟨bl_t4 (i := 197) rfl rfl, List.forall_mem_cons.mpr ⟨bl_t4 (i := 199) rfl rfl, List.forall_mem_cons.mpr ⟨bl_ts (i := 35) rfl rfl, List.forall_mem_cons.mpr ⟨bl_t4 (i := 193) rfl rfl, List.forall_mem_cons.mpr ⟨bl_t4 (i := 195) rfl rfl, List.forall_mem_cons.mpr ⟨bl_ts (i := 34) rfl rfl, List.forall_mem_cons.mpr ⟨bl_t4 (i := 207) rfl rfl, List.forall_mem_cons.mpr ⟨bl_t4 (i := 209) rfl rfl, List.forall_mem_cons.mpr ⟨bl_ts (i := 37) rfl rfl, List.forall_mem_cons.mpr ⟨bl_t4 (i := 211) rfl rfl, List.forall_mem_cons.mpr ⟨bl_t4 (i := 213) rfl rfl, List.forall_mem_cons.mpr ⟨bl_ts (i := 38) rfl rfl, List.forall_mem_cons.mpr ⟨bl_t4 (i := 185) rfl rfl, List.forall_mem_cons.mpr ⟨bl_t4 (i := 187) rfl rfl, List.forall_mem_cons.mpr ⟨bl_ts (i := 32) rfl rfl, List.forall_mem_cons.mpr ⟨bl_t4 (i := 215) rfl rfl, List.forall_mem_cons.mpr ⟨bl_t4 (i := 217) rfl rfl, List.forall_mem_cons.mpr ⟨bl_ts (i := 39) rfl rfl, List.forall_mem_cons.mpr ⟨bl_t4 (i := 227) rfl rfl, List.forall_mem_cons.mpr ⟨bl_t4 (i := 229) rfl rfl, List.forall_mem_cons.mpr ⟨bl_ts (i := 40) rfl rfl, List.forall_mem_cons.mpr ⟨bl_t4 (i := 235) rfl rfl, List.forall_mem_cons.mpr ⟨bl_t4 (i := 237) rfl rfl, List.forall_mem_cons.mpr ⟨bl_ts (i := 41) rfl rfl, List.forall_mem_cons.mpr ⟨bl_t5 (i := 4) rfl rfl, List.forall_mem_cons.mpr ⟨bl_t5 (i := 6) rfl rfl, List.forall_mem_cons.mpr ⟨bl_ts (i := 42) rfl rfl, List.forall_mem_cons.mpr ⟨bl_t5 (i := 12) rfl rfl, List.forall_mem_cons.mpr ⟨bl_t5 (i := 14) rfl rfl, List.forall_mem_cons.mpr ⟨bl_ts (i := 43) rfl rfl, List.forall_mem_cons.mpr ⟨bl_t5 (i := 24) rfl rfl, List.forall_mem_cons.mpr ⟨bl_t5 (i := 25) rfl rfl, List.forall_mem_cons.mpr ⟨bl_t5 (i := 20) rfl rfl, List.forall_mem_cons.mpr ⟨bl_t5 (i := 22) rfl rfl, List.forall_mem_cons.mpr ⟨bl_ts (i := 44) rfl rfl, List.forall_mem_cons.mpr ⟨bl_t5 (i := 40) rfl rfl, List.forall_mem_cons.mpr ⟨bl_t5 (i := 42) rfl rfl, List.forall_mem_cons.mpr ⟨bl_ts (i := 46) rfl rfl, List.forall_mem_cons.mpr ⟨bl_t5 (i := 44) rfl rfl, List.forall_mem_cons.mpr ⟨bl_t5 (i := 45) rfl rfl, List.forall_mem_cons.mpr ⟨bl_t5 (i := 47) rfl rfl, List.forall_mem_cons.mpr ⟨bl_t5 (i := 48) rfl rfl, List.forall_mem_cons.mpr ⟨bl_t5 (i := 51) rfl rfl, List.forall_mem_cons.mpr ⟨bl_t5 (i := 53) rfl rfl, List.forall_mem_cons.mpr ⟨bl_ts (i := 47) rfl rfl, List.forall_mem_cons.mpr ⟨bl_t5 (i := 36) rfl rfl, List.forall_mem_cons.mpr ⟨bl_t5 (i := 38) rfl rfl, List.forall_mem_cons.mpr ⟨bl_ts (i := 45) rfl rfl, List.forall_mem_cons.mpr ⟨bl_t5 (i := 73) rfl rfl, List.forall_mem_cons.mpr ⟨bl_t5 (i := 75) rfl rfl, List.forall_mem_cons.mpr ⟨bl_ts (i := 49) rfl rfl, List.forall_mem_cons.mpr ⟨bl_t5 (i := 69) rfl rfl, List.forall_mem_cons.mpr ⟨bl_t5 (i := 71) rfl rfl, List.forall_mem_cons.mpr ⟨bl_ts (i := 48) rfl rfl, List.forall_mem_cons.mpr ⟨bl_t5 (i := 81) rfl rfl, List.forall_mem_cons.mpr ⟨bl_t5 (i := 83) rfl rfl, List.forall_mem_cons.mpr ⟨bl_ts (i := 50) rfl rfl, List.forall_mem_cons.mpr ⟨bl_t5 (i := 89) rfl rfl, List.forall_mem_cons.mpr ⟨bl_t5 (i := 28) rfl rfl, List.forall_mem_cons.mpr ⟨bl_t5 (i := 29) rfl rfl, List.forall_mem_cons.mpr ⟨bl_t5 (i := 99) rfl rfl, List.forall_mem_cons.mpr ⟨bl_t5 (i := 101) rfl rfl, List.forall_mem_cons.mpr ⟨bl_ts (i := 52) rfl rfl, List.forall_mem_cons.mpr ⟨bl_t5 (i := 95) rfl rfl, List.forall_mem_cons.mpr ⟨bl_t5 (i := 97) rfl rfl, List.forall_mem_cons.mpr ⟨bl_ts (i := 51) rfl rfl, List.forall_mem_cons.mpr ⟨bl_t5 (i := 116) rfl rfl, List.forall_mem_cons.mpr ⟨bl_t5 (i := 118) rfl rfl, List.forall_mem_cons.mpr ⟨bl_ts (i := 55) rfl rfl, List.forall_mem_cons.mpr ⟨bl_t5 (i := 124) rfl rfl, List.forall_mem_cons.mpr ⟨bl_t5 (i := 126) rfl rfl, List.forall_mem_cons.mpr ⟨bl_ts (i := 57) rfl rfl, List.forall_mem_cons.mpr ⟨bl_t5 (i := 128) rfl rfl, List.forall_mem_cons.mpr ⟨bl_t5 (i := 129) rfl rfl, List.forall_mem_cons.mpr ⟨bl_t5 (i := 132) rfl rfl, List.forall_mem_cons.mpr ⟨bl_t5 (i := 134) rfl rfl, List.forall_mem_cons.mpr ⟨bl_ts (i := 58) rfl rfl, List.forall_mem_cons.mpr ⟨bl_t5 (i := 112) rfl rfl, List.forall_mem_cons.mpr ⟨bl_t5 (i := 114) rfl rfl, List.forall_mem_cons.mpr ⟨bl_ts (i := 54) rfl rfl, List.forall_mem_cons.mpr ⟨bl_t5 (i := 120) rfl rfl, List.forall_mem_cons.mpr ⟨bl_t5 (i := 122) rfl rfl, List.forall_mem_cons.mpr ⟨bl_ts (i := 56) rfl rfl, List.forall_mem_cons.mpr ⟨bl_t5 (i := 108) rfl rfl, List.forall_mem_cons.mpr ⟨bl_t5 (i := 110) rfl rfl, List.forall_mem_cons.mpr ⟨bl_ts (i := 53) rfl rfl, List.forall_mem_cons.mpr ⟨bl_t5 (i := 148) rfl rfl, List.forall_mem_cons.mpr ⟨bl_t5 (i := 150) rfl rfl, List.forall_mem_cons.mpr ⟨bl_ts (i := 61) rfl rfl, List.forall_mem_cons.mpr ⟨bl_t5 (i := 140) rfl rfl, List.forall_mem_cons.mpr ⟨bl_t5 (i := 142) rfl rfl, List.forall_mem_cons.mpr ⟨bl_ts (i := 59) rfl rfl, List.forall_mem_cons.mpr ⟨bl_t5 (i := 144) rfl rfl, List.forall_mem_cons.mpr ⟨bl_t5 (i := 146) rfl rfl, List.forall_mem_cons.mpr ⟨bl_ts (i := 60) rfl rfl, List.forall_mem_cons.mpr ⟨bl_t5 (i := 161) rfl rfl, List.forall_mem_cons.mpr ⟨bl_t5 (i := 163) rfl rfl, List.forall_mem_cons.mpr ⟨bl_ts (i := 63) rfl rfl, List.forall_mem_cons.mpr ⟨bl_t5 (i := 157) rfl rfl, List.forall_mem_cons.mpr ⟨bl_t5 (i := 159) rfl rfl, List.forall_mem_cons.mpr ⟨bl_ts (i := 62) rfl rfl, List.forall_mem_cons.mpr ⟨bl_t5 (i := 182) rfl rfl, List.forall_mem_cons.mpr ⟨bl_t5 (i := 184) rfl rfl, List.forall_mem_cons.mpr ⟨bl_ts (i := 64) rfl rfl, List.forall_mem_cons.mpr ⟨bl_t5 (i := 199) rfl rfl, List.forall_mem_cons.mpr ⟨bl_t5 (i := 201) rfl rfl, List.forall_mem_cons.mpr ⟨bl_ts (i := 66) rfl rfl, List.forall_mem_cons.mpr ⟨bl_t5 (i := 195) rfl rfl, List.forall_mem_cons.mpr ⟨bl_t5 (i := 197) rfl rfl, List.forall_mem_cons.mpr ⟨bl_ts (i := 65) rfl rfl, List.forall_mem_cons.mpr ⟨bl_t5 (i := 211) rfl rfl, List.forall_mem_cons.mpr ⟨bl_t5 (i := 213) rfl rfl, List.forall_mem_cons.mpr ⟨bl_ts (i := 67) rfl rfl, fun _ h => absurd h List.not_mem_nil⟩⟩⟩⟩⟩⟩⟩⟩⟩⟩⟩⟩⟩⟩⟩⟩⟩⟩⟩⟩⟩⟩⟩⟩⟩⟩⟩⟩⟩⟩⟩⟩⟩⟩⟩⟩⟩⟩⟩⟩⟩⟩⟩⟩⟩⟩⟩⟩⟩⟩⟩⟩⟩⟩⟩⟩⟩⟩⟩⟩⟩⟩⟩⟩⟩⟩⟩⟩⟩⟩⟩⟩⟩⟩⟩⟩⟩⟩⟩⟩⟩⟩⟩⟩⟩⟩⟩⟩⟩⟩⟩⟩⟩⟩⟩⟩⟩⟩⟩⟩⟩⟩⟩⟩⟩⟩⟩⟩⟩⟩⟩⟩⟩⟩⟩⟩⟩⟩⟩⟩⟩⟩⟩⟩⟩⟩⟩⟩⟩⟩⟩⟩⟩⟩⟩⟩⟩⟩⟩⟩⟩⟩⟩⟩⟩⟩⟩⟩⟩⟩⟩⟩⟩⟩⟩⟩⟩⟩⟩⟩⟩⟩⟩⟩⟩⟩⟩⟩⟩⟩⟩⟩⟩⟩⟩⟩⟩⟩⟩⟩⟩⟩⟩⟩⟩⟩⟩⟩⟩⟩⟩⟩⟩⟩⟩⟩⟩⟩⟩⟩⟩⟩⟩⟩⟩⟩⟩⟩⟩⟩⟩⟩⟩
def mi_X1_copyFrom : bl_MI := (yX1_copyFrom, cX1_copyFrom, 2, none, 0, 0, bl_lkX1)
def mi_X1_handfulMoments : bl_MI := (yX1_handfulMoments, cX1_handfulMoments, 1, (some .int), 0, 0, bl_lkX1)
def mi_X5_wouldGet : bl_MI := (yX5_wouldGet, cX5_wouldGet, 3, (some .int), 1, 21, bl_lkX5)
def mi_X5_tryHandful : bl_MI := (yX5_tryHandful, cX5_tryHandful, 3, (some .int), 2, 43, bl_lkX5)
def mi_X0_measureGains : bl_MI := (yX0_measureGains, cX0_measureGains, 7, none, 3, 65, bl_lkX0)
def mi_X1_momentsFrom : bl_MI := (yX1_momentsFrom, cX1_momentsFrom, 4, (some .int), 1, 21, bl_lkX1)
def mi_X5_momentsTo : bl_MI := (yX5_momentsTo, cX5_momentsTo, 2, (some .int), 2, 44, bl_lkX5)
def mi_X0_measureWays : bl_MI := (yX0_measureWays, cX0_measureWays, 7, none, 3, 65, bl_lkX0)
def mi_X0_fillShortest : bl_MI := (yX0_fillShortest, cX0_fillShortest, 6, none, 1, 21, bl_lkX0)
def mi_X0_fillGathered : bl_MI := (yX0_fillGathered, cX0_fillGathered, 10, none, 1, 21, bl_lkX0)
def mi_X0_mostBeyond : bl_MI := (yX0_mostBeyond, cX0_mostBeyond, 8, (some .int), 1, 21, bl_lkX0)
def mi_X0_findMost : bl_MI := (yX0_findMost, cX0_findMost, 6, (some .int), 4, 91, bl_lkX0)
def mi_X0_fewestHandfuls : bl_MI := (yX0_fewestHandfuls, cX0_fewestHandfuls, 4, (some .int), 2, 48, bl_lkX0)
def mi_X0_addStop : bl_MI := (yX0_addStop, cX0_addStop, 3, none, 0, 0, bl_lkX0)
def mi_X0_findNextStop : bl_MI := (yX0_findNextStop, cX0_findNextStop, 3, none, 3, 71, bl_lkX0)
def mi_X0_findStops : bl_MI := (yX0_findStops, cX0_findStops, 3, none, 4, 93, bl_lkX0)
def mi_X4_isTold : bl_MI := (yX4_isTold, cX4_isTold, 1, (some .boolean), 0, 0, bl_lkX4)
def mi_X1_passDay : bl_MI := (yX1_passDay, cX1_passDay, 7, none, 1, 20, bl_lkX1)
def mi_X2_shareOf : bl_MI := (yX2_shareOf, cX2_shareOf, 8, (some .int), 3, 65, bl_lkX2)
def mi_X5_tryHandfuls : bl_MI := (yX5_tryHandfuls, cX5_tryHandfuls, 5, (some .int), 3, 65, bl_lkX5)
def mi_X2_takeTurn : bl_MI := (yX2_takeTurn, cX2_takeTurn, 12, (some .boolean), 4, 92, bl_lkX2)
def mi_X2_playOut : bl_MI := (yX2_playOut, cX2_playOut, 7, none, 5, 123, bl_lkX2)
def mi_X4_copyFrom : bl_MI := (yX4_copyFrom, cX4_copyFrom, 2, none, 0, 0, bl_lkX4)
def mi_X5_copyFrom : bl_MI := (yX5_copyFrom, cX5_copyFrom, 2, none, 0, 0, bl_lkX5)
def mi_X3_startAs : bl_MI := (yX3_startAs, cX3_startAs, 3, none, 1, 21, bl_lkX3)
def mi_X3_copyFrom : bl_MI := (yX3_copyFrom, cX3_copyFrom, 2, none, 2, 43, bl_lkX3)
def mi_X4_forget : bl_MI := (yX4_forget, cX4_forget, 1, none, 0, 0, bl_lkX4)
def mi_X3_forget : bl_MI := (yX3_forget, cX3_forget, 1, none, 1, 20, bl_lkX3)
def mi_X3_ripeInAll : bl_MI := (yX3_ripeInAll, cX3_ripeInAll, 3, (some .int), 0, 0, bl_lkX3)
def mi_X3_passDay : bl_MI := (yX3_passDay, cX3_passDay, 3, none, 2, 46, bl_lkX3)
def mi_X3_draw : bl_MI := (yX3_draw, cX3_draw, 2, (some .int), 0, 0, bl_lkX3)
def mi_X5_walkTo : bl_MI := (yX5_walkTo, cX5_walkTo, 2, none, 3, 65, bl_lkX5)
def mi_X5_takeHandfuls : bl_MI := (yX5_takeHandfuls, cX5_takeHandfuls, 8, (some .int), 2, 43, bl_lkX5)
def mi_X3_passDayByDraws : bl_MI := (yX3_passDayByDraws, cX3_passDayByDraws, 3, none, 4, 86, bl_lkX3)
def mi_X5_isAt : bl_MI := (yX5_isAt, cX5_isAt, 2, (some .boolean), 0, 0, bl_lkX5)
def mi_X6_measure : bl_MI := (yX6_measure, cX6_measure, 5, none, 4, 89, bl_lkX6)
def mi_J7_fill_53178 : bl_MI := (yJ7_fill_53178, cJ7_fill_53178, 4, none, 0, 0, bl_lkJ7)
def mi_X6_countRows : bl_MI := (yX6_countRows, cX6_countRows, 3, (some .int), 0, 0, bl_lkX6)
def mi_X6_sumOfRow : bl_MI := (yX6_sumOfRow, cX6_sumOfRow, 5, (some .int), 0, 0, bl_lkX6)
def mi_X6_stepRow : bl_MI := (yX6_stepRow, cX6_stepRow, 2, none, 0, 0, bl_lkX6)
def mi_X6_findFor : bl_MI := (yX6_findFor, cX6_findFor, 6, none, 5, 113, bl_lkX6)
def mi_X6_bushOf : bl_MI := (yX6_bushOf, cX6_bushOf, 2, (some .int), 0, 0, bl_lkX6)
def mi_X7_isFull : bl_MI := (yX7_isFull, cX7_isFull, 1, (some .boolean), 0, 0, bl_lkX7)
def mi_X7_append : bl_MI := (yX7_append, cX7_append, 2, (some .int), 0, 0, bl_lkX7)
def mi_X7_skipBlanks : bl_MI := (yX7_skipBlanks, cX7_skipBlanks, 1, none, 0, 0, bl_lkX7)
def mi_X7_faultOfWord : bl_MI := (yX7_faultOfWord, cX7_faultOfWord, 3, (some .int), 1, 20, bl_lkX7)
def mi_X7_note : bl_MI := (yX7_note, cX7_note, 3, none, 0, 0, bl_lkX7)
def mi_X7_boundsOf : bl_MI := (yX7_boundsOf, cX7_boundsOf, 1, (some (.array .int)), 0, 0, bl_lkX7)
def mi_X10_within : bl_MI := (yX10_within, cX10_within, 3, (some .boolean), 0, 0, bl_lkX10)
def mi_X7_readNumber : bl_MI := (yX7_readNumber, cX7_readNumber, 5, (some .int), 1, 22, bl_lkX7)
def mi_X7_readNumbers : bl_MI := (yX7_readNumbers, cX7_readNumbers, 3, none, 2, 46, bl_lkX7)
def mi_X7_takeBush : bl_MI := (yX7_takeBush, cX7_takeBush, 2, none, 0, 0, bl_lkX7)
def mi_X7_takePicker : bl_MI := (yX7_takePicker, cX7_takePicker, 2, none, 0, 0, bl_lkX7)
def mi_X7_take : bl_MI := (yX7_take, cX7_take, 2, none, 1, 21, bl_lkX7)
def mi_X7_readClause : bl_MI := (yX7_readClause, cX7_readClause, 3, none, 3, 68, bl_lkX7)
def mi_X7_readAll : bl_MI := (yX7_readAll, cX7_readAll, 2, (some .int), 4, 90, bl_lkX7)
def mi_X8_clearAll : bl_MI := (yX8_clearAll, cX8_clearAll, 2, (some .int), 0, 0, bl_lkX8)
def mi_X8_agreesOnDay : bl_MI := (yX8_agreesOnDay, cX8_agreesOnDay, 5, (some .boolean), 0, 0, bl_lkX8)
def mi_X8_agreesAfterVisit : bl_MI := (yX8_agreesAfterVisit, cX8_agreesAfterVisit, 6, (some .boolean), 2, 46, bl_lkX8)
def mi_X8_findVisits : bl_MI := (yX8_findVisits, cX8_findVisits, 7, (some .int), 3, 71, bl_lkX8)
def mi_X8_cansAgree : bl_MI := (yX8_cansAgree, cX8_cansAgree, 4, (some .boolean), 4, 89, bl_lkX8)
def mi_X8_appetitesOf : bl_MI := (yX8_appetitesOf, cX8_appetitesOf, 5, (some .int), 5, 112, bl_lkX8)
def mi_X8_firstWrong : bl_MI := (yX8_firstWrong, cX8_firstWrong, 5, (some .int), 2, 43, bl_lkX8)
def mi_X9_isFull : bl_MI := (yX9_isFull, cX9_isFull, 1, (some .boolean), 0, 0, bl_lkX9)
def mi_X9_append : bl_MI := (yX9_append, cX9_append, 5, (some .int), 0, 0, bl_lkX9)
def mi_X10_feed : bl_MI := (yX10_feed, cX10_feed, 2, (some .int), 1, 22, bl_lkX10)
def mi_X10_lane : bl_MI := (yX10_lane, cX10_lane, 3, (some .int), 5, 111, bl_lkX10)
def mi_X10_fault : bl_MI := (yX10_fault, cX10_fault, 1, (some .int), 0, 0, bl_lkX10)
def mi_X10_told : bl_MI := (yX10_told, cX10_told, 2, (some .int), 1, 22, bl_lkX10)
def mi_X10_isBush : bl_MI := (yX10_isBush, cX10_isBush, 2, (some .boolean), 1, 22, bl_lkX10)
def mi_X10_bush : bl_MI := (yX10_bush, cX10_bush, 4, (some .int), 2, 43, bl_lkX10)
def mi_X10_isPicker : bl_MI := (yX10_isPicker, cX10_isPicker, 2, (some .boolean), 1, 22, bl_lkX10)
def mi_X10_picker : bl_MI := (yX10_picker, cX10_picker, 4, (some .int), 2, 43, bl_lkX10)
def mi_X10_gives : bl_MI := (yX10_gives, cX10_gives, 3, (some .int), 2, 43, bl_lkX10)
def mi_X10_way : bl_MI := (yX10_way, cX10_way, 3, (some .int), 3, 65, bl_lkX10)
def mi_X10_go : bl_MI := (yX10_go, cX10_go, 3, (some .int), 4, 86, bl_lkX10)
def mi_X10_pick : bl_MI := (yX10_pick, cX10_pick, 6, (some .int), 3, 70, bl_lkX10)
def mi_X10_stick : bl_MI := (yX10_stick, cX10_stick, 4, (some .int), 2, 43, bl_lkX10)
def mi_X10_pour : bl_MI := (yX10_pour, cX10_pour, 3, (some .int), 2, 43, bl_lkX10)
def mi_X10_day : bl_MI := (yX10_day, cX10_day, 4, (some .int), 3, 68, bl_lkX10)
def mi_X10_drift : bl_MI := (yX10_drift, cX10_drift, 3, (some .int), 5, 108, bl_lkX10)
def mi_X10_length : bl_MI := (yX10_length, cX10_length, 6, (some .int), 3, 65, bl_lkX10)
def mi_X10_best : bl_MI := (yX10_best, cX10_best, 6, (some .int), 5, 116, bl_lkX10)
def mi_X10_where : bl_MI := (yX10_where, cX10_where, 3, (some .int), 6, 138, bl_lkX10)
def mi_X10_rivals : bl_MI := (yX10_rivals, cX10_rivals, 5, (some .int), 6, 149, bl_lkX10)
def mi_X10_again : bl_MI := (yX10_again, cX10_again, 7, (some .int), 2, 46, bl_lkX10)
def mi_X10_partOfRow : bl_MI := (yX10_partOfRow, cX10_partOfRow, 6, (some .int), 0, 0, bl_lkX10)
def mi_X10_ripeAfterRow : bl_MI := (yX10_ripeAfterRow, cX10_ripeAfterRow, 5, (some .int), 2, 46, bl_lkX10)
def mi_X10_odds : bl_MI := (yX10_odds, cX10_odds, 8, (some .int), 3, 70, bl_lkX10)
def mi_X10_moreByStick : bl_MI := (yX10_moreByStick, cX10_moreByStick, 3, (some .int), 5, 116, bl_lkX10)
def mi_X10_whom : bl_MI := (yX10_whom, cX10_whom, 7, (some .int), 6, 138, bl_lkX10)
def mi_X10_left : bl_MI := (yX10_left, cX10_left, 4, (some .int), 2, 43, bl_lkX10)
def mi_X10_visited : bl_MI := (yX10_visited, cX10_visited, 4, (some .int), 4, 97, bl_lkX10)
def mi_X10_can : bl_MI := (yX10_can, cX10_can, 5, (some .int), 2, 43, bl_lkX10)
def mi_X10_eats : bl_MI := (yX10_eats, cX10_eats, 2, (some .int), 6, 136, bl_lkX10)
def mi_X10_write : bl_MI := (yX10_write, cX10_write, 4, (some .int), 2, 43, bl_lkX10)
def mi_X10_judge : bl_MI := (yX10_judge, cX10_judge, 1, (some .int), 3, 67, bl_lkX10)
def mi_X10_tear : bl_MI := (yX10_tear, cX10_tear, 1, (some .int), 1, 21, bl_lkX10)
def mi_X10_seed : bl_MI := (yX10_seed, cX10_seed, 3, (some .int), 0, 0, bl_lkX10)
def mi_X10_keep : bl_MI := (yX10_keep, cX10_keep, 2, (some .int), 3, 64, bl_lkX10)
def mi_X10_goBack : bl_MI := (yX10_goBack, cX10_goBack, 2, (some .int), 3, 64, bl_lkX10)
def mi_X11_in : bl_MI := (yX11_in, cX11_in, 6, (some .boolean), 0, 0, bl_lkX11)
def mi_X11_has : bl_MI := (yX11_has, cX11_has, 2, (some .boolean), 0, 0, bl_lkX11)
def mi_X11_isBush : bl_MI := (yX11_isBush, cX11_isBush, 2, (some .boolean), 1, 25, bl_lkX11)
def mi_X11_isPicker : bl_MI := (yX11_isPicker, cX11_isPicker, 2, (some .boolean), 1, 25, bl_lkX11)
def mi_X11_feed : bl_MI := (yX11_feed, cX11_feed, 2, (some .int), 1, 25, bl_lkX11)
def mi_X11_here : bl_MI := (yX11_here, cX11_here, 1, (some .int), 0, 0, bl_lkX11)
def mi_X11_fails : bl_MI := (yX11_fails, cX11_fails, 3, (some .int), 0, 0, bl_lkX11)
def mi_X11_takeNumber : bl_MI := (yX11_takeNumber, cX11_takeNumber, 4, (some .int), 1, 25, bl_lkX11)
def mi_X11_into : bl_MI := (yX11_into, cX11_into, 6, (some .int), 2, 48, bl_lkX11)
def mi_X11_takeLaw : bl_MI := (yX11_takeLaw, cX11_takeLaw, 2, (some .int), 3, 73, bl_lkX11)
def mi_X11_takeBush : bl_MI := (yX11_takeBush, cX11_takeBush, 3, (some .int), 3, 73, bl_lkX11)
def mi_X11_takePicker : bl_MI := (yX11_takePicker, cX11_takePicker, 3, (some .int), 3, 73, bl_lkX11)
def mi_X11_takeClause : bl_MI := (yX11_takeClause, cX11_takeClause, 5, (some .int), 4, 95, bl_lkX11)
def mi_X11_takeRead : bl_MI := (yX11_takeRead, cX11_takeRead, 2, none, 0, 0, bl_lkX11)
def mi_X11_lane : bl_MI := (yX11_lane, cX11_lane, 2, (some .int), 5, 119, bl_lkX11)
def mi_X11_fault : bl_MI := (yX11_fault, cX11_fault, 1, (some .int), 0, 0, bl_lkX11)
def mi_X11_ripeInAll : bl_MI := (yX11_ripeInAll, cX11_ripeInAll, 3, (some .int), 0, 0, bl_lkX11)
def mi_X11_told : bl_MI := (yX11_told, cX11_told, 2, (some .int), 1, 22, bl_lkX11)
def mi_X11_bush : bl_MI := (yX11_bush, cX11_bush, 3, (some .int), 2, 46, bl_lkX11)
def mi_X11_picker : bl_MI := (yX11_picker, cX11_picker, 3, (some .int), 2, 46, bl_lkX11)
def mi_X11_givesOf : bl_MI := (yX11_givesOf, cX11_givesOf, 4, (some .int), 0, 0, bl_lkX11)
def mi_X11_gives : bl_MI := (yX11_gives, cX11_gives, 3, (some .int), 2, 46, bl_lkX11)
def mi_X11_momentsOf : bl_MI := (yX11_momentsOf, cX11_momentsOf, 5, (some .int), 0, 0, bl_lkX11)
def mi_X11_wayOf : bl_MI := (yX11_wayOf, cX11_wayOf, 3, (some .int), 1, 24, bl_lkX11)
def mi_X11_way : bl_MI := (yX11_way, cX11_way, 3, (some .int), 2, 46, bl_lkX11)
def mi_X11_handfulTakes : bl_MI := (yX11_handfulTakes, cX11_handfulTakes, 2, (some .int), 0, 0, bl_lkX11)
def mi_X11_rest : bl_MI := (yX11_rest, cX11_rest, 2, (some .int), 0, 0, bl_lkX11)
def mi_X11_handful : bl_MI := (yX11_handful, cX11_handful, 4, (some .int), 1, 23, bl_lkX11)
def mi_X11_go : bl_MI := (yX11_go, cX11_go, 3, (some .int), 2, 46, bl_lkX11)
def mi_X11_atMost : bl_MI := (yX11_atMost, cX11_atMost, 2, (some .int), 0, 0, bl_lkX11)
def mi_X11_pickNow : bl_MI := (yX11_pickNow, cX11_pickNow, 8, (some .int), 2, 46, bl_lkX11)
def mi_X11_pick : bl_MI := (yX11_pick, cX11_pick, 4, (some .int), 3, 73, bl_lkX11)
def mi_X11_stick : bl_MI := (yX11_stick, cX11_stick, 4, (some .int), 2, 46, bl_lkX11)
def mi_X11_pour : bl_MI := (yX11_pour, cX11_pour, 3, (some .int), 2, 46, bl_lkX11)
def mi_X11_ripen : bl_MI := (yX11_ripen, cX11_ripen, 7, none, 0, 0, bl_lkX11)
def mi_X11_dayNow : bl_MI := (yX11_dayNow, cX11_dayNow, 3, none, 1, 26, bl_lkX11)
def mi_X11_day : bl_MI := (yX11_day, cX11_day, 4, (some .int), 2, 48, bl_lkX11)
def mi_X11_draw : bl_MI := (yX11_draw, cX11_draw, 2, (some .int), 0, 0, bl_lkX11)
def mi_X11_drift : bl_MI := (yX11_drift, cX11_drift, 7, (some .int), 3, 73, bl_lkX11)
def mi_X11_save : bl_MI := (yX11_save, cX11_save, 2, none, 0, 0, bl_lkX11)
def mi_X11_putBack : bl_MI := (yX11_putBack, cX11_putBack, 2, none, 0, 0, bl_lkX11)
def mi_X11_putAllBack : bl_MI := (yX11_putAllBack, cX11_putAllBack, 2, none, 1, 21, bl_lkX11)
def mi_X11_length : bl_MI := (yX11_length, cX11_length, 5, (some .int), 2, 46, bl_lkX11)
def mi_X11_findGains : bl_MI := (yX11_findGains, cX11_findGains, 5, none, 2, 46, bl_lkX11)
def mi_X11_stateOf : bl_MI := (yX11_stateOf, cX11_stateOf, 4, (some .int), 0, 0, bl_lkX11)
def mi_X11_wayBetween : bl_MI := (yX11_wayBetween, cX11_wayBetween, 4, (some .int), 2, 46, bl_lkX11)
def mi_X11_byNext : bl_MI := (yX11_byNext, cX11_byNext, 8, (some .int), 3, 69, bl_lkX11)
def mi_X11_findMost : bl_MI := (yX11_findMost, cX11_findMost, 10, none, 4, 96, bl_lkX11)
def mi_X11_best : bl_MI := (yX11_best, cX11_best, 13, (some .int), 5, 125, bl_lkX11)
def mi_X11_findCans : bl_MI := (yX11_findCans, cX11_findCans, 6, none, 2, 46, bl_lkX11)
def mi_X11_figure : bl_MI := (yX11_figure, cX11_figure, 5, (some .int), 0, 0, bl_lkX11)
def mi_X11_allBy : bl_MI := (yX11_allBy, cX11_allBy, 8, (some .int), 1, 24, bl_lkX11)
def mi_X11_where : bl_MI := (yX11_where, cX11_where, 8, (some .int), 3, 71, bl_lkX11)
def mi_X11_rivalHas : bl_MI := (yX11_rivalHas, cX11_rivalHas, 11, (some .int), 2, 46, bl_lkX11)
def mi_X11_bestAgainst : bl_MI := (yX11_bestAgainst, cX11_bestAgainst, 11, (some .int), 3, 76, bl_lkX11)
def mi_X11_rivals : bl_MI := (yX11_rivals, cX11_rivals, 13, (some .int), 4, 106, bl_lkX11)
def mi_X11_again : bl_MI := (yX11_again, cX11_again, 7, (some .int), 2, 46, bl_lkX11)
def mi_X11_odds : bl_MI := (yX11_odds, cX11_odds, 13, (some .int), 2, 46, bl_lkX11)
def mi_X11_bestOf : bl_MI := (yX11_bestOf, cX11_bestOf, 3, (some .int), 5, 125, bl_lkX11)
def mi_X11_whom : bl_MI := (yX11_whom, cX11_whom, 9, (some .int), 6, 147, bl_lkX11)
def mi_X11_left : bl_MI := (yX11_left, cX11_left, 4, (some .int), 2, 46, bl_lkX11)
def mi_X11_isLeft : bl_MI := (yX11_isLeft, cX11_isLeft, 5, (some .boolean), 0, 0, bl_lkX11)
def mi_X11_wasVisited : bl_MI := (yX11_wasVisited, cX11_wasVisited, 6, (some .boolean), 1, 26, bl_lkX11)
def mi_X11_visited : bl_MI := (yX11_visited, cX11_visited, 6, (some .int), 2, 51, bl_lkX11)
def mi_X11_can : bl_MI := (yX11_can, cX11_can, 5, (some .int), 2, 46, bl_lkX11)
def mi_X11_isCan : bl_MI := (yX11_isCan, cX11_isCan, 5, (some .boolean), 2, 46, bl_lkX11)
def mi_X11_eats : bl_MI := (yX11_eats, cX11_eats, 6, (some .int), 3, 70, bl_lkX11)
def mi_X11_write : bl_MI := (yX11_write, cX11_write, 4, (some .int), 2, 46, bl_lkX11)
def mi_X11_judge : bl_MI := (yX11_judge, cX11_judge, 3, (some .int), 2, 46, bl_lkX11)
def mi_X11_tear : bl_MI := (yX11_tear, cX11_tear, 2, (some .int), 0, 0, bl_lkX11)
def mi_X11_seed : bl_MI := (yX11_seed, cX11_seed, 3, (some .int), 0, 0, bl_lkX11)
def mi_X11_keep : bl_MI := (yX11_keep, cX11_keep, 4, (some .int), 1, 25, bl_lkX11)
def mi_X11_goBack : bl_MI := (yX11_goBack, cX11_goBack, 4, (some .int), 1, 25, bl_lkX11)
def bl_all : List bl_MI := [mi_X1_copyFrom, mi_X1_handfulMoments, mi_X5_wouldGet, mi_X5_tryHandful, mi_X0_measureGains, mi_X1_momentsFrom, mi_X5_momentsTo, mi_X0_measureWays, mi_X0_fillShortest, mi_X0_fillGathered, mi_X0_mostBeyond, mi_X0_findMost, mi_X0_fewestHandfuls, mi_X0_addStop, mi_X0_findNextStop, mi_X0_findStops, mi_X4_isTold, mi_X1_passDay, mi_X2_shareOf, mi_X5_tryHandfuls, mi_X2_takeTurn, mi_X2_playOut, mi_X4_copyFrom, mi_X5_copyFrom, mi_X3_startAs, mi_X3_copyFrom, mi_X4_forget, mi_X3_forget, mi_X3_ripeInAll, mi_X3_passDay, mi_X3_draw, mi_X5_walkTo, mi_X5_takeHandfuls, mi_X3_passDayByDraws, mi_X5_isAt, mi_X6_measure, mi_J7_fill_53178, mi_X6_countRows, mi_X6_sumOfRow, mi_X6_stepRow, mi_X6_findFor, mi_X6_bushOf, mi_X7_isFull, mi_X7_append, mi_X7_skipBlanks, mi_X7_faultOfWord, mi_X7_note, mi_X7_boundsOf, mi_X10_within, mi_X7_readNumber, mi_X7_readNumbers, mi_X7_takeBush, mi_X7_takePicker, mi_X7_take, mi_X7_readClause, mi_X7_readAll, mi_X8_clearAll, mi_X8_agreesOnDay, mi_X8_agreesAfterVisit, mi_X8_findVisits, mi_X8_cansAgree, mi_X8_appetitesOf, mi_X8_firstWrong, mi_X9_isFull, mi_X9_append, mi_X10_feed, mi_X10_lane, mi_X10_fault, mi_X10_told, mi_X10_isBush, mi_X10_bush, mi_X10_isPicker, mi_X10_picker, mi_X10_gives, mi_X10_way, mi_X10_go, mi_X10_pick, mi_X10_stick, mi_X10_pour, mi_X10_day, mi_X10_drift, mi_X10_length, mi_X10_best, mi_X10_where, mi_X10_rivals, mi_X10_again, mi_X10_partOfRow, mi_X10_ripeAfterRow, mi_X10_odds, mi_X10_moreByStick, mi_X10_whom, mi_X10_left, mi_X10_visited, mi_X10_can, mi_X10_eats, mi_X10_write, mi_X10_judge, mi_X10_tear, mi_X10_seed, mi_X10_keep, mi_X10_goBack, mi_X11_in, mi_X11_has, mi_X11_isBush, mi_X11_isPicker, mi_X11_feed, mi_X11_here, mi_X11_fails, mi_X11_takeNumber, mi_X11_into, mi_X11_takeLaw, mi_X11_takeBush, mi_X11_takePicker, mi_X11_takeClause, mi_X11_takeRead, mi_X11_lane, mi_X11_fault, mi_X11_ripeInAll, mi_X11_told, mi_X11_bush, mi_X11_picker, mi_X11_givesOf, mi_X11_gives, mi_X11_momentsOf, mi_X11_wayOf, mi_X11_way, mi_X11_handfulTakes, mi_X11_rest, mi_X11_handful, mi_X11_go, mi_X11_atMost, mi_X11_pickNow, mi_X11_pick, mi_X11_stick, mi_X11_pour, mi_X11_ripen, mi_X11_dayNow, mi_X11_day, mi_X11_draw, mi_X11_drift, mi_X11_save, mi_X11_putBack, mi_X11_putAllBack, mi_X11_length, mi_X11_findGains, mi_X11_stateOf, mi_X11_wayBetween, mi_X11_byNext, mi_X11_findMost, mi_X11_best, mi_X11_findCans, mi_X11_figure, mi_X11_allBy, mi_X11_where, mi_X11_rivalHas, mi_X11_bestAgainst, mi_X11_rivals, mi_X11_again, mi_X11_odds, mi_X11_bestOf, mi_X11_whom, mi_X11_left, mi_X11_isLeft, mi_X11_wasVisited, mi_X11_visited, mi_X11_can, mi_X11_isCan, mi_X11_eats, mi_X11_write, mi_X11_judge, mi_X11_tear, mi_X11_seed, mi_X11_keep, mi_X11_goBack]
def bl_mi (i : Nat) : bl_MI := bl_all.getD i mi_X1_copyFrom
theorem bl_ci_X1_copyFrom : Cond.code (mi_X1_copyFrom).1 (mi_X1_copyFrom).2.1 (mi_X1_copyFrom).2.2.1 (mi_X1_copyFrom).2.2.2.1 ∈ bl_gt := bl_t2 (i := 86) rfl rfl
theorem bl_ci_X1_handfulMoments : Cond.code (mi_X1_handfulMoments).1 (mi_X1_handfulMoments).2.1 (mi_X1_handfulMoments).2.2.1 (mi_X1_handfulMoments).2.2.2.1 ∈ bl_gt := bl_t2 (i := 174) rfl rfl
theorem bl_ci_X5_wouldGet : Cond.code (mi_X5_wouldGet).1 (mi_X5_wouldGet).2.1 (mi_X5_wouldGet).2.2.1 (mi_X5_wouldGet).2.2.2.1 ∈ bl_gt := bl_t2 (i := 131) rfl rfl
theorem bl_ci_X5_tryHandful : Cond.code (mi_X5_tryHandful).1 (mi_X5_tryHandful).2.1 (mi_X5_tryHandful).2.2.1 (mi_X5_tryHandful).2.2.2.1 ∈ bl_gt := bl_t2 (i := 226) rfl rfl
theorem bl_ci_X0_measureGains : Cond.code (mi_X0_measureGains).1 (mi_X0_measureGains).2.1 (mi_X0_measureGains).2.2.1 (mi_X0_measureGains).2.2.2.1 ∈ bl_gt := bl_t2 (i := 238) rfl rfl
theorem bl_ci_X1_momentsFrom : Cond.code (mi_X1_momentsFrom).1 (mi_X1_momentsFrom).2.1 (mi_X1_momentsFrom).2.2.1 (mi_X1_momentsFrom).2.2.2.1 ∈ bl_gt := bl_t2 (i := 144) rfl rfl
theorem bl_ci_X5_momentsTo : Cond.code (mi_X5_momentsTo).1 (mi_X5_momentsTo).2.1 (mi_X5_momentsTo).2.2.1 (mi_X5_momentsTo).2.2.2.1 ∈ bl_gt := bl_t2 (i := 140) rfl rfl
theorem bl_ci_X0_measureWays : Cond.code (mi_X0_measureWays).1 (mi_X0_measureWays).2.1 (mi_X0_measureWays).2.2.1 (mi_X0_measureWays).2.2.2.1 ∈ bl_gt := bl_t3 (i := 5) rfl rfl
theorem bl_ci_X0_fillShortest : Cond.code (mi_X0_fillShortest).1 (mi_X0_fillShortest).2.1 (mi_X0_fillShortest).2.2.1 (mi_X0_fillShortest).2.2.2.1 ∈ bl_gt := bl_t3 (i := 11) rfl rfl
theorem bl_ci_X0_fillGathered : Cond.code (mi_X0_fillGathered).1 (mi_X0_fillGathered).2.1 (mi_X0_fillGathered).2.2.1 (mi_X0_fillGathered).2.2.2.1 ∈ bl_gt := bl_t3 (i := 16) rfl rfl
theorem bl_ci_X0_mostBeyond : Cond.code (mi_X0_mostBeyond).1 (mi_X0_mostBeyond).2.1 (mi_X0_mostBeyond).2.2.1 (mi_X0_mostBeyond).2.2.2.1 ∈ bl_gt := bl_t3 (i := 23) rfl rfl
theorem bl_ci_X0_findMost : Cond.code (mi_X0_findMost).1 (mi_X0_findMost).2.1 (mi_X0_findMost).2.2.1 (mi_X0_findMost).2.2.2.1 ∈ bl_gt := bl_t2 (i := 234) rfl rfl
theorem bl_ci_X0_fewestHandfuls : Cond.code (mi_X0_fewestHandfuls).1 (mi_X0_fewestHandfuls).2.1 (mi_X0_fewestHandfuls).2.2.1 (mi_X0_fewestHandfuls).2.2.2.1 ∈ bl_gt := bl_t3 (i := 35) rfl rfl
theorem bl_ci_X0_addStop : Cond.code (mi_X0_addStop).1 (mi_X0_addStop).2.1 (mi_X0_addStop).2.2.1 (mi_X0_addStop).2.2.2.1 ∈ bl_gt := bl_t3 (i := 39) rfl rfl
theorem bl_ci_X0_findNextStop : Cond.code (mi_X0_findNextStop).1 (mi_X0_findNextStop).2.1 (mi_X0_findNextStop).2.2.1 (mi_X0_findNextStop).2.2.2.1 ∈ bl_gt := bl_t3 (i := 31) rfl rfl
theorem bl_ci_X0_findStops : Cond.code (mi_X0_findStops).1 (mi_X0_findStops).2.1 (mi_X0_findStops).2.2.1 (mi_X0_findStops).2.2.2.1 ∈ bl_gt := bl_t3 (i := 27) rfl rfl
theorem bl_ci_X4_isTold : Cond.code (mi_X4_isTold).1 (mi_X4_isTold).2.1 (mi_X4_isTold).2.2.1 (mi_X4_isTold).2.2.2.1 ∈ bl_gt := bl_t2 (i := 38) rfl rfl
theorem bl_ci_X1_passDay : Cond.code (mi_X1_passDay).1 (mi_X1_passDay).2.1 (mi_X1_passDay).2.2.1 (mi_X1_passDay).2.2.2.1 ∈ bl_gt := bl_t2 (i := 196) rfl rfl
theorem bl_ci_X2_shareOf : Cond.code (mi_X2_shareOf).1 (mi_X2_shareOf).2.1 (mi_X2_shareOf).2.2.1 (mi_X2_shareOf).2.2.2.1 ∈ bl_gt := bl_t3 (i := 96) rfl rfl
theorem bl_ci_X5_tryHandfuls : Cond.code (mi_X5_tryHandfuls).1 (mi_X5_tryHandfuls).2.1 (mi_X5_tryHandfuls).2.2.1 (mi_X5_tryHandfuls).2.2.2.1 ∈ bl_gt := bl_t3 (i := 56) rfl rfl
theorem bl_ci_X2_takeTurn : Cond.code (mi_X2_takeTurn).1 (mi_X2_takeTurn).2.1 (mi_X2_takeTurn).2.2.1 (mi_X2_takeTurn).2.2.2.1 ∈ bl_gt := bl_t3 (i := 91) rfl rfl
theorem bl_ci_X2_playOut : Cond.code (mi_X2_playOut).1 (mi_X2_playOut).2.1 (mi_X2_playOut).2.2.1 (mi_X2_playOut).2.2.2.1 ∈ bl_gt := bl_t3 (i := 87) rfl rfl
theorem bl_ci_X4_copyFrom : Cond.code (mi_X4_copyFrom).1 (mi_X4_copyFrom).2.1 (mi_X4_copyFrom).2.2.1 (mi_X4_copyFrom).2.2.2.1 ∈ bl_gt := bl_t2 (i := 82) rfl rfl
theorem bl_ci_X5_copyFrom : Cond.code (mi_X5_copyFrom).1 (mi_X5_copyFrom).2.1 (mi_X5_copyFrom).2.2.1 (mi_X5_copyFrom).2.2.2.1 ∈ bl_gt := bl_t2 (i := 90) rfl rfl
theorem bl_ci_X3_startAs : Cond.code (mi_X3_startAs).1 (mi_X3_startAs).2.1 (mi_X3_startAs).2.2.1 (mi_X3_startAs).2.2.2.1 ∈ bl_gt := bl_t2 (i := 78) rfl rfl
theorem bl_ci_X3_copyFrom : Cond.code (mi_X3_copyFrom).1 (mi_X3_copyFrom).2.1 (mi_X3_copyFrom).2.2.1 (mi_X3_copyFrom).2.2.2.1 ∈ bl_gt := bl_t3 (i := 202) rfl rfl
theorem bl_ci_X4_forget : Cond.code (mi_X4_forget).1 (mi_X4_forget).2.1 (mi_X4_forget).2.2.1 (mi_X4_forget).2.2.2.1 ∈ bl_gt := bl_t2 (i := 22) rfl rfl
theorem bl_ci_X3_forget : Cond.code (mi_X3_forget).1 (mi_X3_forget).2.1 (mi_X3_forget).2.2.1 (mi_X3_forget).2.2.2.1 ∈ bl_gt := bl_t2 (i := 18) rfl rfl
theorem bl_ci_X3_ripeInAll : Cond.code (mi_X3_ripeInAll).1 (mi_X3_ripeInAll).2.1 (mi_X3_ripeInAll).2.2.1 (mi_X3_ripeInAll).2.2.2.1 ∈ bl_gt := bl_t2 (i := 106) rfl rfl
theorem bl_ci_X3_passDay : Cond.code (mi_X3_passDay).1 (mi_X3_passDay).2.1 (mi_X3_passDay).2.2.1 (mi_X3_passDay).2.2.2.1 ∈ bl_gt := bl_t2 (i := 192) rfl rfl
theorem bl_ci_X3_draw : Cond.code (mi_X3_draw).1 (mi_X3_draw).2.1 (mi_X3_draw).2.2.1 (mi_X3_draw).2.2.2.1 ∈ bl_gt := bl_t2 (i := 209) rfl rfl
theorem bl_ci_X5_walkTo : Cond.code (mi_X5_walkTo).1 (mi_X5_walkTo).2.1 (mi_X5_walkTo).2.2.1 (mi_X5_walkTo).2.2.2.1 ∈ bl_gt := bl_t2 (i := 155) rfl rfl
theorem bl_ci_X5_takeHandfuls : Cond.code (mi_X5_takeHandfuls).1 (mi_X5_takeHandfuls).2.1 (mi_X5_takeHandfuls).2.2.1 (mi_X5_takeHandfuls).2.2.2.1 ∈ bl_gt := bl_t2 (i := 168) rfl rfl
theorem bl_ci_X3_passDayByDraws : Cond.code (mi_X3_passDayByDraws).1 (mi_X3_passDayByDraws).2.1 (mi_X3_passDayByDraws).2.2.1 (mi_X3_passDayByDraws).2.2.2.1 ∈ bl_gt := bl_t2 (i := 205) rfl rfl
theorem bl_ci_X5_isAt : Cond.code (mi_X5_isAt).1 (mi_X5_isAt).2.1 (mi_X5_isAt).2.2.1 (mi_X5_isAt).2.2.2.1 ∈ bl_gt := bl_t2 (i := 164) rfl rfl
theorem bl_ci_X6_measure : Cond.code (mi_X6_measure).1 (mi_X6_measure).2.1 (mi_X6_measure).2.2.1 (mi_X6_measure).2.2.2.1 ∈ bl_gt := bl_t3 (i := 51) rfl rfl
theorem bl_ci_J7_fill_53178 : Cond.code (mi_J7_fill_53178).1 (mi_J7_fill_53178).2.1 (mi_J7_fill_53178).2.2.1 (mi_J7_fill_53178).2.2.2.1 ∈ bl_gt := bl_t3 (i := 60) rfl rfl
theorem bl_ci_X6_countRows : Cond.code (mi_X6_countRows).1 (mi_X6_countRows).2.1 (mi_X6_countRows).2.2.1 (mi_X6_countRows).2.2.2.1 ∈ bl_gt := bl_t3 (i := 64) rfl rfl
theorem bl_ci_X6_sumOfRow : Cond.code (mi_X6_sumOfRow).1 (mi_X6_sumOfRow).2.1 (mi_X6_sumOfRow).2.2.1 (mi_X6_sumOfRow).2.2.2.1 ∈ bl_gt := bl_t3 (i := 68) rfl rfl
theorem bl_ci_X6_stepRow : Cond.code (mi_X6_stepRow).1 (mi_X6_stepRow).2.1 (mi_X6_stepRow).2.2.1 (mi_X6_stepRow).2.2.2.1 ∈ bl_gt := bl_t3 (i := 75) rfl rfl
theorem bl_ci_X6_findFor : Cond.code (mi_X6_findFor).1 (mi_X6_findFor).2.1 (mi_X6_findFor).2.2.1 (mi_X6_findFor).2.2.2.1 ∈ bl_gt := bl_t3 (i := 47) rfl rfl
theorem bl_ci_X6_bushOf : Cond.code (mi_X6_bushOf).1 (mi_X6_bushOf).2.1 (mi_X6_bushOf).2.2.1 (mi_X6_bushOf).2.2.2.1 ∈ bl_gt := bl_t3 (i := 79) rfl rfl
theorem bl_ci_X7_isFull : Cond.code (mi_X7_isFull).1 (mi_X7_isFull).2.1 (mi_X7_isFull).2.2.1 (mi_X7_isFull).2.2.2.1 ∈ bl_gt := bl_t2 (i := 1) rfl rfl
theorem bl_ci_X7_append : Cond.code (mi_X7_append).1 (mi_X7_append).2.1 (mi_X7_append).2.2.1 (mi_X7_append).2.2.2.1 ∈ bl_gt := bl_t2 (i := 6) rfl rfl
theorem bl_ci_X7_skipBlanks : Cond.code (mi_X7_skipBlanks).1 (mi_X7_skipBlanks).2.1 (mi_X7_skipBlanks).2.2.1 (mi_X7_skipBlanks).2.2.2.1 ∈ bl_gt := bl_t2 (i := 26) rfl rfl
theorem bl_ci_X7_faultOfWord : Cond.code (mi_X7_faultOfWord).1 (mi_X7_faultOfWord).2.1 (mi_X7_faultOfWord).2.2.1 (mi_X7_faultOfWord).2.2.2.1 ∈ bl_gt := bl_t2 (i := 34) rfl rfl
theorem bl_ci_X7_note : Cond.code (mi_X7_note).1 (mi_X7_note).2.1 (mi_X7_note).2.2.1 (mi_X7_note).2.2.2.1 ∈ bl_gt := bl_t2 (i := 42) rfl rfl
theorem bl_ci_X7_boundsOf : Cond.code (mi_X7_boundsOf).1 (mi_X7_boundsOf).2.1 (mi_X7_boundsOf).2.2.1 (mi_X7_boundsOf).2.2.2.1 ∈ bl_gt := bl_t2 (i := 45) rfl rfl
theorem bl_ci_X10_within : Cond.code (mi_X10_within).1 (mi_X10_within).2.1 (mi_X10_within).2.2.1 (mi_X10_within).2.2.2.1 ∈ bl_gt := bl_t1 (i := 236) rfl rfl
theorem bl_ci_X7_readNumber : Cond.code (mi_X7_readNumber).1 (mi_X7_readNumber).2.1 (mi_X7_readNumber).2.2.1 (mi_X7_readNumber).2.2.2.1 ∈ bl_gt := bl_t2 (i := 61) rfl rfl
theorem bl_ci_X7_readNumbers : Cond.code (mi_X7_readNumbers).1 (mi_X7_readNumbers).2.1 (mi_X7_readNumbers).2.2.1 (mi_X7_readNumbers).2.2.2.1 ∈ bl_gt := bl_t2 (i := 57) rfl rfl
theorem bl_ci_X7_takeBush : Cond.code (mi_X7_takeBush).1 (mi_X7_takeBush).2.1 (mi_X7_takeBush).2.2.1 (mi_X7_takeBush).2.2.2.1 ∈ bl_gt := bl_t2 (i := 70) rfl rfl
theorem bl_ci_X7_takePicker : Cond.code (mi_X7_takePicker).1 (mi_X7_takePicker).2.1 (mi_X7_takePicker).2.2.1 (mi_X7_takePicker).2.2.2.1 ∈ bl_gt := bl_t2 (i := 74) rfl rfl
theorem bl_ci_X7_take : Cond.code (mi_X7_take).1 (mi_X7_take).2.1 (mi_X7_take).2.2.1 (mi_X7_take).2.2.2.1 ∈ bl_gt := bl_t2 (i := 66) rfl rfl
theorem bl_ci_X7_readClause : Cond.code (mi_X7_readClause).1 (mi_X7_readClause).2.1 (mi_X7_readClause).2.2.1 (mi_X7_readClause).2.2.2.1 ∈ bl_gt := bl_t2 (i := 30) rfl rfl
theorem bl_ci_X7_readAll : Cond.code (mi_X7_readAll).1 (mi_X7_readAll).2.1 (mi_X7_readAll).2.2.1 (mi_X7_readAll).2.2.2.1 ∈ bl_gt := bl_t2 (i := 14) rfl rfl
theorem bl_ci_X8_clearAll : Cond.code (mi_X8_clearAll).1 (mi_X8_clearAll).2.1 (mi_X8_clearAll).2.2.1 (mi_X8_clearAll).2.2.2.1 ∈ bl_gt := bl_t2 (i := 94) rfl rfl
theorem bl_ci_X8_agreesOnDay : Cond.code (mi_X8_agreesOnDay).1 (mi_X8_agreesOnDay).2.1 (mi_X8_agreesOnDay).2.2.1 (mi_X8_agreesOnDay).2.2.2.1 ∈ bl_gt := bl_t3 (i := 154) rfl rfl
theorem bl_ci_X8_agreesAfterVisit : Cond.code (mi_X8_agreesAfterVisit).1 (mi_X8_agreesAfterVisit).2.1 (mi_X8_agreesAfterVisit).2.2.1 (mi_X8_agreesAfterVisit).2.2.2.1 ∈ bl_gt := bl_t3 (i := 150) rfl rfl
theorem bl_ci_X8_findVisits : Cond.code (mi_X8_findVisits).1 (mi_X8_findVisits).2.1 (mi_X8_findVisits).2.2.1 (mi_X8_findVisits).2.2.2.1 ∈ bl_gt := bl_t3 (i := 145) rfl rfl
theorem bl_ci_X8_cansAgree : Cond.code (mi_X8_cansAgree).1 (mi_X8_cansAgree).2.1 (mi_X8_cansAgree).2.2.1 (mi_X8_cansAgree).2.2.2.1 ∈ bl_gt := bl_t3 (i := 172) rfl rfl
theorem bl_ci_X8_appetitesOf : Cond.code (mi_X8_appetitesOf).1 (mi_X8_appetitesOf).2.1 (mi_X8_appetitesOf).2.2.1 (mi_X8_appetitesOf).2.2.2.1 ∈ bl_gt := bl_t3 (i := 167) rfl rfl
theorem bl_ci_X8_firstWrong : Cond.code (mi_X8_firstWrong).1 (mi_X8_firstWrong).2.1 (mi_X8_firstWrong).2.2.1 (mi_X8_firstWrong).2.2.2.1 ∈ bl_gt := bl_t3 (i := 185) rfl rfl
theorem bl_ci_X9_isFull : Cond.code (mi_X9_isFull).1 (mi_X9_isFull).2.1 (mi_X9_isFull).2.2.1 (mi_X9_isFull).2.2.2.1 ∈ bl_gt := bl_t3 (i := 133) rfl rfl
theorem bl_ci_X9_append : Cond.code (mi_X9_append).1 (mi_X9_append).2.1 (mi_X9_append).2.2.1 (mi_X9_append).2.2.2.1 ∈ bl_gt := bl_t3 (i := 137) rfl rfl
theorem bl_ci_X10_feed : Cond.code (mi_X10_feed).1 (mi_X10_feed).2.1 (mi_X10_feed).2.2.1 (mi_X10_feed).2.2.2.1 ∈ bl_gt := bl_t1 (i := 233) rfl rfl
theorem bl_ci_X10_lane : Cond.code (mi_X10_lane).1 (mi_X10_lane).2.1 (mi_X10_lane).2.2.1 (mi_X10_lane).2.2.2.1 ∈ bl_gt := bl_t2 (i := 10) rfl rfl
theorem bl_ci_X10_fault : Cond.code (mi_X10_fault).1 (mi_X10_fault).2.1 (mi_X10_fault).2.2.1 (mi_X10_fault).2.2.2.1 ∈ bl_gt := bl_t2 (i := 98) rfl rfl
theorem bl_ci_X10_told : Cond.code (mi_X10_told).1 (mi_X10_told).2.1 (mi_X10_told).2.2.1 (mi_X10_told).2.2.2.1 ∈ bl_gt := bl_t2 (i := 102) rfl rfl
theorem bl_ci_X10_isBush : Cond.code (mi_X10_isBush).1 (mi_X10_isBush).2.1 (mi_X10_isBush).2.2.1 (mi_X10_isBush).2.2.2.1 ∈ bl_gt := bl_t2 (i := 114) rfl rfl
theorem bl_ci_X10_bush : Cond.code (mi_X10_bush).1 (mi_X10_bush).2.1 (mi_X10_bush).2.2.1 (mi_X10_bush).2.2.2.1 ∈ bl_gt := bl_t2 (i := 110) rfl rfl
theorem bl_ci_X10_isPicker : Cond.code (mi_X10_isPicker).1 (mi_X10_isPicker).2.1 (mi_X10_isPicker).2.2.1 (mi_X10_isPicker).2.2.2.1 ∈ bl_gt := bl_t2 (i := 123) rfl rfl
theorem bl_ci_X10_picker : Cond.code (mi_X10_picker).1 (mi_X10_picker).2.1 (mi_X10_picker).2.2.1 (mi_X10_picker).2.2.2.1 ∈ bl_gt := bl_t2 (i := 119) rfl rfl
theorem bl_ci_X10_gives : Cond.code (mi_X10_gives).1 (mi_X10_gives).2.1 (mi_X10_gives).2.2.1 (mi_X10_gives).2.2.2.1 ∈ bl_gt := bl_t2 (i := 127) rfl rfl
theorem bl_ci_X10_way : Cond.code (mi_X10_way).1 (mi_X10_way).2.1 (mi_X10_way).2.2.1 (mi_X10_way).2.2.2.1 ∈ bl_gt := bl_t2 (i := 136) rfl rfl
theorem bl_ci_X10_go : Cond.code (mi_X10_go).1 (mi_X10_go).2.1 (mi_X10_go).2.2.1 (mi_X10_go).2.2.2.1 ∈ bl_gt := bl_t2 (i := 151) rfl rfl
theorem bl_ci_X10_pick : Cond.code (mi_X10_pick).1 (mi_X10_pick).2.1 (mi_X10_pick).2.2.1 (mi_X10_pick).2.2.2.1 ∈ bl_gt := bl_t2 (i := 160) rfl rfl
theorem bl_ci_X10_stick : Cond.code (mi_X10_stick).1 (mi_X10_stick).2.1 (mi_X10_stick).2.2.1 (mi_X10_stick).2.2.2.1 ∈ bl_gt := bl_t2 (i := 179) rfl rfl
theorem bl_ci_X10_pour : Cond.code (mi_X10_pour).1 (mi_X10_pour).2.1 (mi_X10_pour).2.2.1 (mi_X10_pour).2.2.2.1 ∈ bl_gt := bl_t2 (i := 183) rfl rfl
theorem bl_ci_X10_day : Cond.code (mi_X10_day).1 (mi_X10_day).2.1 (mi_X10_day).2.2.1 (mi_X10_day).2.2.2.1 ∈ bl_gt := bl_t2 (i := 187) rfl rfl
theorem bl_ci_X10_drift : Cond.code (mi_X10_drift).1 (mi_X10_drift).2.1 (mi_X10_drift).2.2.1 (mi_X10_drift).2.2.2.1 ∈ bl_gt := bl_t2 (i := 201) rfl rfl
theorem bl_ci_X10_length : Cond.code (mi_X10_length).1 (mi_X10_length).2.1 (mi_X10_length).2.2.1 (mi_X10_length).2.2.2.1 ∈ bl_gt := bl_t2 (i := 220) rfl rfl
theorem bl_ci_X10_best : Cond.code (mi_X10_best).1 (mi_X10_best).2.1 (mi_X10_best).2.2.1 (mi_X10_best).2.2.2.1 ∈ bl_gt := bl_t2 (i := 230) rfl rfl
theorem bl_ci_X10_where : Cond.code (mi_X10_where).1 (mi_X10_where).2.1 (mi_X10_where).2.2.1 (mi_X10_where).2.2.2.1 ∈ bl_gt := bl_t3 (i := 43) rfl rfl
theorem bl_ci_X10_rivals : Cond.code (mi_X10_rivals).1 (mi_X10_rivals).2.1 (mi_X10_rivals).2.2.1 (mi_X10_rivals).2.2.2.1 ∈ bl_gt := bl_t3 (i := 83) rfl rfl
theorem bl_ci_X10_again : Cond.code (mi_X10_again).1 (mi_X10_again).2.1 (mi_X10_again).2.2.1 (mi_X10_again).2.2.2.1 ∈ bl_gt := bl_t3 (i := 102) rfl rfl
theorem bl_ci_X10_partOfRow : Cond.code (mi_X10_partOfRow).1 (mi_X10_partOfRow).2.1 (mi_X10_partOfRow).2.2.1 (mi_X10_partOfRow).2.2.2.1 ∈ bl_gt := bl_t3 (i := 110) rfl rfl
theorem bl_ci_X10_ripeAfterRow : Cond.code (mi_X10_ripeAfterRow).1 (mi_X10_ripeAfterRow).2.1 (mi_X10_ripeAfterRow).2.2.1 (mi_X10_ripeAfterRow).2.2.2.1 ∈ bl_gt := bl_t3 (i := 116) rfl rfl
theorem bl_ci_X10_odds : Cond.code (mi_X10_odds).1 (mi_X10_odds).2.1 (mi_X10_odds).2.2.1 (mi_X10_odds).2.2.2.1 ∈ bl_gt := bl_t3 (i := 107) rfl rfl
theorem bl_ci_X10_moreByStick : Cond.code (mi_X10_moreByStick).1 (mi_X10_moreByStick).2.1 (mi_X10_moreByStick).2.2.1 (mi_X10_moreByStick).2.2.2.1 ∈ bl_gt := bl_t3 (i := 124) rfl rfl
theorem bl_ci_X10_whom : Cond.code (mi_X10_whom).1 (mi_X10_whom).2.1 (mi_X10_whom).2.2.1 (mi_X10_whom).2.2.2.1 ∈ bl_gt := bl_t3 (i := 120) rfl rfl
theorem bl_ci_X10_left : Cond.code (mi_X10_left).1 (mi_X10_left).2.1 (mi_X10_left).2.2.1 (mi_X10_left).2.2.2.1 ∈ bl_gt := bl_t3 (i := 129) rfl rfl
theorem bl_ci_X10_visited : Cond.code (mi_X10_visited).1 (mi_X10_visited).2.1 (mi_X10_visited).2.2.1 (mi_X10_visited).2.2.2.1 ∈ bl_gt := bl_t3 (i := 141) rfl rfl
theorem bl_ci_X10_can : Cond.code (mi_X10_can).1 (mi_X10_can).2.1 (mi_X10_can).2.2.1 (mi_X10_can).2.2.2.1 ∈ bl_gt := bl_t3 (i := 159) rfl rfl
theorem bl_ci_X10_eats : Cond.code (mi_X10_eats).1 (mi_X10_eats).2.1 (mi_X10_eats).2.2.1 (mi_X10_eats).2.2.2.1 ∈ bl_gt := bl_t3 (i := 163) rfl rfl
theorem bl_ci_X10_write : Cond.code (mi_X10_write).1 (mi_X10_write).2.1 (mi_X10_write).2.2.1 (mi_X10_write).2.2.2.1 ∈ bl_gt := bl_t3 (i := 177) rfl rfl
theorem bl_ci_X10_judge : Cond.code (mi_X10_judge).1 (mi_X10_judge).2.1 (mi_X10_judge).2.2.1 (mi_X10_judge).2.2.2.1 ∈ bl_gt := bl_t3 (i := 181) rfl rfl
theorem bl_ci_X10_tear : Cond.code (mi_X10_tear).1 (mi_X10_tear).2.1 (mi_X10_tear).2.2.1 (mi_X10_tear).2.2.2.1 ∈ bl_gt := bl_t3 (i := 190) rfl rfl
theorem bl_ci_X10_seed : Cond.code (mi_X10_seed).1 (mi_X10_seed).2.1 (mi_X10_seed).2.2.1 (mi_X10_seed).2.2.2.1 ∈ bl_gt := bl_t3 (i := 194) rfl rfl
theorem bl_ci_X10_keep : Cond.code (mi_X10_keep).1 (mi_X10_keep).2.1 (mi_X10_keep).2.2.1 (mi_X10_keep).2.2.2.1 ∈ bl_gt := bl_t3 (i := 198) rfl rfl
theorem bl_ci_X10_goBack : Cond.code (mi_X10_goBack).1 (mi_X10_goBack).2.1 (mi_X10_goBack).2.2.1 (mi_X10_goBack).2.2.2.1 ∈ bl_gt := bl_t3 (i := 207) rfl rfl
theorem bl_ci_X11_in : Cond.code (mi_X11_in).1 (mi_X11_in).2.1 (mi_X11_in).2.2.1 (mi_X11_in).2.2.2.1 ∈ bl_gt := bl_t4 (i := 174) rfl rfl
theorem bl_ci_X11_has : Cond.code (mi_X11_has).1 (mi_X11_has).2.1 (mi_X11_has).2.2.1 (mi_X11_has).2.2.2.1 ∈ bl_gt := bl_t5 (i := 130) rfl rfl
theorem bl_ci_X11_isBush : Cond.code (mi_X11_isBush).1 (mi_X11_isBush).2.1 (mi_X11_isBush).2.2.1 (mi_X11_isBush).2.2.2.1 ∈ bl_gt := bl_t4 (i := 238) rfl rfl
theorem bl_ci_X11_isPicker : Cond.code (mi_X11_isPicker).1 (mi_X11_isPicker).2.1 (mi_X11_isPicker).2.2.1 (mi_X11_isPicker).2.2.2.1 ∈ bl_gt := bl_t5 (i := 7) rfl rfl
theorem bl_ci_X11_feed : Cond.code (mi_X11_feed).1 (mi_X11_feed).2.1 (mi_X11_feed).2.2.1 (mi_X11_feed).2.2.2.1 ∈ bl_gt := bl_t4 (i := 170) rfl rfl
theorem bl_ci_X11_here : Cond.code (mi_X11_here).1 (mi_X11_here).2.1 (mi_X11_here).2.2.1 (mi_X11_here).2.2.2.1 ∈ bl_gt := bl_t4 (i := 184) rfl rfl
theorem bl_ci_X11_fails : Cond.code (mi_X11_fails).1 (mi_X11_fails).2.1 (mi_X11_fails).2.2.1 (mi_X11_fails).2.2.2.1 ∈ bl_gt := bl_t4 (i := 192) rfl rfl
theorem bl_ci_X11_takeNumber : Cond.code (mi_X11_takeNumber).1 (mi_X11_takeNumber).2.1 (mi_X11_takeNumber).2.2.1 (mi_X11_takeNumber).2.2.2.1 ∈ bl_gt := bl_t4 (i := 204) rfl rfl
theorem bl_ci_X11_into : Cond.code (mi_X11_into).1 (mi_X11_into).2.1 (mi_X11_into).2.2.1 (mi_X11_into).2.2.2.1 ∈ bl_gt := bl_t4 (i := 200) rfl rfl
theorem bl_ci_X11_takeLaw : Cond.code (mi_X11_takeLaw).1 (mi_X11_takeLaw).2.1 (mi_X11_takeLaw).2.2.1 (mi_X11_takeLaw).2.2.2.1 ∈ bl_gt := bl_t4 (i := 196) rfl rfl
theorem bl_ci_X11_takeBush : Cond.code (mi_X11_takeBush).1 (mi_X11_takeBush).2.1 (mi_X11_takeBush).2.2.1 (mi_X11_takeBush).2.2.2.1 ∈ bl_gt := bl_t4 (i := 210) rfl rfl
theorem bl_ci_X11_takePicker : Cond.code (mi_X11_takePicker).1 (mi_X11_takePicker).2.1 (mi_X11_takePicker).2.2.1 (mi_X11_takePicker).2.2.2.1 ∈ bl_gt := bl_t4 (i := 214) rfl rfl
theorem bl_ci_X11_takeClause : Cond.code (mi_X11_takeClause).1 (mi_X11_takeClause).2.1 (mi_X11_takeClause).2.2.1 (mi_X11_takeClause).2.2.2.1 ∈ bl_gt := bl_t4 (i := 188) rfl rfl
theorem bl_ci_X11_takeRead : Cond.code (mi_X11_takeRead).1 (mi_X11_takeRead).2.1 (mi_X11_takeRead).2.2.1 (mi_X11_takeRead).2.2.2.1 ∈ bl_gt := bl_t4 (i := 218) rfl rfl
theorem bl_ci_X11_lane : Cond.code (mi_X11_lane).1 (mi_X11_lane).2.1 (mi_X11_lane).2.2.1 (mi_X11_lane).2.2.2.1 ∈ bl_gt := bl_t4 (i := 180) rfl rfl
theorem bl_ci_X11_fault : Cond.code (mi_X11_fault).1 (mi_X11_fault).2.1 (mi_X11_fault).2.2.1 (mi_X11_fault).2.2.2.1 ∈ bl_gt := bl_t4 (i := 222) rfl rfl
theorem bl_ci_X11_ripeInAll : Cond.code (mi_X11_ripeInAll).1 (mi_X11_ripeInAll).2.1 (mi_X11_ripeInAll).2.2.1 (mi_X11_ripeInAll).2.2.2.1 ∈ bl_gt := bl_t4 (i := 230) rfl rfl
theorem bl_ci_X11_told : Cond.code (mi_X11_told).1 (mi_X11_told).2.1 (mi_X11_told).2.2.1 (mi_X11_told).2.2.2.1 ∈ bl_gt := bl_t4 (i := 226) rfl rfl
theorem bl_ci_X11_bush : Cond.code (mi_X11_bush).1 (mi_X11_bush).2.1 (mi_X11_bush).2.2.1 (mi_X11_bush).2.2.2.1 ∈ bl_gt := bl_t4 (i := 234) rfl rfl
theorem bl_ci_X11_picker : Cond.code (mi_X11_picker).1 (mi_X11_picker).2.1 (mi_X11_picker).2.2.1 (mi_X11_picker).2.2.2.1 ∈ bl_gt := bl_t5 (i := 3) rfl rfl
theorem bl_ci_X11_givesOf : Cond.code (mi_X11_givesOf).1 (mi_X11_givesOf).2.1 (mi_X11_givesOf).2.2.1 (mi_X11_givesOf).2.2.2.1 ∈ bl_gt := bl_t5 (i := 15) rfl rfl
theorem bl_ci_X11_gives : Cond.code (mi_X11_gives).1 (mi_X11_gives).2.1 (mi_X11_gives).2.2.1 (mi_X11_gives).2.2.2.1 ∈ bl_gt := bl_t5 (i := 11) rfl rfl
theorem bl_ci_X11_momentsOf : Cond.code (mi_X11_momentsOf).1 (mi_X11_momentsOf).2.1 (mi_X11_momentsOf).2.2.1 (mi_X11_momentsOf).2.2.2.1 ∈ bl_gt := bl_t5 (i := 26) rfl rfl
theorem bl_ci_X11_wayOf : Cond.code (mi_X11_wayOf).1 (mi_X11_wayOf).2.1 (mi_X11_wayOf).2.2.1 (mi_X11_wayOf).2.2.2.1 ∈ bl_gt := bl_t5 (i := 23) rfl rfl
theorem bl_ci_X11_way : Cond.code (mi_X11_way).1 (mi_X11_way).2.1 (mi_X11_way).2.2.1 (mi_X11_way).2.2.2.1 ∈ bl_gt := bl_t5 (i := 19) rfl rfl
theorem bl_ci_X11_handfulTakes : Cond.code (mi_X11_handfulTakes).1 (mi_X11_handfulTakes).2.1 (mi_X11_handfulTakes).2.2.1 (mi_X11_handfulTakes).2.2.2.1 ∈ bl_gt := bl_t5 (i := 54) rfl rfl
theorem bl_ci_X11_rest : Cond.code (mi_X11_rest).1 (mi_X11_rest).2.1 (mi_X11_rest).2.2.1 (mi_X11_rest).2.2.2.1 ∈ bl_gt := bl_t5 (i := 46) rfl rfl
theorem bl_ci_X11_handful : Cond.code (mi_X11_handful).1 (mi_X11_handful).2.1 (mi_X11_handful).2.2.1 (mi_X11_handful).2.2.2.1 ∈ bl_gt := bl_t5 (i := 43) rfl rfl
theorem bl_ci_X11_go : Cond.code (mi_X11_go).1 (mi_X11_go).2.1 (mi_X11_go).2.2.1 (mi_X11_go).2.2.2.1 ∈ bl_gt := bl_t5 (i := 30) rfl rfl
theorem bl_ci_X11_atMost : Cond.code (mi_X11_atMost).1 (mi_X11_atMost).2.1 (mi_X11_atMost).2.2.1 (mi_X11_atMost).2.2.2.1 ∈ bl_gt := bl_t5 (i := 49) rfl rfl
theorem bl_ci_X11_pickNow : Cond.code (mi_X11_pickNow).1 (mi_X11_pickNow).2.1 (mi_X11_pickNow).2.2.1 (mi_X11_pickNow).2.2.2.1 ∈ bl_gt := bl_t5 (i := 39) rfl rfl
theorem bl_ci_X11_pick : Cond.code (mi_X11_pick).1 (mi_X11_pick).2.1 (mi_X11_pick).2.2.1 (mi_X11_pick).2.2.2.1 ∈ bl_gt := bl_t5 (i := 34) rfl rfl
theorem bl_ci_X11_stick : Cond.code (mi_X11_stick).1 (mi_X11_stick).2.1 (mi_X11_stick).2.2.1 (mi_X11_stick).2.2.2.1 ∈ bl_gt := bl_t5 (i := 59) rfl rfl
theorem bl_ci_X11_pour : Cond.code (mi_X11_pour).1 (mi_X11_pour).2.1 (mi_X11_pour).2.2.1 (mi_X11_pour).2.2.2.1 ∈ bl_gt := bl_t5 (i := 63) rfl rfl
theorem bl_ci_X11_ripen : Cond.code (mi_X11_ripen).1 (mi_X11_ripen).2.1 (mi_X11_ripen).2.2.1 (mi_X11_ripen).2.2.2.1 ∈ bl_gt := bl_t5 (i := 76) rfl rfl
theorem bl_ci_X11_dayNow : Cond.code (mi_X11_dayNow).1 (mi_X11_dayNow).2.1 (mi_X11_dayNow).2.2.1 (mi_X11_dayNow).2.2.2.1 ∈ bl_gt := bl_t5 (i := 72) rfl rfl
theorem bl_ci_X11_day : Cond.code (mi_X11_day).1 (mi_X11_day).2.1 (mi_X11_day).2.2.1 (mi_X11_day).2.2.2.1 ∈ bl_gt := bl_t5 (i := 67) rfl rfl
theorem bl_ci_X11_draw : Cond.code (mi_X11_draw).1 (mi_X11_draw).2.1 (mi_X11_draw).2.2.1 (mi_X11_draw).2.2.2.1 ∈ bl_gt := bl_t5 (i := 84) rfl rfl
theorem bl_ci_X11_drift : Cond.code (mi_X11_drift).1 (mi_X11_drift).2.1 (mi_X11_drift).2.2.1 (mi_X11_drift).2.2.2.1 ∈ bl_gt := bl_t5 (i := 80) rfl rfl
theorem bl_ci_X11_save : Cond.code (mi_X11_save).1 (mi_X11_save).2.1 (mi_X11_save).2.2.1 (mi_X11_save).2.2.2.1 ∈ bl_gt := bl_t5 (i := 98) rfl rfl
theorem bl_ci_X11_putBack : Cond.code (mi_X11_putBack).1 (mi_X11_putBack).2.1 (mi_X11_putBack).2.2.1 (mi_X11_putBack).2.2.2.1 ∈ bl_gt := bl_t5 (i := 102) rfl rfl
theorem bl_ci_X11_putAllBack : Cond.code (mi_X11_putAllBack).1 (mi_X11_putAllBack).2.1 (mi_X11_putAllBack).2.2.1 (mi_X11_putAllBack).2.2.2.1 ∈ bl_gt := bl_t5 (i := 119) rfl rfl
theorem bl_ci_X11_length : Cond.code (mi_X11_length).1 (mi_X11_length).2.1 (mi_X11_length).2.2.1 (mi_X11_length).2.2.2.1 ∈ bl_gt := bl_t5 (i := 93) rfl rfl
theorem bl_ci_X11_findGains : Cond.code (mi_X11_findGains).1 (mi_X11_findGains).2.1 (mi_X11_findGains).2.2.1 (mi_X11_findGains).2.2.2.1 ∈ bl_gt := bl_t5 (i := 115) rfl rfl
theorem bl_ci_X11_stateOf : Cond.code (mi_X11_stateOf).1 (mi_X11_stateOf).2.1 (mi_X11_stateOf).2.2.1 (mi_X11_stateOf).2.2.2.1 ∈ bl_gt := bl_t5 (i := 135) rfl rfl
theorem bl_ci_X11_wayBetween : Cond.code (mi_X11_wayBetween).1 (mi_X11_wayBetween).2.1 (mi_X11_wayBetween).2.2.1 (mi_X11_wayBetween).2.2.2.1 ∈ bl_gt := bl_t5 (i := 127) rfl rfl
theorem bl_ci_X11_byNext : Cond.code (mi_X11_byNext).1 (mi_X11_byNext).2.1 (mi_X11_byNext).2.2.1 (mi_X11_byNext).2.2.2.1 ∈ bl_gt := bl_t5 (i := 123) rfl rfl
theorem bl_ci_X11_findMost : Cond.code (mi_X11_findMost).1 (mi_X11_findMost).2.1 (mi_X11_findMost).2.2.1 (mi_X11_findMost).2.2.2.1 ∈ bl_gt := bl_t5 (i := 111) rfl rfl
theorem bl_ci_X11_best : Cond.code (mi_X11_best).1 (mi_X11_best).2.1 (mi_X11_best).2.2.1 (mi_X11_best).2.2.2.1 ∈ bl_gt := bl_t5 (i := 106) rfl rfl
theorem bl_ci_X11_findCans : Cond.code (mi_X11_findCans).1 (mi_X11_findCans).2.1 (mi_X11_findCans).2.2.1 (mi_X11_findCans).2.2.2.1 ∈ bl_gt := bl_t5 (i := 143) rfl rfl
theorem bl_ci_X11_figure : Cond.code (mi_X11_figure).1 (mi_X11_figure).2.1 (mi_X11_figure).2.2.1 (mi_X11_figure).2.2.2.1 ∈ bl_gt := bl_t5 (i := 151) rfl rfl
theorem bl_ci_X11_allBy : Cond.code (mi_X11_allBy).1 (mi_X11_allBy).2.1 (mi_X11_allBy).2.2.1 (mi_X11_allBy).2.2.2.1 ∈ bl_gt := bl_t5 (i := 147) rfl rfl
theorem bl_ci_X11_where : Cond.code (mi_X11_where).1 (mi_X11_where).2.1 (mi_X11_where).2.2.1 (mi_X11_where).2.2.2.1 ∈ bl_gt := bl_t5 (i := 139) rfl rfl
theorem bl_ci_X11_rivalHas : Cond.code (mi_X11_rivalHas).1 (mi_X11_rivalHas).2.1 (mi_X11_rivalHas).2.2.1 (mi_X11_rivalHas).2.2.2.1 ∈ bl_gt := bl_t5 (i := 164) rfl rfl
theorem bl_ci_X11_bestAgainst : Cond.code (mi_X11_bestAgainst).1 (mi_X11_bestAgainst).2.1 (mi_X11_bestAgainst).2.2.1 (mi_X11_bestAgainst).2.2.2.1 ∈ bl_gt := bl_t5 (i := 160) rfl rfl
theorem bl_ci_X11_rivals : Cond.code (mi_X11_rivals).1 (mi_X11_rivals).2.1 (mi_X11_rivals).2.2.1 (mi_X11_rivals).2.2.2.1 ∈ bl_gt := bl_t5 (i := 155) rfl rfl
theorem bl_ci_X11_again : Cond.code (mi_X11_again).1 (mi_X11_again).2.1 (mi_X11_again).2.2.1 (mi_X11_again).2.2.2.1 ∈ bl_gt := bl_t5 (i := 168) rfl rfl
theorem bl_ci_X11_odds : Cond.code (mi_X11_odds).1 (mi_X11_odds).2.1 (mi_X11_odds).2.2.1 (mi_X11_odds).2.2.2.1 ∈ bl_gt := bl_t5 (i := 173) rfl rfl
theorem bl_ci_X11_bestOf : Cond.code (mi_X11_bestOf).1 (mi_X11_bestOf).2.1 (mi_X11_bestOf).2.2.1 (mi_X11_bestOf).2.2.2.1 ∈ bl_gt := bl_t5 (i := 185) rfl rfl
theorem bl_ci_X11_whom : Cond.code (mi_X11_whom).1 (mi_X11_whom).2.1 (mi_X11_whom).2.2.1 (mi_X11_whom).2.2.2.1 ∈ bl_gt := bl_t5 (i := 181) rfl rfl
theorem bl_ci_X11_left : Cond.code (mi_X11_left).1 (mi_X11_left).2.1 (mi_X11_left).2.2.1 (mi_X11_left).2.2.2.1 ∈ bl_gt := bl_t5 (i := 189) rfl rfl
theorem bl_ci_X11_isLeft : Cond.code (mi_X11_isLeft).1 (mi_X11_isLeft).2.1 (mi_X11_isLeft).2.2.1 (mi_X11_isLeft).2.2.2.1 ∈ bl_gt := bl_t5 (i := 202) rfl rfl
theorem bl_ci_X11_wasVisited : Cond.code (mi_X11_wasVisited).1 (mi_X11_wasVisited).2.1 (mi_X11_wasVisited).2.2.1 (mi_X11_wasVisited).2.2.2.1 ∈ bl_gt := bl_t5 (i := 198) rfl rfl
theorem bl_ci_X11_visited : Cond.code (mi_X11_visited).1 (mi_X11_visited).2.1 (mi_X11_visited).2.2.1 (mi_X11_visited).2.2.2.1 ∈ bl_gt := bl_t5 (i := 194) rfl rfl
theorem bl_ci_X11_can : Cond.code (mi_X11_can).1 (mi_X11_can).2.1 (mi_X11_can).2.2.1 (mi_X11_can).2.2.2.1 ∈ bl_gt := bl_t5 (i := 206) rfl rfl
theorem bl_ci_X11_isCan : Cond.code (mi_X11_isCan).1 (mi_X11_isCan).2.1 (mi_X11_isCan).2.2.1 (mi_X11_isCan).2.2.2.1 ∈ bl_gt := bl_t5 (i := 214) rfl rfl
theorem bl_ci_X11_eats : Cond.code (mi_X11_eats).1 (mi_X11_eats).2.1 (mi_X11_eats).2.2.1 (mi_X11_eats).2.2.2.1 ∈ bl_gt := bl_t5 (i := 210) rfl rfl
theorem bl_ci_X11_write : Cond.code (mi_X11_write).1 (mi_X11_write).2.1 (mi_X11_write).2.2.1 (mi_X11_write).2.2.2.1 ∈ bl_gt := bl_t5 (i := 218) rfl rfl
theorem bl_ci_X11_judge : Cond.code (mi_X11_judge).1 (mi_X11_judge).2.1 (mi_X11_judge).2.2.1 (mi_X11_judge).2.2.2.1 ∈ bl_gt := bl_t5 (i := 222) rfl rfl
theorem bl_ci_X11_tear : Cond.code (mi_X11_tear).1 (mi_X11_tear).2.1 (mi_X11_tear).2.2.1 (mi_X11_tear).2.2.2.1 ∈ bl_gt := bl_t5 (i := 226) rfl rfl
theorem bl_ci_X11_seed : Cond.code (mi_X11_seed).1 (mi_X11_seed).2.1 (mi_X11_seed).2.2.1 (mi_X11_seed).2.2.2.1 ∈ bl_gt := bl_t5 (i := 230) rfl rfl
theorem bl_ci_X11_keep : Cond.code (mi_X11_keep).1 (mi_X11_keep).2.1 (mi_X11_keep).2.2.1 (mi_X11_keep).2.2.2.1 ∈ bl_gt := bl_t5 (i := 234) rfl rfl
theorem bl_ci_X11_goBack : Cond.code (mi_X11_goBack).1 (mi_X11_goBack).2.1 (mi_X11_goBack).2.2.1 (mi_X11_goBack).2.2.2.1 ∈ bl_gt := bl_t5 (i := 238) rfl rfl
set_option maxRecDepth 100000 in
theorem bl_code_ok : ∀ M ∈ bl_all, Cond.code M.1 M.2.1 M.2.2.1 M.2.2.2.1 ∈ bl_gt := List.forall_mem_cons.mpr ⟨bl_ci_X1_copyFrom, List.forall_mem_cons.mpr ⟨bl_ci_X1_handfulMoments, List.forall_mem_cons.mpr ⟨bl_ci_X5_wouldGet, List.forall_mem_cons.mpr ⟨bl_ci_X5_tryHandful, List.forall_mem_cons.mpr ⟨bl_ci_X0_measureGains, List.forall_mem_cons.mpr ⟨bl_ci_X1_momentsFrom, List.forall_mem_cons.mpr ⟨bl_ci_X5_momentsTo, List.forall_mem_cons.mpr ⟨bl_ci_X0_measureWays, List.forall_mem_cons.mpr ⟨bl_ci_X0_fillShortest, List.forall_mem_cons.mpr ⟨bl_ci_X0_fillGathered, List.forall_mem_cons.mpr ⟨bl_ci_X0_mostBeyond, List.forall_mem_cons.mpr ⟨bl_ci_X0_findMost, List.forall_mem_cons.mpr ⟨bl_ci_X0_fewestHandfuls, List.forall_mem_cons.mpr ⟨bl_ci_X0_addStop, List.forall_mem_cons.mpr ⟨bl_ci_X0_findNextStop, List.forall_mem_cons.mpr ⟨bl_ci_X0_findStops, List.forall_mem_cons.mpr ⟨bl_ci_X4_isTold, List.forall_mem_cons.mpr ⟨bl_ci_X1_passDay, List.forall_mem_cons.mpr ⟨bl_ci_X2_shareOf, List.forall_mem_cons.mpr ⟨bl_ci_X5_tryHandfuls, List.forall_mem_cons.mpr ⟨bl_ci_X2_takeTurn, List.forall_mem_cons.mpr ⟨bl_ci_X2_playOut, List.forall_mem_cons.mpr ⟨bl_ci_X4_copyFrom, List.forall_mem_cons.mpr ⟨bl_ci_X5_copyFrom, List.forall_mem_cons.mpr ⟨bl_ci_X3_startAs, List.forall_mem_cons.mpr ⟨bl_ci_X3_copyFrom, List.forall_mem_cons.mpr ⟨bl_ci_X4_forget, List.forall_mem_cons.mpr ⟨bl_ci_X3_forget, List.forall_mem_cons.mpr ⟨bl_ci_X3_ripeInAll, List.forall_mem_cons.mpr ⟨bl_ci_X3_passDay, List.forall_mem_cons.mpr ⟨bl_ci_X3_draw, List.forall_mem_cons.mpr ⟨bl_ci_X5_walkTo, List.forall_mem_cons.mpr ⟨bl_ci_X5_takeHandfuls, List.forall_mem_cons.mpr ⟨bl_ci_X3_passDayByDraws, List.forall_mem_cons.mpr ⟨bl_ci_X5_isAt, List.forall_mem_cons.mpr ⟨bl_ci_X6_measure, List.forall_mem_cons.mpr ⟨bl_ci_J7_fill_53178, List.forall_mem_cons.mpr ⟨bl_ci_X6_countRows, List.forall_mem_cons.mpr ⟨bl_ci_X6_sumOfRow, List.forall_mem_cons.mpr ⟨bl_ci_X6_stepRow, List.forall_mem_cons.mpr ⟨bl_ci_X6_findFor, List.forall_mem_cons.mpr ⟨bl_ci_X6_bushOf, List.forall_mem_cons.mpr ⟨bl_ci_X7_isFull, List.forall_mem_cons.mpr ⟨bl_ci_X7_append, List.forall_mem_cons.mpr ⟨bl_ci_X7_skipBlanks, List.forall_mem_cons.mpr ⟨bl_ci_X7_faultOfWord, List.forall_mem_cons.mpr ⟨bl_ci_X7_note, List.forall_mem_cons.mpr ⟨bl_ci_X7_boundsOf, List.forall_mem_cons.mpr ⟨bl_ci_X10_within, List.forall_mem_cons.mpr ⟨bl_ci_X7_readNumber, List.forall_mem_cons.mpr ⟨bl_ci_X7_readNumbers, List.forall_mem_cons.mpr ⟨bl_ci_X7_takeBush, List.forall_mem_cons.mpr ⟨bl_ci_X7_takePicker, List.forall_mem_cons.mpr ⟨bl_ci_X7_take, List.forall_mem_cons.mpr ⟨bl_ci_X7_readClause, List.forall_mem_cons.mpr ⟨bl_ci_X7_readAll, List.forall_mem_cons.mpr ⟨bl_ci_X8_clearAll, List.forall_mem_cons.mpr ⟨bl_ci_X8_agreesOnDay, List.forall_mem_cons.mpr ⟨bl_ci_X8_agreesAfterVisit, List.forall_mem_cons.mpr ⟨bl_ci_X8_findVisits, List.forall_mem_cons.mpr ⟨bl_ci_X8_cansAgree, List.forall_mem_cons.mpr ⟨bl_ci_X8_appetitesOf, List.forall_mem_cons.mpr ⟨bl_ci_X8_firstWrong, List.forall_mem_cons.mpr ⟨bl_ci_X9_isFull, List.forall_mem_cons.mpr ⟨bl_ci_X9_append, List.forall_mem_cons.mpr ⟨bl_ci_X10_feed, List.forall_mem_cons.mpr ⟨bl_ci_X10_lane, List.forall_mem_cons.mpr ⟨bl_ci_X10_fault, List.forall_mem_cons.mpr ⟨bl_ci_X10_told, List.forall_mem_cons.mpr ⟨bl_ci_X10_isBush, List.forall_mem_cons.mpr ⟨bl_ci_X10_bush, List.forall_mem_cons.mpr ⟨bl_ci_X10_isPicker, List.forall_mem_cons.mpr ⟨bl_ci_X10_picker, List.forall_mem_cons.mpr ⟨bl_ci_X10_gives, List.forall_mem_cons.mpr ⟨bl_ci_X10_way, List.forall_mem_cons.mpr ⟨bl_ci_X10_go, List.forall_mem_cons.mpr ⟨bl_ci_X10_pick, List.forall_mem_cons.mpr ⟨bl_ci_X10_stick, List.forall_mem_cons.mpr ⟨bl_ci_X10_pour, List.forall_mem_cons.mpr ⟨bl_ci_X10_day, List.forall_mem_cons.mpr ⟨bl_ci_X10_drift, List.forall_mem_cons.mpr ⟨bl_ci_X10_length, List.forall_mem_cons.mpr ⟨bl_ci_X10_best, List.forall_mem_cons.mpr ⟨bl_ci_X10_where, List.forall_mem_cons.mpr ⟨bl_ci_X10_rivals, List.forall_mem_cons.mpr ⟨bl_ci_X10_again, List.forall_mem_cons.mpr ⟨bl_ci_X10_partOfRow, List.forall_mem_cons.mpr ⟨bl_ci_X10_ripeAfterRow, List.forall_mem_cons.mpr ⟨bl_ci_X10_odds, List.forall_mem_cons.mpr ⟨bl_ci_X10_moreByStick, List.forall_mem_cons.mpr ⟨bl_ci_X10_whom, List.forall_mem_cons.mpr ⟨bl_ci_X10_left, List.forall_mem_cons.mpr ⟨bl_ci_X10_visited, List.forall_mem_cons.mpr ⟨bl_ci_X10_can, List.forall_mem_cons.mpr ⟨bl_ci_X10_eats, List.forall_mem_cons.mpr ⟨bl_ci_X10_write, List.forall_mem_cons.mpr ⟨bl_ci_X10_judge, List.forall_mem_cons.mpr ⟨bl_ci_X10_tear, List.forall_mem_cons.mpr ⟨bl_ci_X10_seed, List.forall_mem_cons.mpr ⟨bl_ci_X10_keep, List.forall_mem_cons.mpr ⟨bl_ci_X10_goBack, List.forall_mem_cons.mpr ⟨bl_ci_X11_in, List.forall_mem_cons.mpr ⟨bl_ci_X11_has, List.forall_mem_cons.mpr ⟨bl_ci_X11_isBush, List.forall_mem_cons.mpr ⟨bl_ci_X11_isPicker, List.forall_mem_cons.mpr ⟨bl_ci_X11_feed, List.forall_mem_cons.mpr ⟨bl_ci_X11_here, List.forall_mem_cons.mpr ⟨bl_ci_X11_fails, List.forall_mem_cons.mpr ⟨bl_ci_X11_takeNumber, List.forall_mem_cons.mpr ⟨bl_ci_X11_into, List.forall_mem_cons.mpr ⟨bl_ci_X11_takeLaw, List.forall_mem_cons.mpr ⟨bl_ci_X11_takeBush, List.forall_mem_cons.mpr ⟨bl_ci_X11_takePicker, List.forall_mem_cons.mpr ⟨bl_ci_X11_takeClause, List.forall_mem_cons.mpr ⟨bl_ci_X11_takeRead, List.forall_mem_cons.mpr ⟨bl_ci_X11_lane, List.forall_mem_cons.mpr ⟨bl_ci_X11_fault, List.forall_mem_cons.mpr ⟨bl_ci_X11_ripeInAll, List.forall_mem_cons.mpr ⟨bl_ci_X11_told, List.forall_mem_cons.mpr ⟨bl_ci_X11_bush, List.forall_mem_cons.mpr ⟨bl_ci_X11_picker, List.forall_mem_cons.mpr ⟨bl_ci_X11_givesOf, List.forall_mem_cons.mpr ⟨bl_ci_X11_gives, List.forall_mem_cons.mpr ⟨bl_ci_X11_momentsOf, List.forall_mem_cons.mpr ⟨bl_ci_X11_wayOf, List.forall_mem_cons.mpr ⟨bl_ci_X11_way, List.forall_mem_cons.mpr ⟨bl_ci_X11_handfulTakes, List.forall_mem_cons.mpr ⟨bl_ci_X11_rest, List.forall_mem_cons.mpr ⟨bl_ci_X11_handful, List.forall_mem_cons.mpr ⟨bl_ci_X11_go, List.forall_mem_cons.mpr ⟨bl_ci_X11_atMost, List.forall_mem_cons.mpr ⟨bl_ci_X11_pickNow, List.forall_mem_cons.mpr ⟨bl_ci_X11_pick, List.forall_mem_cons.mpr ⟨bl_ci_X11_stick, List.forall_mem_cons.mpr ⟨bl_ci_X11_pour, List.forall_mem_cons.mpr ⟨bl_ci_X11_ripen, List.forall_mem_cons.mpr ⟨bl_ci_X11_dayNow, List.forall_mem_cons.mpr ⟨bl_ci_X11_day, List.forall_mem_cons.mpr ⟨bl_ci_X11_draw, List.forall_mem_cons.mpr ⟨bl_ci_X11_drift, List.forall_mem_cons.mpr ⟨bl_ci_X11_save, List.forall_mem_cons.mpr ⟨bl_ci_X11_putBack, List.forall_mem_cons.mpr ⟨bl_ci_X11_putAllBack, List.forall_mem_cons.mpr ⟨bl_ci_X11_length, List.forall_mem_cons.mpr ⟨bl_ci_X11_findGains, List.forall_mem_cons.mpr ⟨bl_ci_X11_stateOf, List.forall_mem_cons.mpr ⟨bl_ci_X11_wayBetween, List.forall_mem_cons.mpr ⟨bl_ci_X11_byNext, List.forall_mem_cons.mpr ⟨bl_ci_X11_findMost, List.forall_mem_cons.mpr ⟨bl_ci_X11_best, List.forall_mem_cons.mpr ⟨bl_ci_X11_findCans, List.forall_mem_cons.mpr ⟨bl_ci_X11_figure, List.forall_mem_cons.mpr ⟨bl_ci_X11_allBy, List.forall_mem_cons.mpr ⟨bl_ci_X11_where, List.forall_mem_cons.mpr ⟨bl_ci_X11_rivalHas, List.forall_mem_cons.mpr ⟨bl_ci_X11_bestAgainst, List.forall_mem_cons.mpr ⟨bl_ci_X11_rivals, List.forall_mem_cons.mpr ⟨bl_ci_X11_again, List.forall_mem_cons.mpr ⟨bl_ci_X11_odds, List.forall_mem_cons.mpr ⟨bl_ci_X11_bestOf, List.forall_mem_cons.mpr ⟨bl_ci_X11_whom, List.forall_mem_cons.mpr ⟨bl_ci_X11_left, List.forall_mem_cons.mpr ⟨bl_ci_X11_isLeft, List.forall_mem_cons.mpr ⟨bl_ci_X11_wasVisited, List.forall_mem_cons.mpr ⟨bl_ci_X11_visited, List.forall_mem_cons.mpr ⟨bl_ci_X11_can, List.forall_mem_cons.mpr ⟨bl_ci_X11_isCan, List.forall_mem_cons.mpr ⟨bl_ci_X11_eats, List.forall_mem_cons.mpr ⟨bl_ci_X11_write, List.forall_mem_cons.mpr ⟨bl_ci_X11_judge, List.forall_mem_cons.mpr ⟨bl_ci_X11_tear, List.forall_mem_cons.mpr ⟨bl_ci_X11_seed, List.forall_mem_cons.mpr ⟨bl_ci_X11_keep, List.forall_mem_cons.mpr ⟨bl_ci_X11_goBack, fun _ h => absurd h List.not_mem_nil⟩⟩⟩⟩⟩⟩⟩⟩⟩⟩⟩⟩⟩⟩⟩⟩⟩⟩⟩⟩⟩⟩⟩⟩⟩⟩⟩⟩⟩⟩⟩⟩⟩⟩⟩⟩⟩⟩⟩⟩⟩⟩⟩⟩⟩⟩⟩⟩⟩⟩⟩⟩⟩⟩⟩⟩⟩⟩⟩⟩⟩⟩⟩⟩⟩⟩⟩⟩⟩⟩⟩⟩⟩⟩⟩⟩⟩⟩⟩⟩⟩⟩⟩⟩⟩⟩⟩⟩⟩⟩⟩⟩⟩⟩⟩⟩⟩⟩⟩⟩⟩⟩⟩⟩⟩⟩⟩⟩⟩⟩⟩⟩⟩⟩⟩⟩⟩⟩⟩⟩⟩⟩⟩⟩⟩⟩⟩⟩⟩⟩⟩⟩⟩⟩⟩⟩⟩⟩⟩⟩⟩⟩⟩⟩⟩⟩⟩⟩⟩⟩⟩⟩⟩⟩⟩⟩⟩⟩⟩⟩⟩⟩⟩⟩⟩⟩⟩⟩⟩⟩⟩⟩⟩⟩
set_option maxRecDepth 100000 in
theorem bl_lks_ok : ∀ M ∈ bl_all, ∀ w ∈ M.2.2.2.2.2.2, w ∈ bl_gt := List.forall_mem_cons.mpr ⟨bl_lkX1_ok, List.forall_mem_cons.mpr ⟨bl_lkX1_ok, List.forall_mem_cons.mpr ⟨bl_lkX5_ok, List.forall_mem_cons.mpr ⟨bl_lkX5_ok, List.forall_mem_cons.mpr ⟨bl_lkX0_ok, List.forall_mem_cons.mpr ⟨bl_lkX1_ok, List.forall_mem_cons.mpr ⟨bl_lkX5_ok, List.forall_mem_cons.mpr ⟨bl_lkX0_ok, List.forall_mem_cons.mpr ⟨bl_lkX0_ok, List.forall_mem_cons.mpr ⟨bl_lkX0_ok, List.forall_mem_cons.mpr ⟨bl_lkX0_ok, List.forall_mem_cons.mpr ⟨bl_lkX0_ok, List.forall_mem_cons.mpr ⟨bl_lkX0_ok, List.forall_mem_cons.mpr ⟨bl_lkX0_ok, List.forall_mem_cons.mpr ⟨bl_lkX0_ok, List.forall_mem_cons.mpr ⟨bl_lkX0_ok, List.forall_mem_cons.mpr ⟨bl_lkX4_ok, List.forall_mem_cons.mpr ⟨bl_lkX1_ok, List.forall_mem_cons.mpr ⟨bl_lkX2_ok, List.forall_mem_cons.mpr ⟨bl_lkX5_ok, List.forall_mem_cons.mpr ⟨bl_lkX2_ok, List.forall_mem_cons.mpr ⟨bl_lkX2_ok, List.forall_mem_cons.mpr ⟨bl_lkX4_ok, List.forall_mem_cons.mpr ⟨bl_lkX5_ok, List.forall_mem_cons.mpr ⟨bl_lkX3_ok, List.forall_mem_cons.mpr ⟨bl_lkX3_ok, List.forall_mem_cons.mpr ⟨bl_lkX4_ok, List.forall_mem_cons.mpr ⟨bl_lkX3_ok, List.forall_mem_cons.mpr ⟨bl_lkX3_ok, List.forall_mem_cons.mpr ⟨bl_lkX3_ok, List.forall_mem_cons.mpr ⟨bl_lkX3_ok, List.forall_mem_cons.mpr ⟨bl_lkX5_ok, List.forall_mem_cons.mpr ⟨bl_lkX5_ok, List.forall_mem_cons.mpr ⟨bl_lkX3_ok, List.forall_mem_cons.mpr ⟨bl_lkX5_ok, List.forall_mem_cons.mpr ⟨bl_lkX6_ok, List.forall_mem_cons.mpr ⟨bl_lkJ7_ok, List.forall_mem_cons.mpr ⟨bl_lkX6_ok, List.forall_mem_cons.mpr ⟨bl_lkX6_ok, List.forall_mem_cons.mpr ⟨bl_lkX6_ok, List.forall_mem_cons.mpr ⟨bl_lkX6_ok, List.forall_mem_cons.mpr ⟨bl_lkX6_ok, List.forall_mem_cons.mpr ⟨bl_lkX7_ok, List.forall_mem_cons.mpr ⟨bl_lkX7_ok, List.forall_mem_cons.mpr ⟨bl_lkX7_ok, List.forall_mem_cons.mpr ⟨bl_lkX7_ok, List.forall_mem_cons.mpr ⟨bl_lkX7_ok, List.forall_mem_cons.mpr ⟨bl_lkX7_ok, List.forall_mem_cons.mpr ⟨bl_lkX10_ok, List.forall_mem_cons.mpr ⟨bl_lkX7_ok, List.forall_mem_cons.mpr ⟨bl_lkX7_ok, List.forall_mem_cons.mpr ⟨bl_lkX7_ok, List.forall_mem_cons.mpr ⟨bl_lkX7_ok, List.forall_mem_cons.mpr ⟨bl_lkX7_ok, List.forall_mem_cons.mpr ⟨bl_lkX7_ok, List.forall_mem_cons.mpr ⟨bl_lkX7_ok, List.forall_mem_cons.mpr ⟨bl_lkX8_ok, List.forall_mem_cons.mpr ⟨bl_lkX8_ok, List.forall_mem_cons.mpr ⟨bl_lkX8_ok, List.forall_mem_cons.mpr ⟨bl_lkX8_ok, List.forall_mem_cons.mpr ⟨bl_lkX8_ok, List.forall_mem_cons.mpr ⟨bl_lkX8_ok, List.forall_mem_cons.mpr ⟨bl_lkX8_ok, List.forall_mem_cons.mpr ⟨bl_lkX9_ok, List.forall_mem_cons.mpr ⟨bl_lkX9_ok, List.forall_mem_cons.mpr ⟨bl_lkX10_ok, List.forall_mem_cons.mpr ⟨bl_lkX10_ok, List.forall_mem_cons.mpr ⟨bl_lkX10_ok, List.forall_mem_cons.mpr ⟨bl_lkX10_ok, List.forall_mem_cons.mpr ⟨bl_lkX10_ok, List.forall_mem_cons.mpr ⟨bl_lkX10_ok, List.forall_mem_cons.mpr ⟨bl_lkX10_ok, List.forall_mem_cons.mpr ⟨bl_lkX10_ok, List.forall_mem_cons.mpr ⟨bl_lkX10_ok, List.forall_mem_cons.mpr ⟨bl_lkX10_ok, List.forall_mem_cons.mpr ⟨bl_lkX10_ok, List.forall_mem_cons.mpr ⟨bl_lkX10_ok, List.forall_mem_cons.mpr ⟨bl_lkX10_ok, List.forall_mem_cons.mpr ⟨bl_lkX10_ok, List.forall_mem_cons.mpr ⟨bl_lkX10_ok, List.forall_mem_cons.mpr ⟨bl_lkX10_ok, List.forall_mem_cons.mpr ⟨bl_lkX10_ok, List.forall_mem_cons.mpr ⟨bl_lkX10_ok, List.forall_mem_cons.mpr ⟨bl_lkX10_ok, List.forall_mem_cons.mpr ⟨bl_lkX10_ok, List.forall_mem_cons.mpr ⟨bl_lkX10_ok, List.forall_mem_cons.mpr ⟨bl_lkX10_ok, List.forall_mem_cons.mpr ⟨bl_lkX10_ok, List.forall_mem_cons.mpr ⟨bl_lkX10_ok, List.forall_mem_cons.mpr ⟨bl_lkX10_ok, List.forall_mem_cons.mpr ⟨bl_lkX10_ok, List.forall_mem_cons.mpr ⟨bl_lkX10_ok, List.forall_mem_cons.mpr ⟨bl_lkX10_ok, List.forall_mem_cons.mpr ⟨bl_lkX10_ok, List.forall_mem_cons.mpr ⟨bl_lkX10_ok, List.forall_mem_cons.mpr ⟨bl_lkX10_ok, List.forall_mem_cons.mpr ⟨bl_lkX10_ok, List.forall_mem_cons.mpr ⟨bl_lkX10_ok, List.forall_mem_cons.mpr ⟨bl_lkX10_ok, List.forall_mem_cons.mpr ⟨bl_lkX10_ok, List.forall_mem_cons.mpr ⟨bl_lkX10_ok, List.forall_mem_cons.mpr ⟨bl_lkX11_ok, List.forall_mem_cons.mpr ⟨bl_lkX11_ok, List.forall_mem_cons.mpr ⟨bl_lkX11_ok, List.forall_mem_cons.mpr ⟨bl_lkX11_ok, List.forall_mem_cons.mpr ⟨bl_lkX11_ok, List.forall_mem_cons.mpr ⟨bl_lkX11_ok, List.forall_mem_cons.mpr ⟨bl_lkX11_ok, List.forall_mem_cons.mpr ⟨bl_lkX11_ok, List.forall_mem_cons.mpr ⟨bl_lkX11_ok, List.forall_mem_cons.mpr ⟨bl_lkX11_ok, List.forall_mem_cons.mpr ⟨bl_lkX11_ok, List.forall_mem_cons.mpr ⟨bl_lkX11_ok, List.forall_mem_cons.mpr ⟨bl_lkX11_ok, List.forall_mem_cons.mpr ⟨bl_lkX11_ok, List.forall_mem_cons.mpr ⟨bl_lkX11_ok, List.forall_mem_cons.mpr ⟨bl_lkX11_ok, List.forall_mem_cons.mpr ⟨bl_lkX11_ok, List.forall_mem_cons.mpr ⟨bl_lkX11_ok, List.forall_mem_cons.mpr ⟨bl_lkX11_ok, List.forall_mem_cons.mpr ⟨bl_lkX11_ok, List.forall_mem_cons.mpr ⟨bl_lkX11_ok, List.forall_mem_cons.mpr ⟨bl_lkX11_ok, List.forall_mem_cons.mpr ⟨bl_lkX11_ok, List.forall_mem_cons.mpr ⟨bl_lkX11_ok, List.forall_mem_cons.mpr ⟨bl_lkX11_ok, List.forall_mem_cons.mpr ⟨bl_lkX11_ok, List.forall_mem_cons.mpr ⟨bl_lkX11_ok, List.forall_mem_cons.mpr ⟨bl_lkX11_ok, List.forall_mem_cons.mpr ⟨bl_lkX11_ok, List.forall_mem_cons.mpr ⟨bl_lkX11_ok, List.forall_mem_cons.mpr ⟨bl_lkX11_ok, List.forall_mem_cons.mpr ⟨bl_lkX11_ok, List.forall_mem_cons.mpr ⟨bl_lkX11_ok, List.forall_mem_cons.mpr ⟨bl_lkX11_ok, List.forall_mem_cons.mpr ⟨bl_lkX11_ok, List.forall_mem_cons.mpr ⟨bl_lkX11_ok, List.forall_mem_cons.mpr ⟨bl_lkX11_ok, List.forall_mem_cons.mpr ⟨bl_lkX11_ok, List.forall_mem_cons.mpr ⟨bl_lkX11_ok, List.forall_mem_cons.mpr ⟨bl_lkX11_ok, List.forall_mem_cons.mpr ⟨bl_lkX11_ok, List.forall_mem_cons.mpr ⟨bl_lkX11_ok, List.forall_mem_cons.mpr ⟨bl_lkX11_ok, List.forall_mem_cons.mpr ⟨bl_lkX11_ok, List.forall_mem_cons.mpr ⟨bl_lkX11_ok, List.forall_mem_cons.mpr ⟨bl_lkX11_ok, List.forall_mem_cons.mpr ⟨bl_lkX11_ok, List.forall_mem_cons.mpr ⟨bl_lkX11_ok, List.forall_mem_cons.mpr ⟨bl_lkX11_ok, List.forall_mem_cons.mpr ⟨bl_lkX11_ok, List.forall_mem_cons.mpr ⟨bl_lkX11_ok, List.forall_mem_cons.mpr ⟨bl_lkX11_ok, List.forall_mem_cons.mpr ⟨bl_lkX11_ok, List.forall_mem_cons.mpr ⟨bl_lkX11_ok, List.forall_mem_cons.mpr ⟨bl_lkX11_ok, List.forall_mem_cons.mpr ⟨bl_lkX11_ok, List.forall_mem_cons.mpr ⟨bl_lkX11_ok, List.forall_mem_cons.mpr ⟨bl_lkX11_ok, List.forall_mem_cons.mpr ⟨bl_lkX11_ok, List.forall_mem_cons.mpr ⟨bl_lkX11_ok, List.forall_mem_cons.mpr ⟨bl_lkX11_ok, List.forall_mem_cons.mpr ⟨bl_lkX11_ok, List.forall_mem_cons.mpr ⟨bl_lkX11_ok, List.forall_mem_cons.mpr ⟨bl_lkX11_ok, List.forall_mem_cons.mpr ⟨bl_lkX11_ok, List.forall_mem_cons.mpr ⟨bl_lkX11_ok, List.forall_mem_cons.mpr ⟨bl_lkX11_ok, List.forall_mem_cons.mpr ⟨bl_lkX11_ok, List.forall_mem_cons.mpr ⟨bl_lkX11_ok, List.forall_mem_cons.mpr ⟨bl_lkX11_ok, List.forall_mem_cons.mpr ⟨bl_lkX11_ok, List.forall_mem_cons.mpr ⟨bl_lkX11_ok, List.forall_mem_cons.mpr ⟨bl_lkX11_ok, fun _ h => absurd h List.not_mem_nil⟩⟩⟩⟩⟩⟩⟩⟩⟩⟩⟩⟩⟩⟩⟩⟩⟩⟩⟩⟩⟩⟩⟩⟩⟩⟩⟩⟩⟩⟩⟩⟩⟩⟩⟩⟩⟩⟩⟩⟩⟩⟩⟩⟩⟩⟩⟩⟩⟩⟩⟩⟩⟩⟩⟩⟩⟩⟩⟩⟩⟩⟩⟩⟩⟩⟩⟩⟩⟩⟩⟩⟩⟩⟩⟩⟩⟩⟩⟩⟩⟩⟩⟩⟩⟩⟩⟩⟩⟩⟩⟩⟩⟩⟩⟩⟩⟩⟩⟩⟩⟩⟩⟩⟩⟩⟩⟩⟩⟩⟩⟩⟩⟩⟩⟩⟩⟩⟩⟩⟩⟩⟩⟩⟩⟩⟩⟩⟩⟩⟩⟩⟩⟩⟩⟩⟩⟩⟩⟩⟩⟩⟩⟩⟩⟩⟩⟩⟩⟩⟩⟩⟩⟩⟩⟩⟩⟩⟩⟩⟩⟩⟩⟩⟩⟩⟩⟩⟩⟩⟩⟩⟩⟩⟩
theorem bl_mi_in (i : Nat) : bl_mi i ∈ bl_all := by
  unfold bl_mi
  rw [List.getD_eq_getElem?_getD]
  cases h : bl_all[i]? with
  | none => exact List.mem_cons_self
  | some x => exact List.mem_of_getElem? h
-- 0 X1_copyFrom, 1 X1_handfulMoments, 2 X5_wouldGet, 3 X5_tryHandful, 4 X0_measureGains, 5 X1_momentsFrom, 6 X5_momentsTo, 7 X0_measureWays, 8 X0_fillShortest, 9 X0_fillGathered, 10 X0_mostBeyond, 11 X0_findMost, 12 X0_fewestHandfuls, 13 X0_addStop, 14 X0_findNextStop, 15 X0_findStops, 16 X4_isTold, 17 X1_passDay, 18 X2_shareOf, 19 X5_tryHandfuls, 20 X2_takeTurn, 21 X2_playOut, 22 X4_copyFrom, 23 X5_copyFrom, 24 X3_startAs, 25 X3_copyFrom, 26 X4_forget, 27 X3_forget, 28 X3_ripeInAll, 29 X3_passDay, 30 X3_draw, 31 X5_walkTo, 32 X5_takeHandfuls, 33 X3_passDayByDraws, 34 X5_isAt, 35 X6_measure, 36 J7_fill_53178, 37 X6_countRows, 38 X6_sumOfRow, 39 X6_stepRow, 40 X6_findFor, 41 X6_bushOf, 42 X7_isFull, 43 X7_append, 44 X7_skipBlanks, 45 X7_faultOfWord, 46 X7_note, 47 X7_boundsOf, 48 X10_within, 49 X7_readNumber, 50 X7_readNumbers, 51 X7_takeBush, 52 X7_takePicker, 53 X7_take, 54 X7_readClause, 55 X7_readAll, 56 X8_clearAll, 57 X8_agreesOnDay, 58 X8_agreesAfterVisit, 59 X8_findVisits, 60 X8_cansAgree, 61 X8_appetitesOf, 62 X8_firstWrong, 63 X9_isFull, 64 X9_append, 65 X10_feed, 66 X10_lane, 67 X10_fault, 68 X10_told, 69 X10_isBush, 70 X10_bush, 71 X10_isPicker, 72 X10_picker, 73 X10_gives, 74 X10_way, 75 X10_go, 76 X10_pick, 77 X10_stick, 78 X10_pour, 79 X10_day, 80 X10_drift, 81 X10_length, 82 X10_best, 83 X10_where, 84 X10_rivals, 85 X10_again, 86 X10_partOfRow, 87 X10_ripeAfterRow, 88 X10_odds, 89 X10_moreByStick, 90 X10_whom, 91 X10_left, 92 X10_visited, 93 X10_can, 94 X10_eats, 95 X10_write, 96 X10_judge, 97 X10_tear, 98 X10_seed, 99 X10_keep, 100 X10_goBack, 101 X11_in, 102 X11_has, 103 X11_isBush, 104 X11_isPicker, 105 X11_feed, 106 X11_here, 107 X11_fails, 108 X11_takeNumber, 109 X11_into, 110 X11_takeLaw, 111 X11_takeBush, 112 X11_takePicker, 113 X11_takeClause, 114 X11_takeRead, 115 X11_lane, 116 X11_fault, 117 X11_ripeInAll, 118 X11_told, 119 X11_bush, 120 X11_picker, 121 X11_givesOf, 122 X11_gives, 123 X11_momentsOf, 124 X11_wayOf, 125 X11_way, 126 X11_handfulTakes, 127 X11_rest, 128 X11_handful, 129 X11_go, 130 X11_atMost, 131 X11_pickNow, 132 X11_pick, 133 X11_stick, 134 X11_pour, 135 X11_ripen, 136 X11_dayNow, 137 X11_day, 138 X11_draw, 139 X11_drift, 140 X11_save, 141 X11_putBack, 142 X11_putAllBack, 143 X11_length, 144 X11_findGains, 145 X11_stateOf, 146 X11_wayBetween, 147 X11_byNext, 148 X11_findMost, 149 X11_best, 150 X11_findCans, 151 X11_figure, 152 X11_allBy, 153 X11_where, 154 X11_rivalHas, 155 X11_bestAgainst, 156 X11_rivals, 157 X11_again, 158 X11_odds, 159 X11_bestOf, 160 X11_whom, 161 X11_left, 162 X11_isLeft, 163 X11_wasVisited, 164 X11_visited, 165 X11_can, 166 X11_isCan, 167 X11_eats, 168 X11_write, 169 X11_judge, 170 X11_tear, 171 X11_seed, 172 X11_keep, 173 X11_goBack
end
section
def bl_cs (st : List Value) (a : Nat) : Bool := Nat.ble a st.length && bl_w8 (st.drop a)
def bl_bz (x : Int32) (P : Prop) : Prop := (x = 0 ∨ x = 1) ∧ P
def bl_if1 (cd : ClassFile.Cond) (x : Int32) (T F : Prop) : Prop := match cd with
  | .eq => (x = 0 → T) ∧ (¬ x = 0 → F)
  | .ne => (x = 0 → F) ∧ (¬ x = 0 → T)
  | .lt => (x < 0 → T) ∧ (¬ x < 0 → F)
  | .ge => (x < 0 → F) ∧ (¬ x < 0 → T)
  | .gt => (0 < x → T) ∧ (¬ 0 < x → F)
  | .le => (0 < x → F) ∧ (¬ 0 < x → T)
def bl_if2 (cd : ClassFile.Cond) (x y : Int32) (T F : Prop) : Prop := match cd with
  | .eq => (x = y → T) ∧ (¬ x = y → F)
  | .ne => (x = y → F) ∧ (¬ x = y → T)
  | .lt => (x < y → T) ∧ (¬ x < y → F)
  | .ge => (x < y → F) ∧ (¬ x < y → T)
  | .gt => (y < x → T) ∧ (¬ y < x → F)
  | .le => (y < x → F) ∧ (¬ y < x → T)
def bl_call (M : bl_MI) (c : Nat) (as : List Value) (σ : bl_S) (P : List Value → bl_S → Prop) : Prop :=
  bif Nat.beq c 0 then ∃ τ : bl_S, bl_Con M as σ none τ ∧ P [] τ else
  bif Nat.beq c 1 then ∃ (x : Int32) (τ : bl_S), bl_Con M as σ (some (.int x)) τ ∧ P [.int x] τ else
  ∃ (x : Nat) (τ : bl_S), bl_Con M as σ (some (.ref x)) τ ∧ P [.ref x] τ
def bl_stp (es : List bl_En) (K : List bl_En → List (Nat × Value) → List Value → bl_S → Prop) (e : bl_En) (r : List bl_En) (lv : List (Nat × Value)) (st : List Value) (σ : bl_S) (Q : Option Value → bl_S → Prop) : Prop :=
  match e with
  | (_, i, _, a, b, c, d, v, w, sw) => match i with
    | .iconst _ => K r lv (.int v :: st) σ
    | .bipush _ => K r lv (.int v :: st) σ
    | .sipush _ => K r lv (.int v :: st) σ
    | .ldc _ => K r lv (.int v :: st) σ
    | .ldc_w _ => K r lv (.int v :: st) σ
    | .lconst _ => K r lv (.long w :: st) σ
    | .ldc2_w _ => K r lv (.long w :: st) σ
    | .iload_n _ => bl_li lv a fun x => K r lv (.int x :: st) σ
    | .iload _ => bl_li lv a fun x => K r lv (.int x :: st) σ
    | .lload_n _ => bl_ll lv a fun x => K r lv (.long x :: st) σ
    | .lload _ => bl_ll lv a fun x => K r lv (.long x :: st) σ
    | .aload_n _ => bl_lr lv a fun x => K r lv (.ref x :: st) σ
    | .aload _ => bl_lr lv a fun x => K r lv (.ref x :: st) σ
    | .istore_n _ => bl_pi st fun x st' => K r (bl_s1 lv a (.int x)) st' σ
    | .istore _ => bl_pi st fun x st' => K r (bl_s1 lv a (.int x)) st' σ
    | .lstore_n _ => bl_pl st fun x st' => K r (bl_s2 lv a (.long x)) st' σ
    | .lstore _ => bl_pl st fun x st' => K r (bl_s2 lv a (.long x)) st' σ
    | .astore_n _ => bl_pr st fun x st' => K r (bl_s1 lv a (.ref x)) st' σ
    | .astore _ => bl_pr st fun x st' => K r (bl_s1 lv a (.ref x)) st' σ
    | .iinc _ _ => bl_li lv a fun x => K r (bl_s1 lv a (.int (x + v))) st σ
    | .iadd => bl_pii st fun x y st' => K r lv (.int (x + y) :: st') σ
    | .isub => bl_pii st fun x y st' => K r lv (.int (x - y) :: st') σ
    | .imul => bl_pii st fun x y st' => K r lv (.int (x * y) :: st') σ
    | .iand => bl_pii st fun x y st' => K r lv (.int (x &&& y) :: st') σ
    | .ior => bl_pii st fun x y st' => K r lv (.int (x ||| y) :: st') σ
    | .ixor => bl_pii st fun x y st' => K r lv (.int (x ^^^ y) :: st') σ
    | .ishl => bl_pii st fun x y st' => K r lv (.int (x <<< (y &&& 31)) :: st') σ
    | .ishr => bl_pii st fun x y st' => K r lv (.int (x >>> (y &&& 31)) :: st') σ
    | .idiv => bl_pii st fun x y st' => ¬ y = 0 ∧ K r lv (.int (x / y) :: st') σ
    | .irem => bl_pii st fun x y st' => ¬ y = 0 ∧ K r lv (.int (x - x / y * y) :: st') σ
    | .ladd => bl_pll st fun x y st' => K r lv (.long (x + y) :: st') σ
    | .lsub => bl_pll st fun x y st' => K r lv (.long (x - y) :: st') σ
    | .lmul => bl_pll st fun x y st' => K r lv (.long (x * y) :: st') σ
    | .land => bl_pll st fun x y st' => K r lv (.long (x &&& y) :: st') σ
    | .ldiv => bl_pll st fun x y st' => ¬ y = 0 ∧ K r lv (.long (x / y) :: st') σ
    | .lrem => bl_pll st fun x y st' => ¬ y = 0 ∧ K r lv (.long (x - x / y * y) :: st') σ
    | .lcmp => bl_pll st fun x y st' => K r lv (.int (lg_cmp x y) :: st') σ
    | .i2l => bl_pi st fun x st' => K r lv (.long x.toInt64 :: st') σ
    | .l2i => bl_pl st fun x st' => K r lv (.int x.toInt32 :: st') σ
    | .i2c => bl_pi st fun x st' => K r lv (.int (x.toUInt32 % 65536).toInt32 :: st') σ
    | .dup => bl_p1 st fun x st' => K r lv (x :: x :: st') σ
    | .pop => bl_p1 st fun _ st' => K r lv st' σ
    | .dup2 => bl_p2 st fun x y st' => K r lv (x :: y :: x :: y :: st') σ
    | .goto _ => K (bl_to es a) lv st σ
    | .ifCond cd _ => bl_pi st fun x st' => bl_if1 cd x (K (bl_to es a) lv st' σ) (K r lv st' σ)
    | .if_icmp cd _ => bl_pii st fun x y st' => bl_if2 cd x y (K (bl_to es a) lv st' σ) (K r lv st' σ)
    | .tableswitch _ _ _ _ => bl_pi st fun x st' => bl_sw x sw (fun t => K (bl_to es t) lv st' σ) a
    | .lookupswitch _ _ => bl_pi st fun x st' => bl_sw x sw (fun t => K (bl_to es t) lv st' σ) a
    | .getfield _ => bl_pr st fun q st' => bl_kd q = a ∧ K r lv ((bif Nat.beq c 1 then Value.ref (bl_rf q b) else Value.int (σ q b)) :: st') σ
    | .putfield _ => bl_pir st fun q x st' => bl_kd q = a ∧ (bif Nat.beq c 2 then bl_bz x (K r lv st' (bl_up σ q b x)) else K r lv st' (bl_up σ q b x))
    | .iaload => bl_pir st fun q i st' => bif Nat.beq c 1 then bl_kd q = 26 ∧ vp_in i (bl_ln q) ∧ K r lv (.int (bl_ro q i.toNatClampNeg) :: st') σ else bl_kd q = 20 ∧ vp_in i (bl_ln q) ∧ K r lv (.int (σ q i.toNatClampNeg) :: st') σ
    | .caload => bl_pir st fun q i st' => bl_kd q = 21 ∧ vp_in i (bl_ln q) ∧ K r lv (.int (σ q i.toNatClampNeg) :: st') σ
    | .baload => bl_pir st fun q i st' => bl_kd q = 22 ∧ vp_in i (bl_ln q) ∧ K r lv (.int (σ q i.toNatClampNeg) :: st') σ
    | .aaload => bl_pir st fun q i st' => bl_kd q = a ∧ vp_in i (bl_ln q) ∧ K r lv (.ref (bl_rf q i.toNatClampNeg) :: st') σ
    | .iastore => bl_piir st fun q i x st' => bl_kd q = 20 ∧ vp_in i (bl_ln q) ∧ K r lv st' (bl_up σ q i.toNatClampNeg x)
    | .castore => bl_piir st fun q i x st' => bl_kd q = 21 ∧ vp_in i (bl_ln q) ∧ K r lv st' (bl_up σ q i.toNatClampNeg (vp_nar .char x))
    | .bastore => bl_piir st fun q i x st' => bl_kd q = 22 ∧ vp_in i (bl_ln q) ∧ K r lv st' (bl_up σ q i.toNatClampNeg (vp_nar .boolean x))
    | .arraylength => bl_pr st fun q st' => bl_kd q = a ∧ K r lv (.int (Int32.ofNat (bl_ln q)) :: st') σ
    | .getstatic _ => K r lv (.ref (bl_N + a) :: st) σ
    | .invokevirtual _ => bl_rcv (bl_ar st a) b ∧ (bif bl_cs st a then bl_call (bl_mi d) c (bl_ar st a) σ (fun vs τ => K r lv (vs ++ bl_dr st a) τ) else False)
    | .invokestatic _ => bif Nat.blt c 10 then (bif bl_cs st a then bl_call (bl_mi d) c (bl_ar st a) σ (fun vs τ => K r lv (vs ++ bl_dr st a) τ) else False)
        else bif Nat.beq c 10 then bl_pii st fun x y st' => bif bl_w8 st' then K r lv (.int (if y < x then y else x) :: st') σ else False
        else bif Nat.beq c 11 then bl_pii st fun x y st' => bif bl_w8 st' then K r lv (.int (if x < y then y else x) :: st') σ else False
        else bif Nat.beq c 12 then bl_pi st fun x st' => bif bl_w8 st' then K r lv (.int (if 0 ≤ x then x else 0 - x) :: st') σ else False
        else bl_pcopy st fun a0 sp q dp n st' => bl_kd a0 = 20 ∧ bl_kd q = 20 ∧ ¬ sp < 0 ∧ ¬ dp < 0 ∧ ¬ n < 0 ∧ sp.toNatClampNeg + n.toNatClampNeg ≤ bl_ln a0 ∧ dp.toNatClampNeg + n.toNatClampNeg ≤ bl_ln q ∧ (bif bl_w8 st' then K r lv st' (bl_cpy σ a0 q sp.toNatClampNeg dp.toNatClampNeg n.toNatClampNeg) else False)
    | .ireturn => bl_pi st fun x st' => bif st'.isEmpty then (bif Nat.beq c 1 then bl_bz x (Q (some (.int x)) σ) else Q (some (.int x)) σ) else False
    | .areturn => bl_pr st fun x st' => bif st'.isEmpty then Q (some (.ref x)) σ else False
    | .return_ => bif st.isEmpty then Q none σ else False
    | _ => False
def bl_nx (M : bl_MI) (cuts : List (Nat × List Nat)) (Q : Option Value → bl_S → Prop) (K : List bl_En → List (Nat × Value) → List Value → bl_S → Prop) (l : List bl_En) (lv : List (Nat × Value)) (st : List Value) (σ : bl_S) : Prop :=
  match l with
  | [] => False
  | e :: _ => match cuts.lookup e.1 with
    | some live => bl_Wx M e.1 (lv.filter fun q => live.contains q.1) st σ Q
    | none => K l lv st σ
def bl_wp (M : bl_MI) (es : List bl_En) (cuts : List (Nat × List Nat)) (Q : Option Value → bl_S → Prop) : Nat → List bl_En → List (Nat × Value) → List Value → bl_S → Prop
  | 0, _, _, _, _ => False
  | n + 1, l, lv, st, σ => match l with
    | [] => False
    | e :: r => bl_stp es (bl_nx M cuts Q (bl_wp M es cuts Q n)) e r lv st σ Q
/-- the table of a method is right: each row decodes, and its numbers are what the links say -/
def bl_fld (M : bl_MI) (a b idx : Nat) (c : Nat) (put : Bool) : Bool := match vwCl[a]? with
  | some (C, T, N) => Nat.blt b N && decide (Cond.fieldLink M.1.cls idx C (T b).2.1 (T b).2.2.1 ∈ M.2.2.2.2.2.2) && decide ((T b).1 = C) && (bl_fr a b == Nat.beq c 1) && (!put || (!(T b).2.2.2 && (bif Nat.beq c 2 then decide ((T b).2.2.1 = "Z") else decide ((T b).2.2.1 = "I"))))
  | none => false
def bl_mth (M : bl_MI) (Y : bl_MI) (idx n : Nat) (c : Nat) : Bool :=
  decide (Cond.methodLink M.1.cls idx Y.1 ∈ M.2.2.2.2.2.2 ∨ (M.1.cls = RX7 ∧ idx = 104 ∧ Y.1 = yX10_within)) && decide (Cond.initialized Y.1.cls ∈ M.2.2.2.2.2.2) && decide (Y.1.cls ≠ "java/lang/invoke/MethodHandle" ∧ Y.1.cls ≠ "java/lang/invoke/VarHandle") && decide ((parseMethodDescriptor Y.1.desc).map (fun d => d.parameters.length) = some n)
    && Nat.ble (Y.2.2.2.2.1 + 1) M.2.2.2.2.1 && Nat.ble (8 + (Y.2.2.1 + 11) + Y.2.2.2.2.2.1) M.2.2.2.2.2.1
def bl_tgt (pc : Nat) (off : Int) (a : Nat) : Bool := decide ((pc : Int) + off = (a : Int))
def bl_chk (M : bl_MI) (e : bl_En) : Bool := match e with
  | (pc, i, len, a, b, c, d, v, w, sw) => match i with
    | .iconst n => Nat.beq len 1 && decide (Int32.ofInt n = v)
    | .bipush n => Nat.beq len 2 && decide ((Int8.ofInt n).toInt32 = v)
    | .sipush n => Nat.beq len 3 && decide ((Int16.ofInt n).toInt32 = v)
    | .ldc idx => Nat.beq len 2 && decide (Cond.constant M.1.cls idx v ∈ M.2.2.2.2.2.2)
    | .ldc_w idx => Nat.beq len 3 && decide (Cond.constant M.1.cls idx v ∈ M.2.2.2.2.2.2)
    | .lconst n => Nat.beq len 1 && decide (Int64.ofNat (n : Nat) = w)
    | .ldc2_w idx => Nat.beq len 3 && decide (Cond.constantLong M.1.cls idx w ∈ M.2.2.2.2.2.2)
    | .iload_n n => Nat.beq len 1 && Nat.beq (n : Nat) a
    | .iload n => Nat.beq len 2 && Nat.beq n a
    | .lload_n n => Nat.beq len 1 && Nat.beq (n : Nat) a
    | .lload n => Nat.beq len 2 && Nat.beq n a
    | .aload_n n => Nat.beq len 1 && Nat.beq (n : Nat) a
    | .aload n => Nat.beq len 2 && Nat.beq n a
    | .istore_n n => Nat.beq len 1 && Nat.beq (n : Nat) a && Nat.blt a M.2.2.1
    | .istore n => Nat.beq len 2 && Nat.beq n a && Nat.blt a M.2.2.1
    | .lstore_n n => Nat.beq len 1 && Nat.beq (n : Nat) a && Nat.blt (a + 1) M.2.2.1
    | .lstore n => Nat.beq len 2 && Nat.beq n a && Nat.blt (a + 1) M.2.2.1
    | .astore_n n => Nat.beq len 1 && Nat.beq (n : Nat) a && Nat.blt a M.2.2.1
    | .astore n => Nat.beq len 2 && Nat.beq n a && Nat.blt a M.2.2.1
    | .iinc n k => Nat.beq len 3 && Nat.beq n a && Nat.blt a M.2.2.1 && decide (Int32.ofInt k = v)
    | .goto off => Nat.beq len 3 && bl_tgt pc off a
    | .ifCond _ off => Nat.beq len 3 && bl_tgt pc off a
    | .if_icmp _ off => Nat.beq len 3 && bl_tgt pc off a
    | .tableswitch df lo hi offs => bl_tgt pc df a && decide ((List.range offs.size).map (fun k : Nat => (Int32.ofInt (lo + (k : Int)), (offs[k]?).map (fun o => (pc : Int) + o))) = sw.map (fun q => (q.1, some (q.2 : Int)))) && decide (hi = lo + offs.size - 1) && decide (-2147483648 ≤ lo ∧ hi ≤ 2147483647)
    | .lookupswitch df ps => bl_tgt pc df a && decide (ps.toList.map (fun q => (Int32.ofInt q.1, (pc : Int) + q.2)) = sw.map (fun q => (q.1, (q.2 : Int)))) && (ps.toList.zip (ps.toList.drop 1)).all (fun (a, next) => a.1 < next.1) && ps.toList.all (fun q => decide (-2147483648 ≤ q.1 ∧ q.1 ≤ 2147483647))
    | .getfield idx => Nat.beq len 3 && bl_fld M a b idx c false && Nat.blt a 20
    | .putfield idx => Nat.beq len 3 && bl_fld M a b idx c true && Nat.blt a 20 && !(Nat.beq c 1)
    | .aaload => Nat.beq len 1 && Nat.ble 23 a && Nat.blt a 26
    | .arraylength => Nat.beq len 1 && (Nat.beq a 20 || Nat.beq a 26)
    | .getstatic idx => Nat.beq len 3 && Nat.blt a 4 && decide (Cond.fieldLink M.1.cls idx RX7 (bl_rn a) "[I" ∈ M.2.2.2.2.2.2)
    | .invokevirtual idx => Nat.beq len 3 && bl_mth M (bl_mi d) idx (a - 1) c && Nat.blt 0 a && decide (Cond.methodLink M.1.cls idx (bl_mi d).1 ∈ M.2.2.2.2.2.2) && decide (Cond.instanceMethod (bl_mi d).1 ∈ M.2.2.2.2.2.2) && decide (Cond.selects (bl_mi d).1.cls (bl_mi d).1 (bl_mi d).1 ∈ M.2.2.2.2.2.2) && decide ((vwCl[b]?).map (fun q => q.1) = some (bl_mi d).1.cls) && Nat.blt b 20
    | .invokestatic idx => Nat.beq len 3 && (bif Nat.blt c 10 then bl_mth M (bl_mi d) idx a c && decide (Cond.static (bl_mi d).1 ∈ M.2.2.2.2.2.2)
        else bif Nat.beq c 13 then decide (Cond.methodLink M.1.cls idx arraycopyName ∈ M.2.2.2.2.2.2) && decide (Cond.static arraycopyName ∈ M.2.2.2.2.2.2) && decide (Cond.native arraycopyName ∈ M.2.2.2.2.2.2) && decide (Cond.initialized "java/lang/System" ∈ M.2.2.2.2.2.2) && Nat.ble 1 M.2.2.2.2.1 && Nat.ble 26 M.2.2.2.2.2.1
        else decide (Cond.initialized "java/lang/Math" ∈ M.2.2.2.2.2.2) && Nat.ble 1 M.2.2.2.2.1 && Nat.ble 21 M.2.2.2.2.2.1 && (
          bif Nat.beq c 10 then decide (Cond.methodLink M.1.cls idx Lib.Math.min.name ∈ M.2.2.2.2.2.2) && decide (Cond.static Lib.Math.min.name ∈ M.2.2.2.2.2.2)
          else bif Nat.beq c 11 then decide (Cond.methodLink M.1.cls idx Lib.Math.max.name ∈ M.2.2.2.2.2.2) && decide (Cond.static Lib.Math.max.name ∈ M.2.2.2.2.2.2)
          else bif Nat.beq c 12 then decide (Cond.methodLink M.1.cls idx Lib.Math.abs.name ∈ M.2.2.2.2.2.2) && decide (Cond.static Lib.Math.abs.name ∈ M.2.2.2.2.2.2) else false))
    | .ireturn => Nat.beq len 1 && (bif Nat.beq c 1 then decide (M.2.2.2.1 = some .boolean) else decide (M.2.2.2.1 = some .int))
    | .areturn => Nat.beq len 1 && decide (M.2.2.2.1 = some (.array .int))
    | .return_ => Nat.beq len 1 && decide (M.2.2.2.1 = none)
    | _ => Nat.beq len 1
def bl_ok (M : bl_MI) (e : bl_En) : Bool := decide (decode M.2.1 e.1 = .ok (e.2.1, e.2.2.1)) && bl_chk M e
def bl_chain : List bl_En → Bool
  | [] => true
  | e :: r => (match r with
    | [] => true
    | f :: _ => Nat.beq f.1 (e.1 + e.2.2.1)) && bl_chain r
theorem bl_beq {a b : Nat} (h : Nat.beq a b = true) : a = b := Nat.eq_of_beq_eq_true h
theorem bl_blt {a b : Nat} (h : Nat.blt a b = true) : a < b := Nat.le_of_ble_eq_true h
theorem bl_ble {a b : Nat} (h : Nat.ble a b = true) : a ≤ b := Nat.le_of_ble_eq_true h
theorem bl_to_suf (es : List bl_En) (t : Nat) : bl_to es t <:+ es := List.dropWhile_suffix _
theorem bl_to_head {es : List bl_En} {t : Nat} {e : bl_En} {r : List bl_En} (h : bl_to es t = e :: r) : e.1 = t := by
  unfold bl_to at h
  induction es with
  | nil => cases h
  | cons x xs ih =>
    rw [List.dropWhile_cons] at h
    cases hb : Nat.beq x.1 t with
    | true =>
      rw [hb] at h
      simp at h
      rw [← h.1]
      exact bl_beq hb
    | false =>
      rw [hb] at h
      simp at h
      exact ih h
theorem bl_chain_next : ∀ {es : List bl_En} {e : bl_En} {r : List bl_En}, bl_chain es = true → (e :: r) <:+ es → ∀ f r', r = f :: r' → f.1 = e.1 + e.2.2.1
  | [], e, r, _, hs, _, _, _ => by
    have := hs.length_le
    simp at this
  | x :: xs, e, r, hc, hs, f, r', hr => by
    unfold bl_chain at hc
    rw [Bool.and_eq_true] at hc
    rcases List.suffix_cons_iff.mp hs with h | h
    · have h1 : x = e ∧ xs = r := by
        injection h.symm with a b
        exact ⟨a, b⟩
      obtain ⟨rfl, rfl⟩ := h1
      subst hr
      exact bl_beq hc.1
    · exact bl_chain_next hc.2 h f r' hr
end
section
theorem bl_go {M : bl_MI} {pc pc' : Nat} {lv lv' : List (Nat × Value)} {st st' : List Value} {σ σ' : bl_S} {Q : Option Value → bl_S → Prop} (h : bl_Wx M pc' lv' st' σ' Q)
    (f : ∀ (p : Program) (l : Launch) (e : Env) (R : Room) (s : State) (m : MethodId) (args : Array Value) (below : List Frame) (meth : Method) (c : Code) (cells slots : Nat) (Qf : State → Prop) (D : va_G) (α : Nat → Nat) (cA : Nat → ClassId) (A : Nat → Prop),
      bl_CX M D α cA A p R s m args meth c cells slots → ∀ (H : Heap) (locs : List Loc) (ls : Array Slot), va_P D vwCl (bl_ws α cA σ) H → va_S A s.heap H locs → lv_has ls M.2.2.1 (bl_cl α lv) →
      (∀ (H' : Heap) (locs' : List Loc) (ls' : Array Slot), va_P D vwCl (bl_ws α cA σ') H' → va_S A s.heap H' locs' → lv_has ls' M.2.2.1 (bl_cl α lv') → W p l e R s m args below meth c H' locs' cells slots Qf (F0 m pc' ls' (st'.map (bl_cv α)))) →
      W p l e R s m args below meth c H locs cells slots Qf (F0 m pc ls (st.map (bl_cv α)))) : bl_Wx M pc lv st σ Q :=
  fun p l e R s m args below meth c cells slots Qf D α cA A hC hret H locs ls hP hS hl => f p l e R s m args below meth c cells slots Qf D α cA A hC H locs ls hP hS hl (fun H' locs' ls' hP' hS' hl' => h p l e R s m args below meth c cells slots Qf D α cA A hC hret H' locs' ls' hP' hS' hl')
/-- classes and their tables -/
theorem bl_cls_ws : ∀ (ci : Nat) (C : String) (T : u_T) (N : Nat), vwCl[ci]? = some (C, T, N) → ∀ w ∈ u_ws C T N, w ∈ bl_gt := by
  intro ci C T N h
  have key : ∀ q ∈ vwCl, ∀ w ∈ u_ws q.1 q.2.1 q.2.2, w ∈ lw_tbl ∧ goodWord w = true := by decide +kernel
  intro w hw
  exact List.mem_filter.mpr (key _ (List.mem_of_getElem? h) w hw)
def bl_tyT : List (Nat → FieldType) := [tyX0, tyX1, tyX2, tyX3, tyX4, tyX5, tyX6, tyX7, tyX8, tyX9, tyX10, tyX11]
theorem bl_cls_ty : ∀ (ci : Nat) (C : String) (T : u_T) (N : Nat), vwCl[ci]? = some (C, T, N) → ∀ k, k < N → parseFieldDescriptor (T k).2.2.1 = some ((bl_tyT.getD ci tyX0) k) := by
  intro ci C T N h
  match ci, h with
  | 0, h => cases h; exact tyX0_ok
  | 1, h => cases h; exact tyX1_ok
  | 2, h => cases h; exact tyX2_ok
  | 3, h => cases h; exact tyX3_ok
  | 4, h => cases h; exact tyX4_ok
  | 5, h => cases h; exact tyX5_ok
  | 6, h => cases h; exact tyX6_ok
  | 7, h => cases h; exact tyX7_ok
  | 8, h => cases h; exact tyX8_ok
  | 9, h => cases h; exact tyX9_ok
  | 10, h => cases h; exact tyX10_ok
  | 11, h => cases h; exact tyX11_ok
  | k + 12, h => simp [vwCl] at h
theorem bl_cls_nm : ∀ (ci : Nat) (C : String) (T : u_T) (N : Nat), vwCl[ci]? = some (C, T, N) → ∀ a, a < N → ∀ b, b < N → a ≠ b → (T a).2.1 ≠ (T b).2.1 := by
  intro ci C T N h
  match ci, h with
  | 0, h => cases h; exact nmX0
  | 1, h => cases h; exact nmX1
  | 2, h => cases h; exact nmX2
  | 3, h => cases h; exact nmX3
  | 4, h => cases h; exact nmX4
  | 5, h => cases h; exact nmX5
  | 6, h => cases h; exact nmX6
  | 7, h => cases h; exact nmX7
  | 8, h => cases h; exact nmX8
  | 9, h => cases h; exact nmX9
  | 10, h => cases h; exact nmX10
  | 11, h => cases h; exact nmX11
  | k + 12, h => simp [vwCl] at h
theorem bl_cls_ln : ∀ k, k < bl_N → bl_kd k < 20 → (vwCl[bl_kd k]?).map (fun q => q.2.2) = some (bl_ln k) := by decide +kernel
theorem bl_ln_of {k ci N : Nat} {C : String} {T : u_T} (h : bl_kd k = ci) (hc : ci < 20) (hv : vwCl[ci]? = some (C, T, N)) : bl_ln k = N := by
  have h1 := bl_cls_ln k (bl_lt h (by omega)) (by omega)
  rw [h, hv] at h1
  exact (Option.some.inj h1).symm
theorem bl_bool {x : Int32} (h : x = 0 ∨ x = 1) : narrow .boolean (.int x) = .int x ∧ fits .boolean (.int x) = true := by
  rcases h with rfl | rfl <;> exact ⟨rfl, rfl⟩
theorem bl_sw_e {x : Int32} {K : Nat → Prop} {d : Nat} : ∀ {sw : List (Int32 × Nat)}, bl_sw x sw K d → (∃ (k : Nat) (q : Int32 × Nat), sw[k]? = some q ∧ x = q.1 ∧ (∀ j q', j < k → sw[j]? = some q' → ¬ x = q'.1) ∧ K q.2) ∨ ((∀ q ∈ sw, ¬ x = q.1) ∧ K d)
  | [], h => Or.inr ⟨fun _ h => (List.not_mem_nil h).elim, h⟩
  | q :: r, h => by
    by_cases hx : x = q.1
    · exact Or.inl ⟨0, q, rfl, hx, fun j q' hj => (by omega), h.1 hx⟩
    · rcases bl_sw_e (h.2 hx) with ⟨k, q', h1, h2, h3, h4⟩ | ⟨h1, h2⟩
      · refine Or.inl ⟨k + 1, q', h1, h2, fun j q'' hj hq => ?_, h4⟩
        cases j with
        | zero => cases hq; exact hx
        | succ j => exact h3 j q'' (by omega) hq
      · exact Or.inr ⟨fun q' hq => (List.mem_cons.mp hq).elim (fun e => by rw [e]; exact hx) (h1 q'), h2⟩
theorem bl_icmp {P : Prop} {x y : Int32} (h : ¬ x < y → P) : y ≤ x → P := fun q => h (Int32.not_lt.mpr q)
theorem bl_icmp' {P : Prop} {x y : Int32} (h : x < y → P) : ¬ y ≤ x → P := fun q => h (Int32.not_le.mp q)
theorem bl_nn {P : Prop} {A : Prop} (h : A → P) : ¬ ¬ A → P := fun q => h (Classical.not_not.mp q)
end
section
section BLC
variable {p : Program} {l : Launch} {e : Env} {R : Room} {s : State} {m : MethodId} {args : Array Value} {below : List Frame} {meth : Method} {c : Code} {cells slots : Nat} {Qf : State → Prop} {D : va_G} {α : Nat → Nat} {cA : Nat → ClassId} {A : Nat → Prop}
theorem bl_callW {H : Heap} {locs : List Loc} {ls : Array Slot} {pc : Nat} {st0 rest : List Value} {a : Array Value} {r : Option Value} {σ' : bl_S} (hr : va_Run p l e R s m args below meth c H locs cells slots 0 0 (F0 m pc ls st0) rest (bl_Qc D α cA r σ' a) (bl_A α)) (hS : va_S A s.heap H locs) (hA : ∀ q, bl_A α q → A q)
    (kk : ∀ (H1 : Heap) (locs1 : List Loc), va_P D vwCl (bl_ws α cA σ') H1 → va_S A s.heap H1 locs1 → W p l e R s m args below meth c H1 locs1 cells slots Qf (F0 m (pc + 3) ls ((r.map (bl_cv α)).toList ++ rest))) : W p l e R s m args below meth c H locs cells slots Qf (F0 m pc ls st0) := by
  intro T hT X
  obtain ⟨v, st₀, t, T', L, h0, X', hL, e1, e2, ⟨⟨hv, hb⟩, hz, hk⟩, st⟩ := hr T hT X
  cases hv
  rw [h0] at hz hk
  obtain ⟨t2, a1, b1⟩ := kk T'.heap (locs ++ L) (by rw [e1]; exact hb)
    ⟨Nat.le_trans hS.1 (by rw [e1]; exact hz), fun q h1 h2 => by rw [e1, hk q (Nat.lt_of_lt_of_le h1 hS.1) (fun z => h2 (hA q z))]; exact hS.2.1 q h1 h2, fun q hq => by
      rcases List.mem_append.mp hq with h | h
      · exact hS.2.2 q h
      · exact hA _ (hL q h)⟩ T' rfl X'
  exact ⟨t2, st t2 a1, b1⟩
theorem bl_blind {as : List Value} {σ : bl_S} : FrameBlind (va_Pc (as.map (bl_cv α)) (bl_Wd D α cA σ)) := by
  intro a U g mk h
  obtain ⟨h1, hP, hK, hi, hR⟩ := h
  exact ⟨h1, hP, va_K.moved (u := U) (U := U.calling g mk a) (Vm.Alike.refl U.vm) hK, hi, hR.calling⟩
theorem bl_split {st : List Value} {a : Nat} (h : a ≤ st.length) : st.map (bl_cv α) = ((bl_ar st a).map (bl_cv α)).reverse ++ (bl_dr st a).map (bl_cv α) := by
  unfold bl_ar bl_dr
  rw [← List.map_reverse, List.reverse_reverse, ← List.map_append, List.take_append_drop]
theorem bl_good {Y : bl_MI} (hY : Y ∈ bl_all) : GoodIn bl_gt (bl_wz Y) := fun w h => by
  rcases List.mem_cons.mp h with h | h
  · rw [h]; exact bl_gt_good _ (bl_code_ok Y hY)
  · exact bl_gt_good w h
theorem bl_world {M : bl_MI} (C : bl_CX M D α cA A p R s m args meth c cells slots) {H : Heap} {locs : List Loc} {σ : bl_S} (hP : va_P D vwCl (bl_ws α cA σ) H) (hS : va_S A s.heap H locs) (U : State) (hU : U.heap = H) (hW : s.WarmedH U.vm) : bl_Wd D α cA σ U := by
  obtain ⟨-, -, -, -, -, -, -, hK, hi, hA, hR, -⟩ := C
  have hAA : ∀ q, bl_A α q → A q := fun q hq => by
    obtain ⟨k, h1, rfl⟩ := hq
    exact hA k h1
  exact ⟨by rw [hU]; exact hP, va_K.moved hW.alike hK, hi, by rw [hU]; exact hR.at hS hAA hW⟩
theorem bl_AA {M : bl_MI} (C : bl_CX M D α cA A p R s m args meth c cells slots) : ∀ q, bl_A α q → A q := fun q hq => by
  obtain ⟨-, -, -, -, -, -, -, -, -, hA, -⟩ := C
  obtain ⟨k, h1, rfl⟩ := hq
  exact hA k h1
theorem bl_w8_le {st : List Value} (h : bl_w8 st = true) : (((st.map (bl_cv α))).map fun v => v.category).sum ≤ 8 := by
  have h1 := bl_ble h
  rw [List.map_map]
  rw [show ((fun v : Value => v.category) ∘ bl_cv α) = fun v : Value => v.category from funext fun v => bl_cv_cat α v]
  exact h1
/-- a call of a method of ours on an object -/
theorem bl_invV {M Y : bl_MI} {pc idx a b : Nat} {st : List Value} {ls : Array Slot} {H : Heap} {locs : List Loc} {σ σ' : bl_S} {r : Option Value} (C : bl_CX M D α cA A p R s m args meth c cells slots) (hP : va_P D vwCl (bl_ws α cA σ) H) (hS : va_S A s.heap H locs) (hsz : ls.size = M.2.2.1)
    (hY : Y ∈ bl_all) (hlk : ∀ w ∈ M.2.2.2.2.2.2, w ∈ bl_gt) (hdg : decode M.2.1 pc = .ok (.invokevirtual idx, 3)) (ha : 0 < a) (hcs : bl_cs st a = true) (hrc : bl_rcv (bl_ar st a) b)
    (h1 : Cond.methodLink M.1.cls idx Y.1 ∈ M.2.2.2.2.2.2) (h2 : Cond.instanceMethod Y.1 ∈ M.2.2.2.2.2.2) (h3 : Cond.selects Y.1.cls Y.1 Y.1 ∈ M.2.2.2.2.2.2) (h4 : Cond.initialized Y.1.cls ∈ M.2.2.2.2.2.2) (h5 : Y.1.cls ≠ "java/lang/invoke/MethodHandle" ∧ Y.1.cls ≠ "java/lang/invoke/VarHandle") (h6 : (parseMethodDescriptor Y.1.desc).map (fun d => d.parameters.length) = some (a - 1)) (h7 : Y.2.2.2.2.1 + 1 ≤ M.2.2.2.2.1) (h8 : 8 + (Y.2.2.1 + 11) + Y.2.2.2.2.2.1 ≤ M.2.2.2.2.2.1) (h9 : (vwCl[b]?).map (fun q => q.1) = some Y.1.cls) (h10 : b < 20)
    (hcon : bl_Con Y (bl_ar st a) σ r σ') (kk : ∀ (H1 : Heap) (locs1 : List Loc), va_P D vwCl (bl_ws α cA σ') H1 → va_S A s.heap H1 locs1 → W p l e R s m args below meth c H1 locs1 cells slots Qf (F0 m (pc + 3) ls ((r.map (bl_cv α)).toList ++ (bl_dr st a).map (bl_cv α)))) :
    W p l e R s m args below meth c H locs cells slots Qf (F0 m pc ls (st.map (bl_cv α))) := by
  obtain ⟨hx, hb, hml, hr, hlocks, hown, hts, hK, hi, hA, hR, hf, hlo, hce, hsl⟩ := id C
  unfold bl_cs at hcs
  rw [Bool.and_eq_true] at hcs
  have hlen : a ≤ st.length := bl_ble hcs.1
  rw [bl_split hlen]
  have hal : (bl_ar st a).length = a := by unfold bl_ar; simp; omega
  cases har : bl_ar st a with
  | nil => rw [har] at hal; simp at hal; omega
  | cons v0 as' =>
    rw [har] at hrc hal hcon
    cases v0 with
    | ref q =>
      have hq : bl_kd q = b := hrc
      have hqn := bl_lt hq (by omega)
      obtain ⟨⟨C0, T0, N0⟩, hv, hC0⟩ : ∃ t, vwCl[b]? = some t ∧ t.1 = Y.1.cls := by
        cases hh : vwCl[b]? with
        | none => rw [hh] at h9; cases h9
        | some t => rw [hh] at h9; exact ⟨t, rfl, Option.some.inj h9⟩
      have hC0 : C0 = Y.1.cls := hC0
      have hgood : GoodIn bl_gt (wsV M.1.cls idx Y.1.cls Y.1 (bl_wz Y)) := by
        intro w hw
        unfold wsV at hw
        rcases List.mem_append.mp hw with hw | hw
        · refine bl_gt_good w (hlk w ?_)
          simp only [List.mem_cons, List.not_mem_nil, or_false] at hw
          rcases hw with rfl | rfl | rfl | rfl <;> assumption
        · exact bl_good hY w hw
      refine bl_callW (va_runV (C := Y.1.cls) (As := as'.map (bl_cv α)) (rest := (bl_dr st a).map (bl_cv α)) (b := α q) ⟨hx, hb, hml, hown, hts⟩ (hcon l D α cA) (cwV (a - 1) hts hgood rfl rfl rfl ⟨rfl, h5.1, h5.2, h6⟩ ⟨by show Y.2.2.2.2.1 + 1 ≤ R.frames; omega, by show 8 + (Y.2.2.1 + 11) + Y.2.2.2.2.2.1 ≤ R.locals; omega⟩) ⟨bl_blind, ?_, fun U hU hW => ⟨rfl, bl_world C hP hS U hU hW⟩⟩ rfl (by rw [List.length_map]; simp at hal; omega) hsz (by show _ ++ _ = _; simp [bl_cv]) (lv_room (bl_w8_le hcs.2)) hdg ⟨by omega, by omega⟩) hS (bl_AA C) kk
      have := va_recv hK hP hv (by rw [bl_ws_at hqn, bl_cell_obj hq h10])
      rw [← hC0]
      exact this
    | _ => exact hrc.elim
/-- a call of a static method of ours -/
theorem bl_invS {M Y : bl_MI} {pc idx a : Nat} {st : List Value} {ls : Array Slot} {H : Heap} {locs : List Loc} {σ σ' : bl_S} {r : Option Value} (C : bl_CX M D α cA A p R s m args meth c cells slots) (hP : va_P D vwCl (bl_ws α cA σ) H) (hS : va_S A s.heap H locs) (hsz : ls.size = M.2.2.1)
    (hY : Y ∈ bl_all) (hlk : ∀ w ∈ M.2.2.2.2.2.2, w ∈ bl_gt) (hdg : decode M.2.1 pc = .ok (.invokestatic idx, 3)) (hcs : bl_cs st a = true)
    (h1 : Cond.methodLink M.1.cls idx Y.1 ∈ M.2.2.2.2.2.2 ∨ (M.1.cls = RX7 ∧ idx = 104 ∧ Y.1 = yX10_within)) (h2 : Cond.static Y.1 ∈ M.2.2.2.2.2.2) (h4 : Cond.initialized Y.1.cls ∈ M.2.2.2.2.2.2) (h5 : Y.1.cls ≠ "java/lang/invoke/MethodHandle" ∧ Y.1.cls ≠ "java/lang/invoke/VarHandle") (h6 : (parseMethodDescriptor Y.1.desc).map (fun d => d.parameters.length) = some a) (h7 : Y.2.2.2.2.1 + 1 ≤ M.2.2.2.2.1) (h8 : 8 + (Y.2.2.1 + 11) + Y.2.2.2.2.2.1 ≤ M.2.2.2.2.2.1)
    (hcon : bl_Con Y (bl_ar st a) σ r σ') (kk : ∀ (H1 : Heap) (locs1 : List Loc), va_P D vwCl (bl_ws α cA σ') H1 → va_S A s.heap H1 locs1 → W p l e R s m args below meth c H1 locs1 cells slots Qf (F0 m (pc + 3) ls ((r.map (bl_cv α)).toList ++ (bl_dr st a).map (bl_cv α)))) :
    W p l e R s m args below meth c H locs cells slots Qf (F0 m pc ls (st.map (bl_cv α))) := by
  obtain ⟨hx, hb, hml, hr, hlocks, hown, hts, hK, hi, hA, hR, hf, hlo, hce, hsl⟩ := id C
  unfold bl_cs at hcs
  rw [Bool.and_eq_true] at hcs
  have hlen : a ≤ st.length := bl_ble hcs.1
  rw [bl_split hlen]
  have hal : (bl_ar st a).length = a := by unfold bl_ar; simp; omega
  have hroom : (bl_rm Y).frames + 1 ≤ R.frames ∧ 8 + (Y.2.2.1 + 11) + (bl_rm Y).locals ≤ R.locals := ⟨by show Y.2.2.2.2.1 + 1 ≤ R.frames; omega, by show 8 + (Y.2.2.1 + 11) + Y.2.2.2.2.2.1 ≤ R.locals; omega⟩
  rcases h1 with h1 | ⟨g1, g2, g3⟩
  · have hgood : GoodIn bl_gt (va_wsS M.1.cls idx Y.1 (bl_wz Y)) := by
      intro w hw
      unfold va_wsS at hw
      rcases List.mem_append.mp hw with hw | hw
      · refine bl_gt_good w (hlk w ?_)
        simp only [List.mem_cons, List.not_mem_nil, or_false] at hw
        rcases hw with rfl | rfl | rfl <;> assumption
      · exact bl_good hY w hw
    exact bl_callW (va_runS (As := (bl_ar st a).map (bl_cv α)) (rest := (bl_dr st a).map (bl_cv α)) ⟨hx, hb, hml, hown, hts⟩ (hcon l D α cA) (va_cwS a hts hgood rfl rfl rfl ⟨h5.1, h5.2, h6⟩ hroom) ⟨bl_blind, fun U hU hW => ⟨rfl, bl_world C hP hS U hU hW⟩⟩ rfl (by rw [List.length_map]; exact hal) hsz rfl (lv_room (bl_w8_le hcs.2)) hdg ⟨by omega, by omega⟩) hS (bl_AA C) kk
  · have hn : va_Nw (.methodLinkNest M.1.cls idx Y.1 RX10) s := by rw [g1, g2, g3]; exact hR.2
    exact bl_callW (va_runSN (As := (bl_ar st a).map (bl_cv α)) (rest := (bl_dr st a).map (bl_cv α)) ⟨hx, hb, hml, hown, hts⟩ (hcon l D α cA) ⟨va_cnB a hts (bl_good hY) rfl rfl rfl hn (hts _ (hlk _ h4)) ⟨h5.1, h5.2, h6⟩ hroom, hts _ (hlk _ h2), trivial⟩ ⟨bl_blind, fun U hU hW => ⟨rfl, bl_world C hP hS U hU hW⟩⟩ rfl (by rw [List.length_map]; exact hal) hsz rfl (lv_room (bl_w8_le hcs.2)) hdg ⟨by omega, by omega⟩) hS (bl_AA C) kk
end BLC
end
section
theorem bl_ofInt {n : Int} (h1 : -2147483648 ≤ n) (h2 : n ≤ 2147483647) : (Int32.ofInt n).toInt = n := Int32.toInt_ofInt_of_le (by simpa using h1) (by omega)
theorem bl_table {pc : Nat} {lo hi : Int} {offs : Array Int} {sw : List (Int32 × Nat)} {x : Int32} {K : Nat → Prop} {d : Nat} {df : Int} (hd : (pc : Int) + df = (d : Int)) (hm : (List.range offs.size).map (fun k : Nat => (Int32.ofInt (lo + (k : Int)), (offs[k]?).map (fun o => (pc : Int) + o))) = sw.map (fun q => (q.1, some (q.2 : Int)))) (hh : hi = lo + offs.size - 1) (hb : -2147483648 ≤ lo ∧ hi ≤ 2147483647) (h : bl_sw x sw K d) :
    (∃ t : Nat, K t ∧ ∃ off : Int, ¬ x.toInt < lo ∧ ¬ hi < x.toInt ∧ offs[(x.toInt - lo).toNat]? = some off ∧ (pc : Int) + off = (t : Int)) ∨ ((x.toInt < lo ∨ hi < x.toInt) ∧ K d) := by
  have hat : ∀ k : Nat, (sw.map (fun q => (q.1, some (q.2 : Int))))[k]? = if k < offs.size then some (Int32.ofInt (lo + (k : Int)), (offs[k]?).map (fun o => (pc : Int) + o)) else none := by
    intro k
    rw [← hm]
    by_cases hk : k < offs.size
    · simp [hk]
    · rw [if_neg hk, List.getElem?_eq_none (by simp; omega)]
  rcases bl_sw_e h with ⟨k, q, h1, h2, -, h4⟩ | ⟨h1, h2⟩
  · have h5 := hat k
    rw [List.getElem?_map, h1] at h5
    by_cases hk : k < offs.size
    · rw [if_pos hk] at h5
      have h6 := Option.some.inj h5
      have h7 : q.1 = Int32.ofInt (lo + k) := congrArg Prod.fst h6
      have h8 : some (q.2 : Int) = (offs[k]?).map (fun o => (pc : Int) + o) := congrArg Prod.snd h6
      have hx : x.toInt = lo + k := by rw [h2, h7]; exact bl_ofInt (by omega) (by omega)
      rw [Array.getElem?_eq_getElem hk] at h8
      refine Or.inl ⟨q.2, h4, offs[k], by omega, by omega, ?_, (Option.some.inj h8).symm⟩
      rw [hx, show (lo + (k : Int) - lo).toNat = k by omega, Array.getElem?_eq_getElem hk]
    · rw [if_neg hk] at h5
      cases h5
  · by_cases hr : x.toInt < lo ∨ hi < x.toInt
    · exact Or.inr ⟨hr, h2⟩
    · exfalso
      have hk : (x.toInt - lo).toNat < offs.size := by omega
      have h5 := hat (x.toInt - lo).toNat
      rw [if_pos hk, List.getElem?_map] at h5
      cases hq : sw[(x.toInt - lo).toNat]? with
      | none => rw [hq] at h5; cases h5
      | some q =>
        rw [hq] at h5
        have h7 : q.1 = Int32.ofInt (lo + (x.toInt - lo).toNat) := congrArg Prod.fst (Option.some.inj h5)
        refine h1 q (List.mem_of_getElem? hq) ?_
        rw [h7, show lo + ((x.toInt - lo).toNat : Int) = x.toInt by omega, Int32.ofInt_toInt]
theorem bl_lookup {pc : Nat} {x : Int32} {K : Nat → Prop} {d : Nat} {df : Int} (hd : (pc : Int) + df = (d : Int)) : ∀ (ps : List (Int × Int)) (sw : List (Int32 × Nat)), ps.map (fun q => (Int32.ofInt q.1, (pc : Int) + q.2)) = sw.map (fun q => (q.1, (q.2 : Int))) → (∀ q ∈ ps, -2147483648 ≤ q.1 ∧ q.1 ≤ 2147483647) → bl_sw x sw K d → ∃ t : Nat, K t ∧ (pc : Int) + Op.lookupswitch.offset ps df x.toInt = (t : Int)
  | [], [], _, _, h => ⟨d, h, hd⟩
  | [], _ :: _, hm, _, _ => by simp at hm
  | _ :: _, [], hm, _, _ => by simp at hm
  | (a, o) :: ps, q :: sw, hm, hb, h => by
    rw [List.map_cons, List.map_cons] at hm
    injection hm with m1 m2
    have e1 : Int32.ofInt a = q.1 := congrArg Prod.fst m1
    have e2 : (pc : Int) + o = (q.2 : Int) := congrArg Prod.snd m1
    have hab := hb (a, o) List.mem_cons_self
    rw [Op.lookupswitch.offset_cons]
    by_cases hx : x = q.1
    · have : x.toInt = a := by rw [hx, ← e1]; exact bl_ofInt hab.1 hab.2
      rw [if_pos this.symm]
      exact ⟨q.2, h.1 hx, e2⟩
    · have : ¬ x.toInt = a := fun z => hx (by rw [← e1, ← z, Int32.ofInt_toInt])
      rw [if_neg (fun z => this z.symm)]
      exact bl_lookup hd ps sw m2 (fun q hq => hb q (List.mem_cons_of_mem _ hq)) (h.2 hx)
theorem bl_fld_e {M : bl_MI} {a b idx c : Nat} {put : Bool} (h : bl_fld M a b idx c put = true) : ∃ (C : String) (T : u_T) (N : Nat), vwCl[a]? = some (C, T, N) ∧ b < N ∧ Cond.fieldLink M.1.cls idx C (T b).2.1 (T b).2.2.1 ∈ M.2.2.2.2.2.2 ∧ (T b).1 = C ∧ bl_fr a b = Nat.beq c 1 ∧ (put = true → (T b).2.2.2 = false ∧ (T b).2.2.1 = if Nat.beq c 2 then "Z" else "I") := by
  unfold bl_fld at h
  split at h
  · next C T N hv =>
    simp only [Bool.and_eq_true, decide_eq_true_eq, beq_iff_eq] at h
    obtain ⟨⟨⟨⟨h1, h2⟩, h3⟩, h4⟩, h5⟩ := h
    refine ⟨C, T, N, hv, bl_blt h1, h2, h3, h4, fun hp => ?_⟩
    rw [hp] at h5
    simp only [Bool.not_true, Bool.false_or, Bool.and_eq_true, Bool.not_eq_true'] at h5
    refine ⟨h5.1, ?_⟩
    have h6 := h5.2
    cases hc : Nat.beq c 2
    · rw [hc] at h6
      simp only [cond_false, decide_eq_true_eq] at h6
      rw [if_neg (by simp)]
      exact h6
    · rw [hc] at h6
      simp only [cond_true, decide_eq_true_eq] at h6
      rw [if_pos rfl]
      exact h6
  · cases h
theorem bl_mth_e {M Y : bl_MI} {idx n c : Nat} (h : bl_mth M Y idx n c = true) : (Cond.methodLink M.1.cls idx Y.1 ∈ M.2.2.2.2.2.2 ∨ (M.1.cls = RX7 ∧ idx = 104 ∧ Y.1 = yX10_within)) ∧ Cond.initialized Y.1.cls ∈ M.2.2.2.2.2.2 ∧ (Y.1.cls ≠ "java/lang/invoke/MethodHandle" ∧ Y.1.cls ≠ "java/lang/invoke/VarHandle") ∧ (parseMethodDescriptor Y.1.desc).map (fun d => d.parameters.length) = some n ∧ Y.2.2.2.2.1 + 1 ≤ M.2.2.2.2.1 ∧ 8 + (Y.2.2.1 + 11) + Y.2.2.2.2.2.1 ≤ M.2.2.2.2.2.1 := by
  unfold bl_mth at h
  simp only [Bool.and_eq_true, decide_eq_true_eq] at h
  obtain ⟨⟨⟨⟨⟨h1, h2⟩, h3⟩, h4⟩, h5⟩, h6⟩ := h
  exact ⟨h1, h2, h3, h4, bl_ble h5, bl_ble h6⟩
end
section
theorem bl_ro_of {q : Nat} (h : bl_kd q = 26) : ∃ j, j < 4 ∧ q = bl_N + j := by
  have key : ∀ k, k < bl_N → bl_kd k ≠ 26 := by decide +kernel
  rcases Nat.lt_or_ge q bl_N with r | r
  · exact absurd h (key q r)
  · rcases Nat.lt_or_ge q (bl_N + 4) with r2 | r2
    · exact ⟨q - bl_N, by omega, by omega⟩
    · have : bl_kd q = 99 := by
        unfold bl_kd
        rw [List.getD_eq_getElem?_getD, List.getElem?_eq_none (by rw [bl_kd_len]; omega)]
        rfl
      omega
theorem bl_call_e {M : bl_MI} {c : Nat} {as : List Value} {σ : bl_S} {P : List Value → bl_S → Prop} (h : bl_call M c as σ P) : ∃ (r : Option Value) (τ : bl_S) (vs : List Value), bl_Con M as σ r τ ∧ (∀ α, vs.map (bl_cv α) = (r.map (bl_cv α)).toList) ∧ P vs τ := by
  unfold bl_call at h
  cases h0 : Nat.beq c 0 with
  | true =>
    rw [h0] at h
    obtain ⟨τ, h1, h2⟩ := h
    exact ⟨none, τ, [], h1, fun _ => rfl, h2⟩
  | false =>
    rw [h0] at h
    cases h3 : Nat.beq c 1 with
    | true =>
      rw [h3] at h
      obtain ⟨x, τ, h1, h2⟩ := h
      exact ⟨some (.int x), τ, [.int x], h1, fun _ => rfl, h2⟩
    | false =>
      rw [h3] at h
      obtain ⟨x, τ, h1, h2⟩ := h
      exact ⟨some (.ref x), τ, [.ref x], h1, fun _ => rfl, h2⟩
theorem bl_cpy_ws {α : Nat → Nat} {cA : Nat → ClassId} {σ : bl_S} {a0 a sp dp n : Nat} (h : bl_kd a = 20) : (bl_ws α cA σ).set a (α a, .inl (cA a, bl_ln a, .inl (va_cpy (σ a0) (σ a) sp dp n))) = bl_ws α cA (bl_cpy σ a0 a sp dp n) := by
  refine bl_ws_set (bl_lt h (by omega)) ?_ (fun c hc => by unfold bl_cpy; rw [if_neg hc])
  rw [bl_cell_arr h (by omega) (by omega)]
  unfold bl_cpy
  rw [if_pos rfl]
theorem bl_math_min : Cond.code Lib.Math.min.name Lib.Math.min.code 2 (some .int) ∈ bl_gt := bl_t1 (i := 133) rfl rfl
theorem bl_math_max : Cond.code Lib.Math.max.name Lib.Math.max.code 2 (some .int) ∈ bl_gt := bl_t3 (i := 19) rfl rfl
theorem bl_math_abs : Cond.code Lib.Math.abs.name Lib.Math.abs.code 1 (some .int) ∈ bl_gt := bl_t2 (i := 147) rfl rfl
set_option maxHeartbeats 4000000 in
theorem bl_intr {M : bl_MI} {es : List bl_En} {Q : Option Value → bl_S → Prop} {K : List bl_En → List (Nat × Value) → List Value → bl_S → Prop} (hM : ∀ w ∈ M.2.2.2.2.2.2, w ∈ bl_gt)
    {pc idx a b c0 d : Nat} {v : Int32} {w : Int64} {sw : List (Int32 × Nat)} {r : List bl_En} {lv : List (Nat × Value)} {st : List Value} {σ : bl_S} (hn : ∀ (lv : List (Nat × Value)) (st : List Value) (σ : bl_S), K r lv st σ → bl_Wx M (pc + 3) lv st σ Q) (hdg : decode M.2.1 pc = .ok (.invokestatic idx, 3)) (hc10 : Nat.blt c0 10 = false)
    (hc : (bif Nat.blt c0 10 then bl_mth M (bl_mi d) idx a c0 && decide (Cond.static (bl_mi d).1 ∈ M.2.2.2.2.2.2)
        else bif Nat.beq c0 13 then decide (Cond.methodLink M.1.cls idx arraycopyName ∈ M.2.2.2.2.2.2) && decide (Cond.static arraycopyName ∈ M.2.2.2.2.2.2) && decide (Cond.native arraycopyName ∈ M.2.2.2.2.2.2) && decide (Cond.initialized "java/lang/System" ∈ M.2.2.2.2.2.2) && Nat.ble 1 M.2.2.2.2.1 && Nat.ble 26 M.2.2.2.2.2.1
        else decide (Cond.initialized "java/lang/Math" ∈ M.2.2.2.2.2.2) && Nat.ble 1 M.2.2.2.2.1 && Nat.ble 21 M.2.2.2.2.2.1 && (
          bif Nat.beq c0 10 then decide (Cond.methodLink M.1.cls idx Lib.Math.min.name ∈ M.2.2.2.2.2.2) && decide (Cond.static Lib.Math.min.name ∈ M.2.2.2.2.2.2)
          else bif Nat.beq c0 11 then decide (Cond.methodLink M.1.cls idx Lib.Math.max.name ∈ M.2.2.2.2.2.2) && decide (Cond.static Lib.Math.max.name ∈ M.2.2.2.2.2.2)
          else bif Nat.beq c0 12 then decide (Cond.methodLink M.1.cls idx Lib.Math.abs.name ∈ M.2.2.2.2.2.2) && decide (Cond.static Lib.Math.abs.name ∈ M.2.2.2.2.2.2) else false)) = true)
    (h : bl_stp es K (pc, .invokestatic idx, 3, a, b, c0, d, v, w, sw) r lv st σ Q) : bl_Wx M pc lv st σ Q := by
  unfold bl_stp at h
  simp only [hc10, cond_false] at h hc
  cases h13 : Nat.beq c0 13 with
  | true =>
    cases bl_beq h13
    simp only [h13, cond_true, Bool.and_eq_true, decide_eq_true_eq] at hc
    obtain ⟨⟨⟨⟨⟨g1, g2⟩, g3⟩, g4⟩, g5⟩, g6⟩ := hc
    obtain ⟨a0, sp, q, dp, n, st2, hst, f1, f2, f3, f4, f5, f6, f7, hz⟩ := bl_pcopy_e h
    clear h
    subst hst
    have h := hz
    cases h8 : bl_w8 st2 with
    | false => rw [h8] at h; exact h.elim
    | true =>
      rw [h8] at h
      refine bl_go (hn _ _ _ h) (fun p l e R s m args below meth c cells slots Qf D α cA A C H locs ls hP hS hl k => ?_)
      have q1 := bl_lt f1 (by omega)
      have q2 := bl_lt f2 (by omega)
      have hw8 := bl_w8_le (α := α) h8
      refine va_copyi C.1 C.2.1 (C.2.2.1.trans hl.1.symm) C.2.2.2.2.2.1 (C.2.2.2.2.2.2.1 _ (hM _ g1)) (C.2.2.2.2.2.2.1 _ (hM _ g3)) (C.2.2.2.2.2.2.1 _ (hM _ g2)) (C.2.2.2.2.2.2.1 _ (hM _ g4)) C.2.2.2.2.2.2.2.1 hP (bl_D C.2.2.2.2.2.2.2.2.1 C.2.2.2.2.2.2.2.2.2.1) hS a0 q a0 q (by rw [bl_ws_at q1, bl_cell_arr f1 (by omega) (by omega)]) (by rw [bl_ws_at q2, bl_cell_arr f2 (by omega) (by omega)]) (ty := .int) (by rw [bl_tys_at q1]; unfold bl_aty; rw [f1]; rfl) (by rw [bl_tys_at q2]; unfold bl_aty; rw [f2]; rfl) rfl f3 f4 f5 f6 f7 (fun _ _ => rfl) (Nat.le_trans (bl_ble g5) C.2.2.2.2.2.2.2.2.2.2.2.1) ?_ hdg (fun H1 locs1 hP1 hD1 hS1 => ?_)
      · have e1 : nativeFrameWords "java/lang/System" "arraycopy" 5 = 7 := by decide
        have e2 := bl_ble g6
        have e3 := C.2.2.2.2.2.2.2.2.2.2.2.2.1
        rw [e1]
        omega
      · rw [bl_cpy_ws f2] at hP1
        exact k H1 locs1 ls hP1 hS1 hl
  | false =>
    simp only [h13, cond_false, Bool.and_eq_true, decide_eq_true_eq] at hc
    obtain ⟨⟨⟨g1, g2⟩, g3⟩, hc⟩ := hc
    have g3 := bl_ble g3
    cases h10 : Nat.beq c0 10 with
    | true =>
      simp only [h10, cond_true, Bool.and_eq_true, decide_eq_true_eq] at h hc
      obtain ⟨x, y, st2, hst, hz⟩ := bl_pii_e h
      clear h
      subst hst
      have h := hz
      cases h8 : bl_w8 st2 with
      | false => rw [h8] at h; exact h.elim
      | true =>
        rw [h8] at h
        refine bl_go (hn _ _ _ h) (fun p l e R s m args below meth c cells slots Qf D α cA A C H locs ls hP hS hl k => ?_)
        have hw8 := bl_w8_le (α := α) h8
        have e3 := C.2.2.2.2.2.2.2.2.2.2.2.2.1
        exact va_mmin C.1 C.2.1 (C.2.2.1.trans hl.1.symm) C.2.2.2.2.2.1 (C.2.2.2.2.2.2.1 _ (hM _ hc.1)) (C.2.2.2.2.2.2.1 _ (hM _ hc.2)) (C.2.2.2.2.2.2.1 _ (hM _ g1)) (C.2.2.2.2.2.2.1 _ bl_math_min) (Nat.le_trans (bl_ble g2) C.2.2.2.2.2.2.2.2.2.2.2.1) (by omega) C.2.2.2.2.2.2.2.2.2.2.2.2.2.1 C.2.2.2.2.2.2.2.2.2.2.2.2.2.2 hdg (k H locs ls hP hS hl)
    | false =>
      simp only [h10, cond_false] at h hc
      cases h11 : Nat.beq c0 11 with
      | true =>
        simp only [h11, cond_true, Bool.and_eq_true, decide_eq_true_eq] at h hc
        obtain ⟨x, y, st2, hst, hz⟩ := bl_pii_e h
        clear h
        subst hst
        have h := hz
        cases h8 : bl_w8 st2 with
        | false => rw [h8] at h; exact h.elim
        | true =>
          rw [h8] at h
          refine bl_go (hn _ _ _ h) (fun p l e R s m args below meth c cells slots Qf D α cA A C H locs ls hP hS hl k => ?_)
          have hw8 := bl_w8_le (α := α) h8
          have e3 := C.2.2.2.2.2.2.2.2.2.2.2.2.1
          exact va_mmax C.1 C.2.1 (C.2.2.1.trans hl.1.symm) C.2.2.2.2.2.1 (C.2.2.2.2.2.2.1 _ (hM _ hc.1)) (C.2.2.2.2.2.2.1 _ (hM _ hc.2)) (C.2.2.2.2.2.2.1 _ (hM _ g1)) (C.2.2.2.2.2.2.1 _ bl_math_max) (Nat.le_trans (bl_ble g2) C.2.2.2.2.2.2.2.2.2.2.2.1) (by omega) C.2.2.2.2.2.2.2.2.2.2.2.2.2.1 C.2.2.2.2.2.2.2.2.2.2.2.2.2.2 hdg (k H locs ls hP hS hl)
      | false =>
        simp only [h11, cond_false] at h hc
        cases h12 : Nat.beq c0 12 with
        | true =>
          simp only [h12, cond_true, Bool.and_eq_true, decide_eq_true_eq] at h hc
          obtain ⟨x, st2, hst, hz⟩ := bl_pi_e h
          clear h
          subst hst
          have h := hz
          cases h8 : bl_w8 st2 with
          | false => rw [h8] at h; exact h.elim
          | true =>
            rw [h8] at h
            refine bl_go (hn _ _ _ h) (fun p l e R s m args below meth c cells slots Qf D α cA A C H locs ls hP hS hl k => ?_)
            have hw8 := bl_w8_le (α := α) h8
            have e3 := C.2.2.2.2.2.2.2.2.2.2.2.2.1
            exact va_mabs C.1 C.2.1 (C.2.2.1.trans hl.1.symm) C.2.2.2.2.2.1 (C.2.2.2.2.2.2.1 _ (hM _ hc.1)) (C.2.2.2.2.2.2.1 _ (hM _ hc.2)) (C.2.2.2.2.2.2.1 _ (hM _ g1)) (C.2.2.2.2.2.2.1 _ bl_math_abs) (Nat.le_trans (bl_ble g2) C.2.2.2.2.2.2.2.2.2.2.2.1) (by omega) C.2.2.2.2.2.2.2.2.2.2.2.2.2.1 C.2.2.2.2.2.2.2.2.2.2.2.2.2.2 hdg (k H locs ls hP hS hl)
        | false =>
          simp only [h12, cond_false] at hc
          cases hc
set_option maxHeartbeats 4000000 in
theorem bl_stp_ok {M : bl_MI} {es : List bl_En} {Q : Option Value → bl_S → Prop} {K : List bl_En → List (Nat × Value) → List Value → bl_S → Prop} (hM : ∀ w ∈ M.2.2.2.2.2.2, w ∈ bl_gt)
    {e : bl_En} {r : List bl_En} {lv : List (Nat × Value)} {st : List Value} {σ : bl_S} (hn : ∀ (lv : List (Nat × Value)) (st : List Value) (σ : bl_S), K r lv st σ → bl_Wx M (e.1 + e.2.2.1) lv st σ Q) (hj : ∀ (t : Nat) (lv : List (Nat × Value)) (st : List Value) (σ : bl_S), K (bl_to es t) lv st σ → bl_Wx M t lv st σ Q)
    (hok : bl_ok M e = true) (h : bl_stp es K e r lv st σ Q) : bl_Wx M e.1 lv st σ Q := by
  obtain ⟨pc, i, len, a, b, c0, d, v, w, sw⟩ := e
  unfold bl_ok at hok
  rw [Bool.and_eq_true, decide_eq_true_eq] at hok
  obtain ⟨hdg, hc⟩ := hok
  have hn : ∀ (lv : List (Nat × Value)) (st : List Value) (σ : bl_S), K r lv st σ → bl_Wx M (pc + len) lv st σ Q := hn
  have hdg : decode M.2.1 pc = .ok (i, len) := hdg
  show bl_Wx M pc lv st σ Q
  cases i with
  | iconst n =>
    obtain ⟨h1, h2⟩ : Nat.beq len 1 = true ∧ Int32.ofInt n = v := by simpa only [bl_chk, Bool.and_eq_true, decide_eq_true_eq] using hc
    cases bl_beq h1
    refine bl_go (hn _ _ _ h) (fun p l e R s m args below meth c cells slots Qf D α cA A C H locs ls hP hS hl k => ?_)
    exact lv_iconst C.1 C.2.1 hdg h2 (k H locs ls hP hS hl)
  | bipush n =>
    obtain ⟨h1, h2⟩ : Nat.beq len 2 = true ∧ (Int8.ofInt n).toInt32 = v := by simpa only [bl_chk, Bool.and_eq_true, decide_eq_true_eq] using hc
    cases bl_beq h1
    refine bl_go (hn _ _ _ h) (fun p l e R s m args below meth c cells slots Qf D α cA A C H locs ls hP hS hl k => ?_)
    exact lv_bipush C.1 C.2.1 hdg h2 (k H locs ls hP hS hl)
  | sipush n =>
    obtain ⟨h1, h2⟩ : Nat.beq len 3 = true ∧ (Int16.ofInt n).toInt32 = v := by simpa only [bl_chk, Bool.and_eq_true, decide_eq_true_eq] using hc
    cases bl_beq h1
    refine bl_go (hn _ _ _ h) (fun p l e R s m args below meth c cells slots Qf D α cA A C H locs ls hP hS hl k => ?_)
    exact lv_sipush C.1 C.2.1 hdg h2 (k H locs ls hP hS hl)
  | lconst n =>
    obtain ⟨h1, h2⟩ : Nat.beq len 1 = true ∧ Int64.ofNat (n : Nat) = w := by simpa only [bl_chk, Bool.and_eq_true, decide_eq_true_eq] using hc
    cases bl_beq h1
    refine bl_go (hn _ _ _ h) (fun p l e R s m args below meth c cells slots Qf D α cA A C H locs ls hP hS hl k => ?_)
    exact lv_lconst C.1 C.2.1 hdg h2 (k H locs ls hP hS hl)
  | ldc n =>
    obtain ⟨h1, h2⟩ : Nat.beq len 2 = true ∧ Cond.constant M.1.cls n v ∈ M.2.2.2.2.2.2 := by simpa only [bl_chk, Bool.and_eq_true, decide_eq_true_eq] using hc
    cases bl_beq h1
    refine bl_go (hn _ _ _ h) (fun p l e R s m args below meth c cells slots Qf D α cA A C H locs ls hP hS hl k => ?_)
    exact lv_ldc C.1 C.2.1 C.2.2.2.2.2.1 (C.2.2.2.2.2.2.1 _ (hM _ h2)) hdg (k H locs ls hP hS hl)
  | ldc_w n =>
    obtain ⟨h1, h2⟩ : Nat.beq len 3 = true ∧ Cond.constant M.1.cls n v ∈ M.2.2.2.2.2.2 := by simpa only [bl_chk, Bool.and_eq_true, decide_eq_true_eq] using hc
    cases bl_beq h1
    refine bl_go (hn _ _ _ h) (fun p l e R s m args below meth c cells slots Qf D α cA A C H locs ls hP hS hl k => ?_)
    exact lv_ldcw C.1 C.2.1 C.2.2.2.2.2.1 (C.2.2.2.2.2.2.1 _ (hM _ h2)) hdg (k H locs ls hP hS hl)
  | ldc2_w n =>
    obtain ⟨h1, h2⟩ : Nat.beq len 3 = true ∧ Cond.constantLong M.1.cls n w ∈ M.2.2.2.2.2.2 := by simpa only [bl_chk, Bool.and_eq_true, decide_eq_true_eq] using hc
    cases bl_beq h1
    refine bl_go (hn _ _ _ h) (fun p l e R s m args below meth c cells slots Qf D α cA A C H locs ls hP hS hl k => ?_)
    exact lv_ldc2 C.1 C.2.1 C.2.2.2.2.2.1 (C.2.2.2.2.2.2.1 _ (hM _ h2)) hdg (k H locs ls hP hS hl)
  | iload_n n =>
    obtain ⟨h1, h2⟩ : Nat.beq len 1 = true ∧ Nat.beq (n : Nat) a = true := by simpa only [bl_chk, Bool.and_eq_true] using hc
    cases bl_beq h1
    obtain ⟨x, hx, h⟩ := bl_li_e h
    refine bl_go (hn _ _ _ h) (fun p l e R s m args below meth c cells slots Qf D α cA A C H locs ls hP hS hl k => ?_)
    exact lv_iload_n C.1 C.2.1 hdg (bl_beq h2) (bl_lk_has hl hx) (k H locs ls hP hS hl)
  | lload_n n =>
    obtain ⟨h1, h2⟩ : Nat.beq len 1 = true ∧ Nat.beq (n : Nat) a = true := by simpa only [bl_chk, Bool.and_eq_true] using hc
    cases bl_beq h1
    obtain ⟨x, hx, h⟩ := bl_ll_e h
    refine bl_go (hn _ _ _ h) (fun p l e R s m args below meth c cells slots Qf D α cA A C H locs ls hP hS hl k => ?_)
    exact lv_lload_n C.1 C.2.1 hdg (bl_beq h2) (bl_lk_has hl hx) (k H locs ls hP hS hl)
  | aload_n n =>
    obtain ⟨h1, h2⟩ : Nat.beq len 1 = true ∧ Nat.beq (n : Nat) a = true := by simpa only [bl_chk, Bool.and_eq_true] using hc
    cases bl_beq h1
    obtain ⟨x, hx, h⟩ := bl_lr_e h
    refine bl_go (hn _ _ _ h) (fun p l e R s m args below meth c cells slots Qf D α cA A C H locs ls hP hS hl k => ?_)
    exact lv_aload_n C.1 C.2.1 hdg (bl_beq h2) (bl_lk_has hl hx) (k H locs ls hP hS hl)
  | iload n =>
    obtain ⟨h1, h2⟩ : Nat.beq len 2 = true ∧ Nat.beq n a = true := by simpa only [bl_chk, Bool.and_eq_true] using hc
    cases bl_beq h1
    cases bl_beq h2
    obtain ⟨x, hx, h⟩ := bl_li_e h
    refine bl_go (hn _ _ _ h) (fun p l e R s m args below meth c cells slots Qf D α cA A C H locs ls hP hS hl k => ?_)
    exact lv_iload C.1 C.2.1 hdg (bl_lk_has hl hx) (k H locs ls hP hS hl)
  | lload n =>
    obtain ⟨h1, h2⟩ : Nat.beq len 2 = true ∧ Nat.beq n a = true := by simpa only [bl_chk, Bool.and_eq_true] using hc
    cases bl_beq h1
    cases bl_beq h2
    obtain ⟨x, hx, h⟩ := bl_ll_e h
    refine bl_go (hn _ _ _ h) (fun p l e R s m args below meth c cells slots Qf D α cA A C H locs ls hP hS hl k => ?_)
    exact lv_lload C.1 C.2.1 hdg (bl_lk_has hl hx) (k H locs ls hP hS hl)
  | aload n =>
    obtain ⟨h1, h2⟩ : Nat.beq len 2 = true ∧ Nat.beq n a = true := by simpa only [bl_chk, Bool.and_eq_true] using hc
    cases bl_beq h1
    cases bl_beq h2
    obtain ⟨x, hx, h⟩ := bl_lr_e h
    refine bl_go (hn _ _ _ h) (fun p l e R s m args below meth c cells slots Qf D α cA A C H locs ls hP hS hl k => ?_)
    exact lv_aload C.1 C.2.1 hdg (bl_lk_has hl hx) (k H locs ls hP hS hl)
  | istore_n n =>
    obtain ⟨⟨h1, h2⟩, h3⟩ : (Nat.beq len 1 = true ∧ Nat.beq (n : Nat) a = true) ∧ Nat.blt a M.2.2.1 = true := by simpa only [bl_chk, Bool.and_eq_true] using hc
    cases bl_beq h1
    obtain ⟨x, st2, hst, hz⟩ := bl_pi_e h
    clear h
    subst hst
    have h := hz
    refine bl_go (hn _ _ _ h) (fun p l e R s m args below meth c cells slots Qf D α cA A C H locs ls hP hS hl k => ?_)
    exact lv_istore_n C.1 C.2.1 hdg (bl_beq h2) hl (bl_blt h3) rfl (fun ls2 hl2 => k H locs ls2 hP hS (bl_s1_has hl2))
  | lstore_n n =>
    obtain ⟨⟨h1, h2⟩, h3⟩ : (Nat.beq len 1 = true ∧ Nat.beq (n : Nat) a = true) ∧ Nat.blt (a + 1) M.2.2.1 = true := by simpa only [bl_chk, Bool.and_eq_true] using hc
    cases bl_beq h1
    obtain ⟨x, st2, hst, hz⟩ := bl_pl_e h
    clear h
    subst hst
    have h := hz
    refine bl_go (hn _ _ _ h) (fun p l e R s m args below meth c cells slots Qf D α cA A C H locs ls hP hS hl k => ?_)
    exact lv_lstore_n C.1 C.2.1 hdg (bl_beq h2) hl (bl_blt h3) rfl (fun ls2 hl2 => k H locs ls2 hP hS (bl_s2_has hl2))
  | astore_n n =>
    obtain ⟨⟨h1, h2⟩, h3⟩ : (Nat.beq len 1 = true ∧ Nat.beq (n : Nat) a = true) ∧ Nat.blt a M.2.2.1 = true := by simpa only [bl_chk, Bool.and_eq_true] using hc
    cases bl_beq h1
    obtain ⟨x, st2, hst, hz⟩ := bl_pr_e h
    clear h
    subst hst
    have h := hz
    refine bl_go (hn _ _ _ h) (fun p l e R s m args below meth c cells slots Qf D α cA A C H locs ls hP hS hl k => ?_)
    exact lv_astore_n C.1 C.2.1 hdg (bl_beq h2) hl (bl_blt h3) rfl (fun ls2 hl2 => k H locs ls2 hP hS (bl_s1_has hl2))
  | istore n =>
    obtain ⟨⟨h1, h2⟩, h3⟩ : (Nat.beq len 2 = true ∧ Nat.beq n a = true) ∧ Nat.blt a M.2.2.1 = true := by simpa only [bl_chk, Bool.and_eq_true] using hc
    cases bl_beq h1
    cases bl_beq h2
    obtain ⟨x, st2, hst, hz⟩ := bl_pi_e h
    clear h
    subst hst
    have h := hz
    refine bl_go (hn _ _ _ h) (fun p l e R s m args below meth c cells slots Qf D α cA A C H locs ls hP hS hl k => ?_)
    exact lv_istore C.1 C.2.1 hdg hl (bl_blt h3) rfl (fun ls2 hl2 => k H locs ls2 hP hS (bl_s1_has hl2))
  | lstore n =>
    obtain ⟨⟨h1, h2⟩, h3⟩ : (Nat.beq len 2 = true ∧ Nat.beq n a = true) ∧ Nat.blt (a + 1) M.2.2.1 = true := by simpa only [bl_chk, Bool.and_eq_true] using hc
    cases bl_beq h1
    cases bl_beq h2
    obtain ⟨x, st2, hst, hz⟩ := bl_pl_e h
    clear h
    subst hst
    have h := hz
    refine bl_go (hn _ _ _ h) (fun p l e R s m args below meth c cells slots Qf D α cA A C H locs ls hP hS hl k => ?_)
    exact lv_lstore C.1 C.2.1 hdg hl (bl_blt h3) rfl (fun ls2 hl2 => k H locs ls2 hP hS (bl_s2_has hl2))
  | astore n =>
    obtain ⟨⟨h1, h2⟩, h3⟩ : (Nat.beq len 2 = true ∧ Nat.beq n a = true) ∧ Nat.blt a M.2.2.1 = true := by simpa only [bl_chk, Bool.and_eq_true] using hc
    cases bl_beq h1
    cases bl_beq h2
    obtain ⟨x, st2, hst, hz⟩ := bl_pr_e h
    clear h
    subst hst
    have h := hz
    refine bl_go (hn _ _ _ h) (fun p l e R s m args below meth c cells slots Qf D α cA A C H locs ls hP hS hl k => ?_)
    exact lv_astore C.1 C.2.1 hdg hl (bl_blt h3) rfl (fun ls2 hl2 => k H locs ls2 hP hS (bl_s1_has hl2))
  | iinc n q =>
    obtain ⟨⟨⟨h1, h2⟩, h3⟩, h4⟩ : ((Nat.beq len 3 = true ∧ Nat.beq n a = true) ∧ Nat.blt a M.2.2.1 = true) ∧ Int32.ofInt q = v := by simpa only [bl_chk, Bool.and_eq_true, decide_eq_true_eq] using hc
    cases bl_beq h1
    cases bl_beq h2
    obtain ⟨x, hx, h⟩ := bl_li_e h
    refine bl_go (hn _ _ _ h) (fun p l e R s m args below meth c cells slots Qf D α cA A C H locs ls hP hS hl k => ?_)
    obtain ⟨j, hj⟩ := List.getElem?_of_mem (List.mem_map.mpr ⟨_, bl_lk_mem hx, rfl⟩ : (a, bl_cv α (.int x)) ∈ bl_cl α lv)
    exact lv_iinc C.1 C.2.1 hdg hl hj (by rw [h4]) (bl_blt h3) rfl (fun ls2 hl2 => k H locs ls2 hP hS (bl_s1_has hl2))
  | iadd =>
    cases bl_beq (show Nat.beq len 1 = true from hc)
    obtain ⟨x, y, st2, hst, hz⟩ := bl_pii_e h
    clear h
    subst hst
    have h := hz
    refine bl_go (hn _ _ _ h) (fun p l e R s m args below meth c cells slots Qf D α cA A C H locs ls hP hS hl k => ?_)
    exact lv_iadd C.1 C.2.1 hdg (k H locs ls hP hS hl)
  | isub =>
    cases bl_beq (show Nat.beq len 1 = true from hc)
    obtain ⟨x, y, st2, hst, hz⟩ := bl_pii_e h
    clear h
    subst hst
    have h := hz
    refine bl_go (hn _ _ _ h) (fun p l e R s m args below meth c cells slots Qf D α cA A C H locs ls hP hS hl k => ?_)
    exact lv_isub C.1 C.2.1 hdg (k H locs ls hP hS hl)
  | imul =>
    cases bl_beq (show Nat.beq len 1 = true from hc)
    obtain ⟨x, y, st2, hst, hz⟩ := bl_pii_e h
    clear h
    subst hst
    have h := hz
    refine bl_go (hn _ _ _ h) (fun p l e R s m args below meth c cells slots Qf D α cA A C H locs ls hP hS hl k => ?_)
    exact lv_imul C.1 C.2.1 hdg (k H locs ls hP hS hl)
  | iand =>
    cases bl_beq (show Nat.beq len 1 = true from hc)
    obtain ⟨x, y, st2, hst, hz⟩ := bl_pii_e h
    clear h
    subst hst
    have h := hz
    refine bl_go (hn _ _ _ h) (fun p l e R s m args below meth c cells slots Qf D α cA A C H locs ls hP hS hl k => ?_)
    exact lv_iand C.1 C.2.1 hdg (k H locs ls hP hS hl)
  | ior =>
    cases bl_beq (show Nat.beq len 1 = true from hc)
    obtain ⟨x, y, st2, hst, hz⟩ := bl_pii_e h
    clear h
    subst hst
    have h := hz
    refine bl_go (hn _ _ _ h) (fun p l e R s m args below meth c cells slots Qf D α cA A C H locs ls hP hS hl k => ?_)
    exact lv_ior C.1 C.2.1 hdg (k H locs ls hP hS hl)
  | ixor =>
    cases bl_beq (show Nat.beq len 1 = true from hc)
    obtain ⟨x, y, st2, hst, hz⟩ := bl_pii_e h
    clear h
    subst hst
    have h := hz
    refine bl_go (hn _ _ _ h) (fun p l e R s m args below meth c cells slots Qf D α cA A C H locs ls hP hS hl k => ?_)
    exact lv_ixor C.1 C.2.1 hdg (k H locs ls hP hS hl)
  | ishl =>
    cases bl_beq (show Nat.beq len 1 = true from hc)
    obtain ⟨x, y, st2, hst, hz⟩ := bl_pii_e h
    clear h
    subst hst
    have h := hz
    refine bl_go (hn _ _ _ h) (fun p l e R s m args below meth c cells slots Qf D α cA A C H locs ls hP hS hl k => ?_)
    exact lv_ishl C.1 C.2.1 hdg (k H locs ls hP hS hl)
  | ishr =>
    cases bl_beq (show Nat.beq len 1 = true from hc)
    obtain ⟨x, y, st2, hst, hz⟩ := bl_pii_e h
    clear h
    subst hst
    have h := hz
    refine bl_go (hn _ _ _ h) (fun p l e R s m args below meth c cells slots Qf D α cA A C H locs ls hP hS hl k => ?_)
    exact lv_ishr C.1 C.2.1 hdg (k H locs ls hP hS hl)
  | idiv =>
    cases bl_beq (show Nat.beq len 1 = true from hc)
    obtain ⟨x, y, st2, hst, h0, hz⟩ := bl_pii_e h
    clear h
    subst hst
    have h := hz
    refine bl_go (hn _ _ _ h) (fun p l e R s m args below meth c cells slots Qf D α cA A C H locs ls hP hS hl k => ?_)
    exact lv_idiv C.1 C.2.1 hdg h0 (k H locs ls hP hS hl)
  | irem =>
    cases bl_beq (show Nat.beq len 1 = true from hc)
    obtain ⟨x, y, st2, hst, h0, hz⟩ := bl_pii_e h
    clear h
    subst hst
    have h := hz
    refine bl_go (hn _ _ _ h) (fun p l e R s m args below meth c cells slots Qf D α cA A C H locs ls hP hS hl k => ?_)
    exact lv_irem C.1 C.2.1 hdg h0 (k H locs ls hP hS hl)
  | ladd =>
    cases bl_beq (show Nat.beq len 1 = true from hc)
    obtain ⟨x, y, st2, hst, hz⟩ := bl_pll_e h
    clear h
    subst hst
    have h := hz
    refine bl_go (hn _ _ _ h) (fun p l e R s m args below meth c cells slots Qf D α cA A C H locs ls hP hS hl k => ?_)
    exact lv_ladd C.1 C.2.1 hdg (k H locs ls hP hS hl)
  | lsub =>
    cases bl_beq (show Nat.beq len 1 = true from hc)
    obtain ⟨x, y, st2, hst, hz⟩ := bl_pll_e h
    clear h
    subst hst
    have h := hz
    refine bl_go (hn _ _ _ h) (fun p l e R s m args below meth c cells slots Qf D α cA A C H locs ls hP hS hl k => ?_)
    exact lv_lsub C.1 C.2.1 hdg (k H locs ls hP hS hl)
  | lmul =>
    cases bl_beq (show Nat.beq len 1 = true from hc)
    obtain ⟨x, y, st2, hst, hz⟩ := bl_pll_e h
    clear h
    subst hst
    have h := hz
    refine bl_go (hn _ _ _ h) (fun p l e R s m args below meth c cells slots Qf D α cA A C H locs ls hP hS hl k => ?_)
    exact lv_lmul C.1 C.2.1 hdg (k H locs ls hP hS hl)
  | land =>
    cases bl_beq (show Nat.beq len 1 = true from hc)
    obtain ⟨x, y, st2, hst, hz⟩ := bl_pll_e h
    clear h
    subst hst
    have h := hz
    refine bl_go (hn _ _ _ h) (fun p l e R s m args below meth c cells slots Qf D α cA A C H locs ls hP hS hl k => ?_)
    exact lv_land C.1 C.2.1 hdg (k H locs ls hP hS hl)
  | lcmp =>
    cases bl_beq (show Nat.beq len 1 = true from hc)
    obtain ⟨x, y, st2, hst, hz⟩ := bl_pll_e h
    clear h
    subst hst
    have h := hz
    refine bl_go (hn _ _ _ h) (fun p l e R s m args below meth c cells slots Qf D α cA A C H locs ls hP hS hl k => ?_)
    exact W.lcmp C.1 C.2.1 hdg (k H locs ls hP hS hl)
  | ldiv =>
    cases bl_beq (show Nat.beq len 1 = true from hc)
    obtain ⟨x, y, st2, hst, h0, hz⟩ := bl_pll_e h
    clear h
    subst hst
    have h := hz
    refine bl_go (hn _ _ _ h) (fun p l e R s m args below meth c cells slots Qf D α cA A C H locs ls hP hS hl k => ?_)
    exact lv_ldiv C.1 C.2.1 hdg h0 (k H locs ls hP hS hl)
  | lrem =>
    cases bl_beq (show Nat.beq len 1 = true from hc)
    obtain ⟨x, y, st2, hst, h0, hz⟩ := bl_pll_e h
    clear h
    subst hst
    have h := hz
    refine bl_go (hn _ _ _ h) (fun p l e R s m args below meth c cells slots Qf D α cA A C H locs ls hP hS hl k => ?_)
    exact lv_lrem C.1 C.2.1 hdg h0 (k H locs ls hP hS hl)
  | i2l =>
    cases bl_beq (show Nat.beq len 1 = true from hc)
    obtain ⟨x, st2, hst, hz⟩ := bl_pi_e h
    clear h
    subst hst
    have h := hz
    refine bl_go (hn _ _ _ h) (fun p l e R s m args below meth c cells slots Qf D α cA A C H locs ls hP hS hl k => ?_)
    exact lv_i2l C.1 C.2.1 hdg rfl (k H locs ls hP hS hl)
  | l2i =>
    cases bl_beq (show Nat.beq len 1 = true from hc)
    obtain ⟨x, st2, hst, hz⟩ := bl_pl_e h
    clear h
    subst hst
    have h := hz
    refine bl_go (hn _ _ _ h) (fun p l e R s m args below meth c cells slots Qf D α cA A C H locs ls hP hS hl k => ?_)
    exact lv_l2i C.1 C.2.1 hdg rfl (k H locs ls hP hS hl)
  | i2c =>
    cases bl_beq (show Nat.beq len 1 = true from hc)
    obtain ⟨x, st2, hst, hz⟩ := bl_pi_e h
    clear h
    subst hst
    have h := hz
    refine bl_go (hn _ _ _ h) (fun p l e R s m args below meth c cells slots Qf D α cA A C H locs ls hP hS hl k => ?_)
    exact lv_i2c C.1 C.2.1 hdg rfl (k H locs ls hP hS hl)
  | dup =>
    cases bl_beq (show Nat.beq len 1 = true from hc)
    obtain ⟨x, st2, hst, h0, hz⟩ := bl_p1_e h
    clear h
    subst hst
    have h := hz
    refine bl_go (hn _ _ _ h) (fun p l e R s m args below meth c cells slots Qf D α cA A C H locs ls hP hS hl k => ?_)
    exact lv_dup C.1 C.2.1 hdg (by rw [bl_cv_cat]; exact h0) (k H locs ls hP hS hl)
  | pop =>
    cases bl_beq (show Nat.beq len 1 = true from hc)
    obtain ⟨x, st2, hst, h0, hz⟩ := bl_p1_e h
    clear h
    subst hst
    have h := hz
    refine bl_go (hn _ _ _ h) (fun p l e R s m args below meth c cells slots Qf D α cA A C H locs ls hP hS hl k => ?_)
    exact lv_pop C.1 C.2.1 hdg (by rw [bl_cv_cat]; exact h0) (k H locs ls hP hS hl)
  | dup2 =>
    cases bl_beq (show Nat.beq len 1 = true from hc)
    obtain ⟨x, y, st2, hst, h0, h1, hz⟩ := bl_p2_e h
    clear h
    subst hst
    have h := hz
    refine bl_go (hn _ _ _ h) (fun p l e R s m args below meth c cells slots Qf D α cA A C H locs ls hP hS hl k => ?_)
    exact lv_dup2_11 C.1 C.2.1 hdg (by rw [bl_cv_cat]; exact h0) (by rw [bl_cv_cat]; exact h1) (k H locs ls hP hS hl)
  | goto off =>
    obtain ⟨h1, h2⟩ : Nat.beq len 3 = true ∧ (pc : Int) + off = (a : Int) := by simpa only [bl_chk, bl_tgt, Bool.and_eq_true, decide_eq_true_eq] using hc
    cases bl_beq h1
    refine bl_go (hj _ _ _ _ h) (fun p l e R s m args below meth c cells slots Qf D α cA A C H locs ls hP hS hl k => ?_)
    exact lv_goto C.1 C.2.1 hdg h2 (k H locs ls hP hS hl)
  | ifCond cd off =>
    obtain ⟨h1, h2⟩ : Nat.beq len 3 = true ∧ (pc : Int) + off = (a : Int) := by simpa only [bl_chk, bl_tgt, Bool.and_eq_true, decide_eq_true_eq] using hc
    cases bl_beq h1
    obtain ⟨x, st2, hst, hz⟩ := bl_pi_e h
    clear h
    subst hst
    have h := hz
    intro p l e R s m args below meth c cells slots Qf D α cA A C hret H locs ls hP hS hl
    cases cd with
    | eq => exact lv_if_eq C.1 C.2.1 hdg h2 (fun q => (hj _ _ _ _ (h.1 q) p l e R s m args below meth c cells slots Qf D α cA A C hret H locs ls hP hS hl)) (fun q => (hn _ _ _ (h.2 q) p l e R s m args below meth c cells slots Qf D α cA A C hret H locs ls hP hS hl))
    | ne => exact lv_if_ne C.1 C.2.1 hdg h2 (fun q => (hj _ _ _ _ (h.2 q) p l e R s m args below meth c cells slots Qf D α cA A C hret H locs ls hP hS hl)) (fun q => (hn _ _ _ (h.1 q) p l e R s m args below meth c cells slots Qf D α cA A C hret H locs ls hP hS hl))
    | lt => exact lv_if_lt C.1 C.2.1 hdg h2 (fun q => (hj _ _ _ _ (h.1 q) p l e R s m args below meth c cells slots Qf D α cA A C hret H locs ls hP hS hl)) (fun q => (hn _ _ _ (h.2 q) p l e R s m args below meth c cells slots Qf D α cA A C hret H locs ls hP hS hl))
    | ge => exact lv_if_ge C.1 C.2.1 hdg h2 (fun q => (hj _ _ _ _ (h.2 (Int32.not_lt.mpr q)) p l e R s m args below meth c cells slots Qf D α cA A C hret H locs ls hP hS hl)) (fun q => (hn _ _ _ (h.1 (Int32.not_le.mp q)) p l e R s m args below meth c cells slots Qf D α cA A C hret H locs ls hP hS hl))
    | gt => exact lv_if_gt C.1 C.2.1 hdg h2 (fun q => (hj _ _ _ _ (h.1 q) p l e R s m args below meth c cells slots Qf D α cA A C hret H locs ls hP hS hl)) (fun q => (hn _ _ _ (h.2 q) p l e R s m args below meth c cells slots Qf D α cA A C hret H locs ls hP hS hl))
    | le => exact lv_if_le C.1 C.2.1 hdg h2 (fun q => (hj _ _ _ _ (h.2 (Int32.not_lt.mpr q)) p l e R s m args below meth c cells slots Qf D α cA A C hret H locs ls hP hS hl)) (fun q => (hn _ _ _ (h.1 (Int32.not_le.mp q)) p l e R s m args below meth c cells slots Qf D α cA A C hret H locs ls hP hS hl))
  | if_icmp cd off =>
    obtain ⟨h1, h2⟩ : Nat.beq len 3 = true ∧ (pc : Int) + off = (a : Int) := by simpa only [bl_chk, bl_tgt, Bool.and_eq_true, decide_eq_true_eq] using hc
    cases bl_beq h1
    obtain ⟨x, y, st2, hst, hz⟩ := bl_pii_e h
    clear h
    subst hst
    have h := hz
    intro p l e R s m args below meth c cells slots Qf D α cA A C hret H locs ls hP hS hl
    cases cd with
    | eq => exact lv_icmp_eq C.1 C.2.1 hdg h2 (fun q => (hj _ _ _ _ (h.1 q) p l e R s m args below meth c cells slots Qf D α cA A C hret H locs ls hP hS hl)) (fun q => (hn _ _ _ (h.2 q) p l e R s m args below meth c cells slots Qf D α cA A C hret H locs ls hP hS hl))
    | ne => exact lv_icmp_ne C.1 C.2.1 hdg h2 (fun q => (hj _ _ _ _ (h.2 q) p l e R s m args below meth c cells slots Qf D α cA A C hret H locs ls hP hS hl)) (fun q => (hn _ _ _ (h.1 q) p l e R s m args below meth c cells slots Qf D α cA A C hret H locs ls hP hS hl))
    | lt => exact lv_icmp_lt C.1 C.2.1 hdg h2 (fun q => (hj _ _ _ _ (h.1 q) p l e R s m args below meth c cells slots Qf D α cA A C hret H locs ls hP hS hl)) (fun q => (hn _ _ _ (h.2 q) p l e R s m args below meth c cells slots Qf D α cA A C hret H locs ls hP hS hl))
    | ge => exact lv_icmp_ge C.1 C.2.1 hdg h2 (fun q => (hj _ _ _ _ (h.2 (Int32.not_lt.mpr q)) p l e R s m args below meth c cells slots Qf D α cA A C hret H locs ls hP hS hl)) (fun q => (hn _ _ _ (h.1 (Int32.not_le.mp q)) p l e R s m args below meth c cells slots Qf D α cA A C hret H locs ls hP hS hl))
    | gt => exact lv_icmp_gt C.1 C.2.1 hdg h2 (fun q => (hj _ _ _ _ (h.1 q) p l e R s m args below meth c cells slots Qf D α cA A C hret H locs ls hP hS hl)) (fun q => (hn _ _ _ (h.2 q) p l e R s m args below meth c cells slots Qf D α cA A C hret H locs ls hP hS hl))
    | le => exact lv_icmp_le C.1 C.2.1 hdg h2 (fun q => (hj _ _ _ _ (h.2 (Int32.not_lt.mpr q)) p l e R s m args below meth c cells slots Qf D α cA A C hret H locs ls hP hS hl)) (fun q => (hn _ _ _ (h.1 (Int32.not_le.mp q)) p l e R s m args below meth c cells slots Qf D α cA A C hret H locs ls hP hS hl))
  | tableswitch df lo hi offs =>
    simp only [bl_chk, bl_tgt, Bool.and_eq_true, decide_eq_true_eq] at hc
    obtain ⟨⟨⟨g1, g2⟩, g3⟩, g4⟩ := hc
    obtain ⟨x, st2, hst, hz⟩ := bl_pi_e h
    clear h
    subst hst
    have h := hz
    intro p l e R s m args below meth c cells slots Qf D α cA A C hret H locs ls hP hS hl
    rcases bl_table g1 g2 g3 g4 h with ⟨t, h, off, f1, f2, f3, f4⟩ | ⟨f1, h⟩
    · exact lv_tableIn C.1 C.2.1 hdg f1 f2 f3 f4 (hj _ _ _ _ h p l e R s m args below meth c cells slots Qf D α cA A C hret H locs ls hP hS hl)
    · exact lv_tableOut C.1 C.2.1 hdg f1 g1 (hj _ _ _ _ h p l e R s m args below meth c cells slots Qf D α cA A C hret H locs ls hP hS hl)
  | lookupswitch df ps =>
    simp only [bl_chk, bl_tgt, Bool.and_eq_true, decide_eq_true_eq] at hc
    obtain ⟨⟨⟨g1, g2⟩, g3⟩, g4⟩ := hc
    obtain ⟨x, st2, hst, hz⟩ := bl_pi_e h
    clear h
    subst hst
    have h := hz
    intro p l e R s m args below meth c cells slots Qf D α cA A C hret H locs ls hP hS hl
    obtain ⟨t, h, f1⟩ := bl_lookup g1 ps.toList sw g2 (fun q hq => by have := List.all_eq_true.mp g4 q hq; simpa only [decide_eq_true_eq] using this) h
    exact lv_lookup C.1 C.2.1 hdg g3 rfl f1 (hj _ _ _ _ h p l e R s m args below meth c cells slots Qf D α cA A C hret H locs ls hP hS hl)
  | getfield idx =>
    simp only [bl_chk, Bool.and_eq_true] at hc
    obtain ⟨⟨g1, g2⟩, g3⟩ := hc
    cases bl_beq g1
    obtain ⟨CC, T, N, hv, hb, hlk, hT, hfr, -⟩ := bl_fld_e g2
    obtain ⟨q, st2, hst, hq, hz⟩ := bl_pr_e h
    clear h
    subst hst
    have h := hz
    refine bl_go (hn _ _ _ h) (fun p l e R s m args below meth c cells slots Qf D α cA A C H locs ls hP hS hl k => ?_)
    have hN := bl_ln_of hq (bl_blt g3) hv
    refine va_get C.1 C.2.1 C.2.2.2.2.2.2.1 (bl_cls_ws _ _ _ _ hv) C.2.2.2.2.2.1 C.2.2.2.2.2.2.2.1 hP q (by rw [bl_ws_at (bl_lt hq (by have := bl_blt g3; omega)), bl_cell_obj hq (bl_blt g3)]) hv b hb (C.2.2.2.2.2.2.1 _ (hM _ hlk)) (fun x hx => by rw [hT] at hx; exact hx) (v := bl_cv α (bif Nat.beq c0 1 then Value.ref (bl_rf q b) else Value.int (σ q b))) ?_ hdg (k H locs ls hP hS hl)
    rw [hN, List.getElem?_map, List.getElem?_range hb, Option.map_some, hfr]
    cases Nat.beq c0 1 <;> rfl
  | putfield idx =>
    simp only [bl_chk, Bool.and_eq_true, Bool.not_eq_true'] at hc
    obtain ⟨⟨⟨g1, g2⟩, g3⟩, g4⟩ := hc
    cases bl_beq g1
    obtain ⟨CC, T, N, hv, hb, hlk, hT, hfr, hpt⟩ := bl_fld_e g2
    obtain ⟨hfin, hds⟩ := hpt rfl
    obtain ⟨q, x, st2, hst, hq, hz⟩ := bl_pir_e h
    clear h
    subst hst
    have h := hz
    have hN := bl_ln_of hq (bl_blt g3) hv
    rw [g4] at hfr
    have hK : K r lv st2 (bl_up σ q b x) ∧ ∃ ty, parseFieldDescriptor (T b).2.2.1 = some ty ∧ narrow ty (.int x) = .int x ∧ fits ty (.int x) = true := by
      rw [hds]
      cases hc2 : Nat.beq c0 2 with
      | true =>
        rw [hc2] at h
        exact ⟨h.2, .boolean, by decide, (bl_bool h.1).1, (bl_bool h.1).2⟩
      | false =>
        rw [hc2] at h
        exact ⟨h, .int, by decide, rfl, rfl⟩
    obtain ⟨h, ty, t1, t2, t3⟩ := hK
    refine bl_go (hn _ _ _ h) (fun p l e R s m args below meth c cells slots Qf D α cA A C H locs ls hP hS hl k => ?_)
    refine va_put C.1 C.2.1 C.2.2.2.2.2.2.1 (bl_cls_ws _ _ _ _ hv) _ (bl_cls_ty _ _ _ _ hv) (bl_cls_nm _ _ _ _ hv) C.2.2.2.2.2.1 C.2.2.2.2.2.2.2.1 hP (bl_D C.2.2.2.2.2.2.2.2.1 C.2.2.2.2.2.2.2.2.2.1) hS q (by rw [bl_ws_at (bl_lt hq (by have := bl_blt g3; omega)), bl_cell_obj hq (bl_blt g3)]) hv b hb (C.2.2.2.2.2.2.1 _ (hM _ hlk)) (fun x hx => by rw [hT] at hx; exact hx) hfin t1 t2 t3 (by rw [List.length_map, List.length_range, hN]; exact hb) hdg (fun H1 locs1 hP1 hD1 hS1 => ?_)
    rw [show bl_cv α (Value.int x) = Value.int x from rfl, bl_ws_put hq (bl_blt g3) hfr] at hP1
    exact k H1 locs1 ls hP1 hS1 hl
  | iaload =>
    cases bl_beq (show Nat.beq len 1 = true from hc)
    obtain ⟨q, i, st2, hst, hz⟩ := bl_pir_e h
    clear h
    subst hst
    have h := hz
    cases hcc : Nat.beq c0 1 with
    | true =>
      rw [hcc] at h
      obtain ⟨hq, hin, h⟩ : bl_kd q = 26 ∧ vp_in i (bl_ln q) ∧ K r lv (.int (bl_ro q i.toNatClampNeg) :: st2) σ := h
      obtain ⟨j, hj, rfl⟩ : ∃ j, j < 4 ∧ q = bl_N + j := bl_ro_of hq
      refine bl_go (hn _ _ _ h) (fun p l e R s m args below meth c cells slots Qf D α cA A C H locs ls hP hS hl k => ?_)
      exact va_ti C.1 C.2.1 (C.2.2.2.2.2.2.2.2.2.2.1.1 j hj).2 hS hin rfl hdg (k H locs ls hP hS hl)
    | false =>
      rw [hcc] at h
      obtain ⟨hq, hin, h⟩ : bl_kd q = 20 ∧ vp_in i (bl_ln q) ∧ K r lv (.int (σ q i.toNatClampNeg) :: st2) σ := h
      have hqn := bl_lt hq (by omega)
      refine bl_go (hn _ _ _ h) (fun p l e R s m args below meth c cells slots Qf D α cA A C H locs ls hP hS hl k => ?_)
      exact va_iald C.1 C.2.1 C.2.2.2.2.2.2.2.1 hP q q (by rw [bl_ws_at hqn, bl_cell_arr hq (by omega) (by omega)]) (by rw [bl_tys_at hqn]; unfold bl_aty; rw [hq]; rfl) hin hdg (k H locs ls hP hS hl)
  | caload =>
    cases bl_beq (show Nat.beq len 1 = true from hc)
    obtain ⟨q, i, st2, hst, hq, hin, hz⟩ := bl_pir_e h
    clear h
    subst hst
    have h := hz
    have hqn := bl_lt hq (by omega)
    refine bl_go (hn _ _ _ h) (fun p l e R s m args below meth c cells slots Qf D α cA A C H locs ls hP hS hl k => ?_)
    exact va_cald C.1 C.2.1 C.2.2.2.2.2.2.2.1 hP q q (by rw [bl_ws_at hqn, bl_cell_arr hq (by omega) (by omega)]) (by rw [bl_tys_at hqn]; unfold bl_aty; rw [hq]; rfl) hin hdg (k H locs ls hP hS hl)
  | baload =>
    cases bl_beq (show Nat.beq len 1 = true from hc)
    obtain ⟨q, i, st2, hst, hq, hin, hz⟩ := bl_pir_e h
    clear h
    subst hst
    have h := hz
    have hqn := bl_lt hq (by omega)
    refine bl_go (hn _ _ _ h) (fun p l e R s m args below meth c cells slots Qf D α cA A C H locs ls hP hS hl k => ?_)
    exact va_zald C.1 C.2.1 C.2.2.2.2.2.2.2.1 hP q q (by rw [bl_ws_at hqn, bl_cell_arr hq (by omega) (by omega)]) (by rw [bl_tys_at hqn]; unfold bl_aty; rw [hq]; rfl) hin hdg (k H locs ls hP hS hl)
  | aaload =>
    simp only [bl_chk, Bool.and_eq_true] at hc
    obtain ⟨⟨g1, g2⟩, g3⟩ := hc
    cases bl_beq g1
    have g2 := bl_ble g2
    have g3 := bl_blt g3
    obtain ⟨q, i, st2, hst, hq, hin, hz⟩ := bl_pir_e h
    clear h
    subst hst
    have h := hz
    have hqn := bl_lt hq g3
    have hty : ∃ CC, bl_aty q = .object CC := by
      unfold bl_aty
      rw [hq]
      rcases (show a = 23 ∨ a = 24 ∨ a = 25 by omega) with rfl | rfl | rfl
      · exact ⟨_, rfl⟩
      · exact ⟨_, rfl⟩
      · exact ⟨_, rfl⟩
    obtain ⟨CC, hty⟩ := hty
    refine bl_go (hn _ _ _ h) (fun p l e R s m args below meth c cells slots Qf D α cA A C H locs ls hP hS hl k => ?_)
    exact va_aldq (f := fun j => some (α (bl_rf q j))) C.1 C.2.1 C.2.2.2.2.2.2.2.1 hP q q (by rw [bl_ws_at hqn, bl_cell_refs hq g2]) (by rw [bl_tys_at hqn, hty]) hin hdg (k H locs ls hP hS hl)
  | iastore =>
    cases bl_beq (show Nat.beq len 1 = true from hc)
    obtain ⟨q, i, x, st2, hst, hq, hin, hz⟩ := bl_piir_e h
    clear h
    subst hst
    have h := hz
    have hqn := bl_lt hq (by omega)
    refine bl_go (hn _ _ _ h) (fun p l e R s m args below meth c cells slots Qf D α cA A C H locs ls hP hS hl k => ?_)
    exact va_iast C.1 C.2.1 C.2.2.2.2.2.2.2.1 hP (bl_D C.2.2.2.2.2.2.2.2.1 C.2.2.2.2.2.2.2.2.2.1) hS q q (by rw [bl_ws_at hqn, bl_cell_arr hq (by omega) (by omega)]) (by rw [bl_tys_at hqn]; unfold bl_aty; rw [hq]; rfl) hin hdg (fun H1 locs1 hP1 hD1 hS1 => k H1 locs1 ls (by rw [bl_ws_ast hq (by omega) (by omega)] at hP1; exact hP1) hS1 hl)
  | castore =>
    cases bl_beq (show Nat.beq len 1 = true from hc)
    obtain ⟨q, i, x, st2, hst, hq, hin, hz⟩ := bl_piir_e h
    clear h
    subst hst
    have h := hz
    have hqn := bl_lt hq (by omega)
    refine bl_go (hn _ _ _ h) (fun p l e R s m args below meth c cells slots Qf D α cA A C H locs ls hP hS hl k => ?_)
    exact va_cast C.1 C.2.1 C.2.2.2.2.2.2.2.1 hP (bl_D C.2.2.2.2.2.2.2.2.1 C.2.2.2.2.2.2.2.2.2.1) hS q q (by rw [bl_ws_at hqn, bl_cell_arr hq (by omega) (by omega)]) (by rw [bl_tys_at hqn]; unfold bl_aty; rw [hq]; rfl) hin hdg (fun H1 locs1 hP1 hD1 hS1 => k H1 locs1 ls (by rw [bl_ws_ast hq (by omega) (by omega)] at hP1; exact hP1) hS1 hl)
  | bastore =>
    cases bl_beq (show Nat.beq len 1 = true from hc)
    obtain ⟨q, i, x, st2, hst, hq, hin, hz⟩ := bl_piir_e h
    clear h
    subst hst
    have h := hz
    have hqn := bl_lt hq (by omega)
    refine bl_go (hn _ _ _ h) (fun p l e R s m args below meth c cells slots Qf D α cA A C H locs ls hP hS hl k => ?_)
    exact va_zast C.1 C.2.1 C.2.2.2.2.2.2.2.1 hP (bl_D C.2.2.2.2.2.2.2.2.1 C.2.2.2.2.2.2.2.2.2.1) hS q q (by rw [bl_ws_at hqn, bl_cell_arr hq (by omega) (by omega)]) (by rw [bl_tys_at hqn]; unfold bl_aty; rw [hq]; rfl) hin hdg (fun H1 locs1 hP1 hD1 hS1 => k H1 locs1 ls (by rw [bl_ws_ast hq (by omega) (by omega)] at hP1; exact hP1) hS1 hl)
  | arraylength =>
    simp only [bl_chk, Bool.and_eq_true, Bool.or_eq_true] at hc
    obtain ⟨g1, g2⟩ := hc
    cases bl_beq g1
    obtain ⟨q, st2, hst, hq, hz⟩ := bl_pr_e h
    clear h
    subst hst
    have h := hz
    rcases g2 with g2 | g2
    · cases bl_beq g2
      have hqn := bl_lt hq (by omega)
      refine bl_go (hn _ _ _ h) (fun p l e R s m args below meth c cells slots Qf D α cA A C H locs ls hP hS hl k => ?_)
      exact va_alen (x := (bl_ln q, .inl (σ q))) C.1 C.2.1 C.2.2.2.2.2.2.2.1 hP q q (by rw [bl_ws_at hqn, bl_cell_arr hq (by omega) (by omega)]) (bl_tys_at hqn) rfl hdg (k H locs ls hP hS hl)
    · cases bl_beq g2
      obtain ⟨j, hj, rfl⟩ : ∃ j, j < 4 ∧ q = bl_N + j := bl_ro_of hq
      refine bl_go (hn _ _ _ h) (fun p l e R s m args below meth c cells slots Qf D α cA A C H locs ls hP hS hl k => ?_)
      exact va_tlen C.1 C.2.1 (C.2.2.2.2.2.2.2.2.2.2.1.1 j hj).2 hS rfl hdg (k H locs ls hP hS hl)
  | getstatic idx =>
    simp only [bl_chk, Bool.and_eq_true, decide_eq_true_eq] at hc
    obtain ⟨⟨g1, g2⟩, g3⟩ := hc
    cases bl_beq g1
    refine bl_go (hn _ _ _ h) (fun p l e R s m args below meth c cells slots Qf D α cA A C H locs ls hP hS hl k => ?_)
    exact va_gets C.1 C.2.1 (C.2.2.2.2.2.2.2.2.2.2.1.1 a (bl_blt g2)).1 hS C.2.2.2.2.2.1 (C.2.2.2.2.2.2.1 _ (hM _ g3)) (fun x hx => hx) hdg (k H locs ls hP hS hl)
  | invokevirtual idx =>
    simp only [bl_chk, Bool.and_eq_true, decide_eq_true_eq] at hc
    obtain ⟨⟨⟨⟨⟨⟨⟨g1, g2⟩, g3⟩, g4⟩, g5⟩, g6⟩, g7⟩, g8⟩ := hc
    cases bl_beq g1
    obtain ⟨m1, m2, m3, m4, m5, m6⟩ := bl_mth_e g2
    obtain ⟨hrc, h⟩ := h
    cases hcs : bl_cs st a with
    | false => rw [hcs] at h; exact h.elim
    | true =>
      rw [hcs] at h
      have h : bl_call (bl_mi d) c0 (bl_ar st a) σ (fun vs τ => K r lv (vs ++ bl_dr st a) τ) := h
      obtain ⟨r0, τ, vs, hcon, hvs, h⟩ := bl_call_e h
      intro p l e R s m args below meth c cells slots Qf D α cA A C hret H locs ls hP hS hl
      refine bl_invV C hP hS hl.1 (bl_mi_in d) hM hdg (bl_blt g3) hcs hrc g4 g5 g6 m2 m3 m4 m5 m6 g7 (bl_blt g8) hcon (fun H1 locs1 hP1 hS1 => ?_)
      have := hn _ _ _ h p l e R s m args below meth c cells slots Qf D α cA A C hret H1 locs1 ls hP1 hS1 hl
      rw [List.map_append, hvs α] at this
      exact this
  | invokestatic idx =>
    simp only [bl_chk, Bool.and_eq_true] at hc
    obtain ⟨g1, hc⟩ := hc
    cases bl_beq g1
    cases hc10 : Nat.blt c0 10 with
    | true =>
      have h : bif bl_cs st a then bl_call (bl_mi d) c0 (bl_ar st a) σ (fun vs τ => K r lv (vs ++ bl_dr st a) τ) else False := by have := h; unfold bl_stp at this; simp only [hc10, cond_true] at this; exact this
      rw [hc10] at hc
      simp only [cond_true, Bool.and_eq_true, decide_eq_true_eq] at hc
      obtain ⟨g2, g3⟩ := hc
      obtain ⟨m1, m2, m3, m4, m5, m6⟩ := bl_mth_e g2
      cases hcs : bl_cs st a with
      | false => rw [hcs] at h; exact h.elim
      | true =>
        rw [hcs] at h
        have h : bl_call (bl_mi d) c0 (bl_ar st a) σ (fun vs τ => K r lv (vs ++ bl_dr st a) τ) := h
        obtain ⟨r0, τ, vs, hcon, hvs, h⟩ := bl_call_e h
        intro p l e R s m args below meth c cells slots Qf D α cA A C hret H locs ls hP hS hl
        refine bl_invS C hP hS hl.1 (bl_mi_in d) hM hdg hcs m1 g3 m2 m3 m4 m5 m6 hcon (fun H1 locs1 hP1 hS1 => ?_)
        have := hn _ _ _ h p l e R s m args below meth c cells slots Qf D α cA A C hret H1 locs1 ls hP1 hS1 hl
        rw [List.map_append, hvs α] at this
        exact this
    | false =>
      exact bl_intr hM hn hdg hc10 hc h
  | ireturn =>
    simp only [bl_chk, Bool.and_eq_true] at hc
    obtain ⟨g1, hc⟩ := hc
    cases bl_beq g1
    obtain ⟨x, st2, hst, hz⟩ := bl_pi_e h
    clear h
    subst hst
    have h := hz
    cases st2 with
    | cons y st3 => exact h.elim
    | nil =>
      intro p l e R s m args below meth c cells slots Qf D α cA A C hret H locs ls hP hS hl
      have hQ : Q (some (.int x)) σ ∧ ∃ ty, M.2.2.2.1 = some ty ∧ narrow ty (.int x) = .int x := by
        cases hcc : Nat.beq c0 1 with
        | true =>
          rw [hcc] at h hc
          have h : bl_bz x (Q (some (.int x)) σ) := h
          exact ⟨h.2, .boolean, of_decide_eq_true hc, (bl_bool h.1).1⟩
        | false =>
          rw [hcc] at h hc
          exact ⟨h, .int, of_decide_eq_true hc, rfl⟩
      exact hret pc (some (.int x)) σ H locs ls hQ.1 hP hS ⟨hdg, hQ.2⟩
  | areturn =>
    simp only [bl_chk, Bool.and_eq_true, decide_eq_true_eq] at hc
    obtain ⟨g1, hc⟩ := hc
    cases bl_beq g1
    obtain ⟨x, st2, hst, hz⟩ := bl_pr_e h
    clear h
    subst hst
    have h := hz
    cases st2 with
    | cons y st3 => exact h.elim
    | nil =>
      intro p l e R s m args below meth c cells slots Qf D α cA A C hret H locs ls hP hS hl
      exact hret pc (some (.ref x)) σ H locs ls h hP hS ⟨hdg, .int, hc⟩
  | return_ =>
    simp only [bl_chk, Bool.and_eq_true, decide_eq_true_eq] at hc
    obtain ⟨g1, hc⟩ := hc
    cases bl_beq g1
    cases st with
    | cons y st3 => exact h.elim
    | nil =>
      intro p l e R s m args below meth c cells slots Qf D α cA A C hret H locs ls hP hS hl
      exact hret pc none σ H locs ls h hP hS ⟨hdg, hc⟩
  | _ => exact h.elim
end
section
theorem bl_Wx_sub {M : bl_MI} {pc : Nat} {lv lv' : List (Nat × Value)} {st : List Value} {σ : bl_S} {Q : Option Value → bl_S → Prop} (h : bl_Wx M pc lv' st σ Q) (hs : ∀ q ∈ lv', q ∈ lv) : bl_Wx M pc lv st σ Q :=
  bl_go h (fun p l e R s m args below meth c cells slots Qf D α cA A C H locs ls hP hS hl k => k H locs ls hP hS ⟨hl.1, hl.2.1, fun q hq => by
    obtain ⟨x, hx, rfl⟩ := List.mem_map.mp hq
    exact hl.2.2 _ (List.mem_map.mpr ⟨x, hs x hx, rfl⟩)⟩)
theorem bl_nx_ok {M : bl_MI} {cuts : List (Nat × List Nat)} {Q : Option Value → bl_S → Prop} {K : List bl_En → List (Nat × Value) → List Value → bl_S → Prop} {l : List bl_En} {lv : List (Nat × Value)} {st : List Value} {σ : bl_S} (h : bl_nx M cuts Q K l lv st σ) (hK : K l lv st σ → ∃ e r, l = e :: r ∧ bl_Wx M e.1 lv st σ Q) : ∃ e r, l = e :: r ∧ bl_Wx M e.1 lv st σ Q := by
  unfold bl_nx at h
  cases l with
  | nil => exact h.elim
  | cons e r =>
    refine ⟨e, r, rfl, ?_⟩
    cases hc : cuts.lookup e.1 with
    | none =>
      simp only [hc] at h
      obtain ⟨e', r', h1, h2⟩ := hK h
      injection h1 with a b
      rw [a]
      exact h2
    | some live =>
      simp only [hc] at h
      exact bl_Wx_sub h (fun q hq => (List.mem_filter.mp hq).1)
theorem bl_wp_ok {M : bl_MI} {es : List bl_En} {cuts : List (Nat × List Nat)} {Q : Option Value → bl_S → Prop} (hM : ∀ w ∈ M.2.2.2.2.2.2, w ∈ bl_gt) (hall : es.all (bl_ok M) = true) (hch : bl_chain es = true) : ∀ (n : Nat) (l : List bl_En) (lv : List (Nat × Value)) (st : List Value) (σ : bl_S), l <:+ es → bl_wp M es cuts Q n l lv st σ → ∃ e r, l = e :: r ∧ bl_Wx M e.1 lv st σ Q
  | 0, _, _, _, _, _, h => h.elim
  | n + 1, l, lv, st, σ, hs, h => by
    cases l with
    | nil => exact h.elim
    | cons e r =>
      have h : bl_stp es (bl_nx M cuts Q (bl_wp M es cuts Q n)) e r lv st σ Q := h
      refine ⟨e, r, rfl, bl_stp_ok hM ?_ ?_ (List.all_eq_true.mp hall e (hs.subset List.mem_cons_self)) h⟩
      · intro lv st σ hk
        have hr : r <:+ es := List.IsSuffix.trans (List.suffix_cons e r) hs
        obtain ⟨f, r', h1, h2⟩ := bl_nx_ok hk (fun hk => bl_wp_ok hM hall hch n r lv st σ hr hk)
        rw [← bl_chain_next hch hs f r' h1]
        exact h2
      · intro t lv st σ hk
        obtain ⟨f, r', h1, h2⟩ := bl_nx_ok hk (fun hk => bl_wp_ok hM hall hch n _ lv st σ (bl_to_suf es t) hk)
        rw [bl_to_head h1] at h2
        exact h2
def bl_okM (M : bl_MI) (es : List bl_En) : Bool := es.all (bl_ok M) && bl_chain es
/-- THE RULE: a stretch of code, run as a proposition -/
theorem bl_run {M : bl_MI} {es : List bl_En} {cuts : List (Nat × List Nat)} {Q : Option Value → bl_S → Prop} (n : Nat) {pc : Nat} {lv : List (Nat × Value)} {st : List Value} {σ : bl_S} (hM : M ∈ bl_all) (hok : bl_okM M es = true) (h : bl_wp M es cuts Q n (bl_to es pc) lv st σ) : bl_Wx M pc lv st σ Q := by
  unfold bl_okM at hok
  rw [Bool.and_eq_true] at hok
  obtain ⟨e, r, h1, h2⟩ := bl_wp_ok (bl_lks_ok M hM) hok.1 hok.2 n _ lv st σ (bl_to_suf es pc) h
  rw [bl_to_head h1] at h2
  exact h2
theorem bl_args (α : Nat → Nat) : ∀ (as : List Value) (i : Nat), lv_args i (as.map (bl_cv α)) = bl_cl α (lv_args i as)
  | [], _ => rfl
  | v :: vs, i => by
    show (i, bl_cv α v) :: lv_args (if (bl_cv α v).category = 2 then i + 2 else i + 1) (vs.map (bl_cv α)) = (i, bl_cv α v) :: bl_cl α (lv_args (if v.category = 2 then i + 2 else i + 1) vs)
    rw [bl_cv_cat, bl_args]
theorem bl_sl (α : Nat → Nat) (as : List Value) : (lg_sl (as.map (bl_cv α))).length = (lg_sl as).length := by
  unfold lg_sl
  induction as with
  | nil => rfl
  | cons v vs ih =>
    rw [List.map_cons, List.flatMap_cons, List.flatMap_cons, List.length_append, List.length_append, ih, bl_cv_cat]
    split <;> rfl
/-- a contract out of a walk -/
theorem bl_con {M : bl_MI} {as : List Value} {σ : bl_S} {r : Option Value} {σ' : bl_S} (hp : plainName M.1.cls = true) (hlen : (lg_sl as).length ≤ M.2.2.1) (h : bl_Wx M 0 (lv_args 0 as) [] σ (fun v τ => v = r ∧ τ = σ')) : bl_Con M as σ r σ' := by
  intro l D α cA
  refine Met.ofW (cc := M.2.1) (maxL := M.2.2.1) (ret := M.2.2.2.1) hp rfl ?_
  intro p e s m args below meth c s₁ B hml hv
  obtain ⟨rfl, hP, hK, hi, hR⟩ := hv
  have hts := atoms_spec (ws := bl_wz M) B.pre
  have hlocks := B.notSynchronized
  have C : bl_CX M D α cA (bl_A α) p (headSpec (bl_wz M) (bl_rm M)).room s m (as.map (bl_cv α)).toArray meth c 0 0 := ⟨B.exec, B.bytes, hml, B.returns, hlocks, findClass_of_methodNamed B.named, fun w hw => hts w (List.mem_cons_of_mem _ hw), hK, hi, fun k hk => ⟨k, hk, rfl⟩, hR, Nat.le_refl _, Nat.le_refl _, Nat.zero_le _, Nat.zero_le _⟩
  rw [lg_entry_eq]
  have hl := lv_entry (as.map (bl_cv α)) (n := M.2.2.1) (by rw [bl_sl]; exact hlen)
  rw [bl_args] at hl
  refine h p l e _ s m _ below meth c 0 0 _ D α cA (bl_A α) C ?_ s.heap [] _ hP va_S.rf hl
  intro pc v σ2 H locs ls hQ hP2 hS hr
  obtain ⟨rfl, rfl⟩ := hQ
  have hq : ∀ t : State, t.heap = H → s.WarmedH t.vm → bl_Qc D α cA v σ2 (as.map (bl_cv α)).toArray s (.returned (v.map (bl_cv α))) t := fun t ht _ => ⟨⟨rfl, by rw [ht]; exact hP2⟩, hS.F ht⟩
  cases v with
  | none => exact W.vret B.exec B.bytes (B.returns.trans hr.2) hq hS.2.2 hr.1
  | some v =>
    cases v with
    | int x =>
      obtain ⟨h1, ty, h2, h3⟩ := hr
      exact W.zret B.exec B.bytes (B.returns.trans h2) h3 hq hS.2.2 h1
    | ref x =>
      obtain ⟨h1, ty, h2⟩ := hr
      exact W.aret B.exec B.bytes (B.returns.trans h2) (Or.inr ⟨_, rfl⟩) (Or.inr ⟨_, rfl⟩) hq hS.2.2 h1
    | _ => exact hr.elim
theorem bl_plain : ∀ M ∈ bl_all, plainName M.1.cls = true := by decide +kernel
end
section
abbrev bl_e0 (pc : Nat) (i : Instr) (len : Nat) : bl_En := (pc, i, len, 0, 0, 0, 0, 0, 0, [])
abbrev bl_ea (pc : Nat) (i : Instr) (len a : Nat) : bl_En := (pc, i, len, a, 0, 0, 0, 0, 0, [])
abbrev bl_em (pc : Nat) (i : Instr) (len a b c d : Nat) : bl_En := (pc, i, len, a, b, c, d, 0, 0, [])
abbrev bl_ev (pc : Nat) (i : Instr) (len : Nat) (v : Int32) : bl_En := (pc, i, len, 0, 0, 0, 0, v, 0, [])
abbrev bl_ew (pc : Nat) (i : Instr) (len : Nat) (w : Int64) : bl_En := (pc, i, len, 0, 0, 0, 0, 0, w, [])
abbrev bl_ei (pc : Nat) (i : Instr) (len a : Nat) (v : Int32) : bl_En := (pc, i, len, a, 0, 0, 0, v, 0, [])
abbrev bl_es (pc : Nat) (i : Instr) (len a : Nat) (sw : List (Int32 × Nat)) : bl_En := (pc, i, len, a, 0, 0, 0, 0, 0, sw)

theorem bl_in {i : Int32} {n : Nat} (h : decide (¬ (i < 0 ∨ n ≤ i.toNatClampNeg)) = true) : vp_in i n := (of_decide_eq_true h : ¬ (i < 0 ∨ n ≤ i.toNatClampNeg))

def es_X1_copyFrom : List bl_En := [bl_e0 0 (.aload_n 0) 1,
  bl_ea 1 (.aload_n 1) 1 1,
  bl_ea 2 (.getfield 9) 3 1,
  bl_ea 5 (.putfield 9) 3 1,
  bl_e0 8 (.aload_n 0) 1,
  bl_ea 9 (.aload_n 1) 1 1,
  bl_em 10 (.getfield 15) 3 1 1 0 0,
  bl_em 13 (.putfield 15) 3 1 1 0 0,
  bl_e0 16 (.aload_n 0) 1,
  bl_ea 17 (.aload_n 1) 1 1,
  bl_em 18 (.getfield 18) 3 1 2 0 0,
  bl_em 21 (.putfield 18) 3 1 2 0 0,
  bl_e0 24 (.aload_n 0) 1,
  bl_ea 25 (.aload_n 1) 1 1,
  bl_em 26 (.getfield 21) 3 1 3 0 0,
  bl_em 29 (.putfield 21) 3 1 3 0 0,
  bl_e0 32 (.aload_n 0) 1,
  bl_ea 33 (.aload_n 1) 1 1,
  bl_em 34 (.getfield 24) 3 1 4 0 0,
  bl_em 37 (.putfield 24) 3 1 4 0 0,
  bl_e0 40 (.aload_n 0) 1,
  bl_ea 41 (.aload_n 1) 1 1,
  bl_em 42 (.getfield 27) 3 1 5 0 0,
  bl_em 45 (.putfield 27) 3 1 5 0 0,
  bl_e0 48 .return_ 1]
theorem ok_X1_copyFrom : bl_okM (bl_mi 0) es_X1_copyFrom = true := by decide +kernel
def es_X1_handfulMoments : List bl_En := [bl_e0 0 (.aload_n 0) 1,
  bl_em 1 (.getfield 18) 3 1 2 0 0,
  bl_ev 4 (.iconst 3) 1 3,
  bl_ea 5 (.if_icmp .ne 7) 3 12,
  bl_ev 8 (.iconst 2) 1 2,
  bl_ea 9 (.goto 4) 3 13,
  bl_ev 12 (.iconst 1) 1 1,
  bl_e0 13 .ireturn 1]
theorem ok_X1_handfulMoments : bl_okM (bl_mi 1) es_X1_handfulMoments = true := by decide +kernel
def es_X5_wouldGet : List bl_En := [bl_e0 0 (.aload_n 0) 1,
  bl_em 1 (.getfield 18) 3 5 2 0 0,
  bl_ea 4 (.aload_n 1) 1 1,
  bl_em 5 (.getfield 37) 3 1 4 0 0,
  bl_ev 8 (.iconst 4) 1 4,
  bl_e0 9 .iadd 1,
  bl_ev 10 (.iconst 5) 1 5,
  bl_e0 11 .idiv 1,
  bl_em 12 (.invokestatic 42) 3 0 0 10 0,
  bl_ea 15 (.istore_n 2) 1 2,
  bl_ea 16 (.aload_n 1) 1 1,
  bl_em 17 (.getfield 48) 3 1 2 0 0,
  bl_ev 20 (.iconst 1) 1 1,
  bl_ea 21 (.if_icmp .ne 16) 3 37,
  bl_e0 24 (.aload_n 0) 1,
  bl_em 25 (.getfield 24) 3 5 4 0 0,
  bl_ea 28 (.ifCond .ne 9) 3 37,
  bl_ea 31 (.iload_n 2) 1 2,
  bl_ev 32 (.iconst 2) 1 2,
  bl_e0 33 .idiv 1,
  bl_ea 34 (.goto 4) 3 38,
  bl_ea 37 (.iload_n 2) 1 2,
  bl_e0 38 .ireturn 1]
theorem ok_X5_wouldGet : bl_okM (bl_mi 2) es_X5_wouldGet = true := by decide +kernel
def es_X5_tryHandful : List bl_En := [bl_e0 0 (.aload_n 0) 1,
  bl_ea 1 (.aload_n 1) 1 1,
  bl_em 2 (.invokevirtual 60) 3 2 5 1 2,
  bl_ea 5 (.istore_n 2) 1 2,
  bl_ea 6 (.aload_n 1) 1 1,
  bl_e0 7 .dup 1,
  bl_em 8 (.getfield 37) 3 1 4 0 0,
  bl_ea 11 (.iload_n 2) 1 2,
  bl_e0 12 .isub 1,
  bl_em 13 (.putfield 37) 3 1 4 0 0,
  bl_ea 16 (.iload_n 2) 1 2,
  bl_e0 17 (.aload_n 0) 1,
  bl_em 18 (.getfield 21) 3 5 3 0 0,
  bl_ea 21 (.iload_n 2) 1 2,
  bl_em 22 (.invokestatic 42) 3 0 0 10 0,
  bl_e0 25 .isub 1,
  bl_e0 26 .ireturn 1]
theorem ok_X5_tryHandful : bl_okM (bl_mi 3) es_X5_tryHandful = true := by decide +kernel
def es_X1_momentsFrom : List bl_En := [bl_ea 0 (.iload_n 1) 1 1,
  bl_e0 1 (.aload_n 0) 1,
  bl_ea 2 (.getfield 9) 3 1,
  bl_e0 5 .isub 1,
  bl_em 6 (.invokestatic 30) 3 0 0 12 0,
  bl_ea 9 (.iload_n 2) 1 2,
  bl_e0 10 (.aload_n 0) 1,
  bl_em 11 (.getfield 15) 3 1 1 0 0,
  bl_ea 14 (.if_icmp .ne 7) 3 21,
  bl_ev 17 (.iconst 0) 1 0,
  bl_ea 18 (.goto 4) 3 22,
  bl_ev 21 (.iconst 3) 1 3,
  bl_e0 22 .iadd 1,
  bl_ea 23 (.istore_n 3) 1 3,
  bl_ea 24 (.iload_n 3) 1 3,
  bl_ev 25 (.bipush 9) 2 9,
  bl_e0 27 .iadd 1,
  bl_ev 28 (.bipush 10) 2 10,
  bl_e0 30 .idiv 1,
  bl_e0 31 .ireturn 1]
theorem ok_X1_momentsFrom : bl_okM (bl_mi 5) es_X1_momentsFrom = true := by decide +kernel
def es_X5_momentsTo : List bl_En := [bl_ea 0 (.aload_n 1) 1 1,
  bl_e0 1 (.aload_n 0) 1,
  bl_ea 2 (.getfield 9) 3 5,
  bl_e0 5 (.aload_n 0) 1,
  bl_em 6 (.getfield 15) 3 5 1 0 0,
  bl_em 9 (.invokevirtual 51) 3 3 1 1 5,
  bl_e0 12 .ireturn 1]
theorem ok_X5_momentsTo : bl_okM (bl_mi 6) es_X5_momentsTo = true := by decide +kernel
def es_X4_isTold : List bl_En := [bl_e0 0 (.aload_n 0) 1,
  bl_ea 1 (.getfield 15) 3 4,
  bl_ea 4 (.ifCond .le 21) 3 25,
  bl_e0 7 (.aload_n 0) 1,
  bl_em 8 (.getfield 18) 3 4 1 0 0,
  bl_ea 11 (.ifCond .le 14) 3 25,
  bl_e0 14 (.aload_n 0) 1,
  bl_em 15 (.getfield 21) 3 4 2 0 0,
  bl_ea 18 (.ifCond .le 7) 3 25,
  bl_ev 21 (.iconst 1) 1 1,
  bl_ea 22 (.goto 4) 3 26,
  bl_ev 25 (.iconst 0) 1 0,
  bl_em 26 .ireturn 1 0 0 1 0]
theorem ok_X4_isTold : bl_okM (bl_mi 16) es_X4_isTold = true := by decide +kernel
def es_X1_passDay : List bl_En := [bl_ea 0 (.aload_n 1) 1 1,
  bl_em 1 (.invokevirtual 36) 3 1 4 1 16,
  bl_ea 4 (.ifCond .ne 4) 3 8,
  bl_e0 7 .return_ 1,
  bl_e0 8 (.aload_n 0) 1,
  bl_em 9 (.getfield 18) 3 1 2 0 0,
  bl_ev 12 (.iconst 2) 1 2,
  bl_ea 13 (.if_icmp .ne 12) 3 25,
  bl_ev 16 (.iconst 2) 1 2,
  bl_ea 17 (.aload_n 1) 1 1,
  bl_ea 18 (.getfield 42) 3 4,
  bl_e0 21 .imul 1,
  bl_ea 22 (.goto 7) 3 29,
  bl_ea 25 (.aload_n 1) 1 1,
  bl_ea 26 (.getfield 42) 3 4,
  bl_ea 29 (.istore_n 3) 1 3,
  bl_e0 30 (.aload_n 0) 1,
  bl_em 31 (.getfield 21) 3 1 3 0 0,
  bl_ea 34 (.iload_n 3) 1 3,
  bl_e0 35 .iadd 1,
  bl_ev 36 (.iconst 1) 1 1,
  bl_e0 37 .isub 1,
  bl_ea 38 (.iload_n 3) 1 3,
  bl_e0 39 .idiv 1,
  bl_ea 40 (.istore 4) 2 4,
  bl_e0 42 (.aload_n 0) 1,
  bl_em 43 (.getfield 24) 3 1 4 0 0,
  bl_ea 46 (.aload_n 1) 1 1,
  bl_em 47 (.getfield 45) 3 4 1 0 0,
  bl_e0 50 .idiv 1,
  bl_ea 51 (.istore 5) 2 5,
  bl_e0 53 (.aload_n 0) 1,
  bl_em 54 (.getfield 27) 3 1 5 0 0,
  bl_ea 57 (.aload_n 1) 1 1,
  bl_em 58 (.getfield 48) 3 4 2 0 0,
  bl_e0 61 .idiv 1,
  bl_ea 62 (.istore 6) 2 6,
  bl_e0 64 (.aload_n 0) 1,
  bl_e0 65 .dup 1,
  bl_em 66 (.getfield 21) 3 1 3 0 0,
  bl_ea 69 (.iload 4) 2 4,
  bl_e0 71 .isub 1,
  bl_em 72 (.putfield 21) 3 1 3 0 0,
  bl_e0 75 (.aload_n 0) 1,
  bl_e0 76 .dup 1,
  bl_em 77 (.getfield 24) 3 1 4 0 0,
  bl_ea 80 (.iload 4) 2 4,
  bl_ea 82 (.iload 5) 2 5,
  bl_e0 84 .isub 1,
  bl_e0 85 .iadd 1,
  bl_em 86 (.putfield 24) 3 1 4 0 0,
  bl_e0 89 (.aload_n 0) 1,
  bl_e0 90 .dup 1,
  bl_em 91 (.getfield 27) 3 1 5 0 0,
  bl_ea 94 (.iload 5) 2 5,
  bl_ea 96 (.iload 6) 2 6,
  bl_e0 98 .isub 1,
  bl_e0 99 .iadd 1,
  bl_em 100 (.putfield 27) 3 1 5 0 0,
  bl_ea 103 (.iload_n 2) 1 2,
  bl_ea 104 (.ifCond .eq 26) 3 130,
  bl_e0 107 (.aload_n 0) 1,
  bl_e0 108 (.aload_n 0) 1,
  bl_em 109 (.getfield 24) 3 1 4 0 0,
  bl_ev 112 (.iconst 4) 1 4,
  bl_e0 113 .idiv 1,
  bl_em 114 (.putfield 27) 3 1 5 0 0,
  bl_e0 117 (.aload_n 0) 1,
  bl_e0 118 .dup 1,
  bl_em 119 (.getfield 24) 3 1 4 0 0,
  bl_e0 122 (.aload_n 0) 1,
  bl_em 123 (.getfield 27) 3 1 5 0 0,
  bl_e0 126 .isub 1,
  bl_em 127 (.putfield 24) 3 1 4 0 0,
  bl_e0 130 .return_ 1]
theorem ok_X1_passDay : bl_okM (bl_mi 17) es_X1_passDay = true := by decide +kernel
def es_X5_tryHandfuls : List bl_En := [bl_ev 0 (.iconst 0) 1 0,
  bl_ea 1 (.istore_n 3) 1 3,
  bl_ev 2 (.iconst 0) 1 0,
  bl_ea 3 (.istore 4) 2 4,
  bl_ea 5 (.iload 4) 2 4,
  bl_ea 7 (.iload_n 2) 1 2,
  bl_ea 8 (.if_icmp .ge 17) 3 25,
  bl_ea 11 (.iload_n 3) 1 3,
  bl_e0 12 (.aload_n 0) 1,
  bl_ea 13 (.aload_n 1) 1 1,
  bl_em 14 (.invokevirtual 68) 3 2 5 1 3,
  bl_e0 17 .iadd 1,
  bl_ea 18 (.istore_n 3) 1 3,
  bl_ei 19 (.iinc 4 1) 3 4 1,
  bl_ea 22 (.goto (-17)) 3 5,
  bl_ea 25 (.iload_n 3) 1 3,
  bl_e0 26 .ireturn 1]
theorem ok_X5_tryHandfuls : bl_okM (bl_mi 19) es_X5_tryHandfuls = true := by decide +kernel
def es_X4_copyFrom : List bl_En := [bl_e0 0 (.aload_n 0) 1,
  bl_ea 1 (.aload_n 1) 1 1,
  bl_ea 2 (.getfield 15) 3 4,
  bl_ea 5 (.putfield 15) 3 4,
  bl_e0 8 (.aload_n 0) 1,
  bl_ea 9 (.aload_n 1) 1 1,
  bl_em 10 (.getfield 18) 3 4 1 0 0,
  bl_em 13 (.putfield 18) 3 4 1 0 0,
  bl_e0 16 (.aload_n 0) 1,
  bl_ea 17 (.aload_n 1) 1 1,
  bl_em 18 (.getfield 21) 3 4 2 0 0,
  bl_em 21 (.putfield 21) 3 4 2 0 0,
  bl_e0 24 (.aload_n 0) 1,
  bl_ea 25 (.aload_n 1) 1 1,
  bl_em 26 (.getfield 9) 3 4 3 0 0,
  bl_em 29 (.putfield 9) 3 4 3 0 0,
  bl_e0 32 .return_ 1]
theorem ok_X4_copyFrom : bl_okM (bl_mi 22) es_X4_copyFrom = true := by decide +kernel
def es_X5_copyFrom : List bl_En := [bl_e0 0 (.aload_n 0) 1,
  bl_ea 1 (.aload_n 1) 1 1,
  bl_ea 2 (.getfield 9) 3 5,
  bl_ea 5 (.putfield 9) 3 5,
  bl_e0 8 (.aload_n 0) 1,
  bl_ea 9 (.aload_n 1) 1 1,
  bl_em 10 (.getfield 15) 3 5 1 0 0,
  bl_em 13 (.putfield 15) 3 5 1 0 0,
  bl_e0 16 (.aload_n 0) 1,
  bl_ea 17 (.aload_n 1) 1 1,
  bl_em 18 (.getfield 18) 3 5 2 0 0,
  bl_em 21 (.putfield 18) 3 5 2 0 0,
  bl_e0 24 (.aload_n 0) 1,
  bl_ea 25 (.aload_n 1) 1 1,
  bl_em 26 (.getfield 21) 3 5 3 0 0,
  bl_em 29 (.putfield 21) 3 5 3 0 0,
  bl_e0 32 (.aload_n 0) 1,
  bl_ea 33 (.aload_n 1) 1 1,
  bl_em 34 (.getfield 24) 3 5 4 0 0,
  bl_em 37 (.putfield 24) 3 5 4 2 0,
  bl_e0 40 (.aload_n 0) 1,
  bl_ea 41 (.aload_n 1) 1 1,
  bl_em 42 (.getfield 28) 3 5 5 0 0,
  bl_em 45 (.putfield 28) 3 5 5 0 0,
  bl_e0 48 (.aload_n 0) 1,
  bl_ea 49 (.aload_n 1) 1 1,
  bl_em 50 (.getfield 31) 3 5 6 0 0,
  bl_em 53 (.putfield 31) 3 5 6 0 0,
  bl_e0 56 (.aload_n 0) 1,
  bl_ea 57 (.aload_n 1) 1 1,
  bl_em 58 (.getfield 34) 3 5 7 0 0,
  bl_em 61 (.putfield 34) 3 5 7 0 0,
  bl_e0 64 .return_ 1]
theorem ok_X5_copyFrom : bl_okM (bl_mi 23) es_X5_copyFrom = true := by decide +kernel
def es_X4_forget : List bl_En := [bl_e0 0 (.aload_n 0) 1,
  bl_ev 1 (.iconst 0) 1 0,
  bl_ea 2 (.putfield 15) 3 4,
  bl_e0 5 (.aload_n 0) 1,
  bl_ev 6 (.iconst 0) 1 0,
  bl_em 7 (.putfield 18) 3 4 1 0 0,
  bl_e0 10 (.aload_n 0) 1,
  bl_ev 11 (.iconst 0) 1 0,
  bl_em 12 (.putfield 21) 3 4 2 0 0,
  bl_e0 15 (.aload_n 0) 1,
  bl_ev 16 (.sipush 999) 3 999,
  bl_em 19 (.putfield 9) 3 4 3 0 0,
  bl_e0 22 .return_ 1]
theorem ok_X4_forget : bl_okM (bl_mi 26) es_X4_forget = true := by decide +kernel
def es_X5_walkTo : List bl_En := [bl_e0 0 (.aload_n 0) 1,
  bl_e0 1 .dup 1,
  bl_em 2 (.getfield 34) 3 5 7 0 0,
  bl_e0 5 (.aload_n 0) 1,
  bl_ea 6 (.aload_n 1) 1 1,
  bl_em 7 (.invokevirtual 56) 3 2 5 1 6,
  bl_e0 10 .iadd 1,
  bl_em 11 (.putfield 34) 3 5 7 0 0,
  bl_e0 14 (.aload_n 0) 1,
  bl_ea 15 (.aload_n 1) 1 1,
  bl_ea 16 (.getfield 54) 3 1,
  bl_ea 19 (.putfield 9) 3 5,
  bl_e0 22 (.aload_n 0) 1,
  bl_ea 23 (.aload_n 1) 1 1,
  bl_em 24 (.getfield 55) 3 1 1 0 0,
  bl_em 27 (.putfield 15) 3 5 1 0 0,
  bl_e0 30 .return_ 1]
theorem ok_X5_walkTo : bl_okM (bl_mi 31) es_X5_walkTo = true := by decide +kernel
def es_X5_takeHandfuls : List bl_En := [bl_ev 0 (.iconst 0) 1 0,
  bl_ea 1 (.istore 4) 2 4,
  bl_ev 3 (.iconst 0) 1 0,
  bl_ea 4 (.istore 5) 2 5,
  bl_ea 6 (.iload 5) 2 5,
  bl_ea 8 (.iload_n 2) 1 2,
  bl_ea 9 (.if_icmp .ge 92) 3 101,
  bl_e0 12 (.aload_n 0) 1,
  bl_ea 13 (.aload_n 1) 1 1,
  bl_em 14 (.invokevirtual 60) 3 2 5 1 2,
  bl_ea 17 (.istore 6) 2 6,
  bl_e0 19 (.aload_n 0) 1,
  bl_em 20 (.getfield 21) 3 5 3 0 0,
  bl_ea 23 (.iload 6) 2 6,
  bl_em 25 (.invokestatic 42) 3 0 0 10 0,
  bl_ea 28 (.istore 7) 2 7,
  bl_ea 30 (.aload_n 1) 1 1,
  bl_e0 31 .dup 1,
  bl_em 32 (.getfield 37) 3 1 4 0 0,
  bl_ea 35 (.iload 6) 2 6,
  bl_e0 37 .isub 1,
  bl_em 38 (.putfield 37) 3 1 4 0 0,
  bl_e0 41 (.aload_n 0) 1,
  bl_e0 42 (.aload_n 0) 1,
  bl_em 43 (.getfield 31) 3 5 6 0 0,
  bl_ea 46 (.iload 7) 2 7,
  bl_e0 48 .iadd 1,
  bl_ev 49 (.ldc 63) 2 999999,
  bl_em 51 (.invokestatic 42) 3 0 0 10 0,
  bl_em 54 (.putfield 31) 3 5 6 0 0,
  bl_e0 57 (.aload_n 0) 1,
  bl_e0 58 (.aload_n 0) 1,
  bl_em 59 (.getfield 28) 3 5 5 0 0,
  bl_ea 62 (.iload 6) 2 6,
  bl_e0 64 .iadd 1,
  bl_ea 65 (.iload 7) 2 7,
  bl_e0 67 .isub 1,
  bl_ea 68 (.iload_n 3) 1 3,
  bl_em 69 (.invokestatic 42) 3 0 0 10 0,
  bl_em 72 (.putfield 28) 3 5 5 0 0,
  bl_e0 75 (.aload_n 0) 1,
  bl_e0 76 .dup 1,
  bl_em 77 (.getfield 34) 3 5 7 0 0,
  bl_ea 80 (.aload_n 1) 1 1,
  bl_em 81 (.invokevirtual 64) 3 1 1 1 1,
  bl_e0 84 .iadd 1,
  bl_em 85 (.putfield 34) 3 5 7 0 0,
  bl_ea 88 (.iload 4) 2 4,
  bl_ea 90 (.iload 6) 2 6,
  bl_e0 92 .iadd 1,
  bl_ea 93 (.istore 4) 2 4,
  bl_ei 95 (.iinc 5 1) 3 5 1,
  bl_ea 98 (.goto (-92)) 3 6,
  bl_ea 101 (.iload 4) 2 4,
  bl_e0 103 .ireturn 1]
theorem ok_X5_takeHandfuls : bl_okM (bl_mi 32) es_X5_takeHandfuls = true := by decide +kernel
def es_X5_isAt : List bl_En := [bl_e0 0 (.aload_n 0) 1,
  bl_ea 1 (.getfield 9) 3 5,
  bl_ea 4 (.aload_n 1) 1 1,
  bl_ea 5 (.getfield 54) 3 1,
  bl_ea 8 (.if_icmp .ne 18) 3 26,
  bl_e0 11 (.aload_n 0) 1,
  bl_em 12 (.getfield 15) 3 5 1 0 0,
  bl_ea 15 (.aload_n 1) 1 1,
  bl_em 16 (.getfield 55) 3 1 1 0 0,
  bl_ea 19 (.if_icmp .ne 7) 3 26,
  bl_ev 22 (.iconst 1) 1 1,
  bl_ea 23 (.goto 4) 3 27,
  bl_ev 26 (.iconst 0) 1 0,
  bl_em 27 .ireturn 1 0 0 1 0]
theorem ok_X5_isAt : bl_okM (bl_mi 34) es_X5_isAt = true := by decide +kernel
def es_J7_fill_53178 : List bl_En := [bl_ev 0 (.iconst 0) 1 0,
  bl_ea 1 (.istore_n 2) 1 2,
  bl_e0 2 (.aload_n 0) 1,
  bl_ea 3 .arraylength 1 20,
  bl_ea 4 (.istore_n 3) 1 3,
  bl_ea 5 (.iload_n 2) 1 2,
  bl_ea 6 (.iload_n 3) 1 3,
  bl_ea 7 (.if_icmp .ge 13) 3 20,
  bl_e0 10 (.aload_n 0) 1,
  bl_ea 11 (.iload_n 2) 1 2,
  bl_ea 12 (.iload_n 1) 1 1,
  bl_e0 13 .iastore 1,
  bl_ei 14 (.iinc 2 1) 3 2 1,
  bl_ea 17 (.goto (-12)) 3 5,
  bl_e0 20 .return_ 1]
theorem ok_J7_fill_53178 : bl_okM (bl_mi 36) es_J7_fill_53178 = true := by decide +kernel
def es_X9_isFull : List bl_En := [bl_e0 0 (.aload_n 0) 1,
  bl_em 1 (.getfield 34) 3 9 4 0 0,
  bl_e0 4 (.aload_n 0) 1,
  bl_em 5 (.getfield 30) 3 9 5 0 0,
  bl_ea 8 (.if_icmp .lt 7) 3 15,
  bl_ev 11 (.iconst 1) 1 1,
  bl_ea 12 (.goto 4) 3 16,
  bl_ev 15 (.iconst 0) 1 0,
  bl_em 16 .ireturn 1 0 0 1 0]
theorem ok_X9_isFull : bl_okM (bl_mi 63) es_X9_isFull = true := by decide +kernel
def es_X9_append : List bl_En := [bl_e0 0 (.aload_n 0) 1,
  bl_em 1 (.getfield 34) 3 9 4 0 0,
  bl_e0 4 (.aload_n 0) 1,
  bl_em 5 (.getfield 30) 3 9 5 0 0,
  bl_ea 8 (.if_icmp .ge 54) 3 62,
  bl_e0 11 (.aload_n 0) 1,
  bl_em 12 (.getfield 9) 3 9 0 1 0,
  bl_e0 15 (.aload_n 0) 1,
  bl_em 16 (.getfield 34) 3 9 4 0 0,
  bl_ea 19 (.iload_n 1) 1 1,
  bl_e0 20 .iastore 1,
  bl_e0 21 (.aload_n 0) 1,
  bl_em 22 (.getfield 15) 3 9 1 1 0,
  bl_e0 25 (.aload_n 0) 1,
  bl_em 26 (.getfield 34) 3 9 4 0 0,
  bl_ea 29 (.iload_n 2) 1 2,
  bl_e0 30 .iastore 1,
  bl_e0 31 (.aload_n 0) 1,
  bl_em 32 (.getfield 18) 3 9 2 1 0,
  bl_e0 35 (.aload_n 0) 1,
  bl_em 36 (.getfield 34) 3 9 4 0 0,
  bl_ea 39 (.iload_n 3) 1 3,
  bl_e0 40 .iastore 1,
  bl_e0 41 (.aload_n 0) 1,
  bl_em 42 (.getfield 21) 3 9 3 1 0,
  bl_e0 45 (.aload_n 0) 1,
  bl_em 46 (.getfield 34) 3 9 4 0 0,
  bl_ea 49 (.iload 4) 2 4,
  bl_e0 51 .iastore 1,
  bl_e0 52 (.aload_n 0) 1,
  bl_e0 53 .dup 1,
  bl_em 54 (.getfield 34) 3 9 4 0 0,
  bl_ev 57 (.iconst 1) 1 1,
  bl_e0 58 .iadd 1,
  bl_em 59 (.putfield 34) 3 9 4 0 0,
  bl_e0 62 (.aload_n 0) 1,
  bl_em 63 (.getfield 34) 3 9 4 0 0,
  bl_e0 66 .ireturn 1]
theorem ok_X9_append : bl_okM (bl_mi 64) es_X9_append = true := by decide +kernel
end
section
abbrev cuts_X1_copyFrom : List (Nat × List Nat) := [(24, [0, 1]), (32, [0, 1]), (40, [0, 1]), (48, [0, 1])]
set_option maxRecDepth 20000 in
theorem vc_X1_copyFrom_0 {Q : Option Value → bl_S → Prop} (σ : bl_S) (r0 : Nat) (r1 : Nat) (hk0 : bl_kd r0 = 1) (hk1 : bl_kd r1 = 1)
    (h : (∀ v1 : Int32, v1 = ((bl_up (bl_up σ r0 0 (σ r1 0)) r0 1 ((bl_up σ r0 0 (σ r1 0)) r1 1)) r1 2) → (∀ v3 : Int32, v3 = ((bl_up (bl_up (bl_up σ r0 0 (σ r1 0)) r0 1 ((bl_up σ r0 0 (σ r1 0)) r1 1)) r0 2 v1) r1 3) → (∀ v5 : Int32, v5 = ((bl_up (bl_up (bl_up (bl_up σ r0 0 (σ r1 0)) r0 1 ((bl_up σ r0 0 (σ r1 0)) r1 1)) r0 2 v1) r0 3 v3) r1 4) → (∀ v7 : Int32, v7 = ((bl_up (bl_up (bl_up (bl_up (bl_up σ r0 0 (σ r1 0)) r0 1 ((bl_up σ r0 0 (σ r1 0)) r1 1)) r0 2 v1) r0 3 v3) r0 4 v5) r1 5) → Q none (bl_up (bl_up (bl_up (bl_up (bl_up (bl_up σ r0 0 (σ r1 0)) r0 1 ((bl_up σ r0 0 (σ r1 0)) r1 1)) r0 2 v1) r0 3 v3) r0 4 v5) r0 5 v7)))))) :
    bl_Wx (bl_mi 0) 0 [(0, .ref r0), (1, .ref r1)] [] σ Q :=
  bl_run 28 (bl_mi_in 0) ok_X1_copyFrom (cuts := cuts_X1_copyFrom) (And.intro hk1 (And.intro hk0 (And.intro hk1 (And.intro hk0 (And.intro hk1 (And.intro hk0 (have j12 : ∀ v1 : Int32, v1 = ((bl_up (bl_up σ r0 0 (σ r1 0)) r0 1 ((bl_up σ r0 0 (σ r1 0)) r1 1)) r1 2) → bl_Wx (bl_mi 0) 24 [(0, .ref r0), (1, .ref r1)] [] (bl_up (bl_up (bl_up σ r0 0 (σ r1 0)) r0 1 ((bl_up σ r0 0 (σ r1 0)) r1 1)) r0 2 v1) Q := fun v1 e2 => bl_run 28 (bl_mi_in 0) ok_X1_copyFrom (cuts := cuts_X1_copyFrom) (And.intro hk1 (And.intro hk0 (have j11 : ∀ v3 : Int32, v3 = ((bl_up (bl_up (bl_up σ r0 0 (σ r1 0)) r0 1 ((bl_up σ r0 0 (σ r1 0)) r1 1)) r0 2 v1) r1 3) → bl_Wx (bl_mi 0) 32 [(0, .ref r0), (1, .ref r1)] [] (bl_up (bl_up (bl_up (bl_up σ r0 0 (σ r1 0)) r0 1 ((bl_up σ r0 0 (σ r1 0)) r1 1)) r0 2 v1) r0 3 v3) Q := fun v3 e4 => bl_run 28 (bl_mi_in 0) ok_X1_copyFrom (cuts := cuts_X1_copyFrom) (And.intro hk1 (And.intro hk0 (have j10 : ∀ v5 : Int32, v5 = ((bl_up (bl_up (bl_up (bl_up σ r0 0 (σ r1 0)) r0 1 ((bl_up σ r0 0 (σ r1 0)) r1 1)) r0 2 v1) r0 3 v3) r1 4) → bl_Wx (bl_mi 0) 40 [(0, .ref r0), (1, .ref r1)] [] (bl_up (bl_up (bl_up (bl_up (bl_up σ r0 0 (σ r1 0)) r0 1 ((bl_up σ r0 0 (σ r1 0)) r1 1)) r0 2 v1) r0 3 v3) r0 4 v5) Q := fun v5 e6 => bl_run 28 (bl_mi_in 0) ok_X1_copyFrom (cuts := cuts_X1_copyFrom) (And.intro hk1 (And.intro hk0 (have j9 : ∀ v7 : Int32, v7 = ((bl_up (bl_up (bl_up (bl_up (bl_up σ r0 0 (σ r1 0)) r0 1 ((bl_up σ r0 0 (σ r1 0)) r1 1)) r0 2 v1) r0 3 v3) r0 4 v5) r1 5) → bl_Wx (bl_mi 0) 48 [(0, .ref r0), (1, .ref r1)] [] (bl_up (bl_up (bl_up (bl_up (bl_up (bl_up σ r0 0 (σ r1 0)) r0 1 ((bl_up σ r0 0 (σ r1 0)) r1 1)) r0 2 v1) r0 3 v3) r0 4 v5) r0 5 v7) Q := fun v7 e8 => bl_run 28 (bl_mi_in 0) ok_X1_copyFrom (cuts := cuts_X1_copyFrom) ((((h v1 e2) v3 e4) v5 e6) v7 e8); (j9 ((bl_up (bl_up (bl_up (bl_up (bl_up σ r0 0 (σ r1 0)) r0 1 ((bl_up σ r0 0 (σ r1 0)) r1 1)) r0 2 v1) r0 3 v3) r0 4 v5) r1 5) rfl)))); (j10 ((bl_up (bl_up (bl_up (bl_up σ r0 0 (σ r1 0)) r0 1 ((bl_up σ r0 0 (σ r1 0)) r1 1)) r0 2 v1) r0 3 v3) r1 4) rfl)))); (j11 ((bl_up (bl_up (bl_up σ r0 0 (σ r1 0)) r0 1 ((bl_up σ r0 0 (σ r1 0)) r1 1)) r0 2 v1) r1 3) rfl)))); (j12 ((bl_up (bl_up σ r0 0 (σ r1 0)) r0 1 ((bl_up σ r0 0 (σ r1 0)) r1 1)) r1 2) rfl))))))))
abbrev cuts_X1_handfulMoments : List (Nat × List Nat) := [(13, [0])]
set_option maxRecDepth 20000 in
theorem vc_X1_handfulMoments_0 {Q : Option Value → bl_S → Prop} (σ : bl_S) (r0 : Nat) (hk0 : bl_kd r0 = 1)
    (h : (∀ v2 : Int32, v2 = (if (σ r0 2) = (3 : Int32) then (2 : Int32) else (1 : Int32)) → Q (some (.int v2)) σ)) :
    bl_Wx (bl_mi 1) 0 [(0, .ref r0)] [] σ Q :=
  bl_run 11 (bl_mi_in 1) ok_X1_handfulMoments (cuts := cuts_X1_handfulMoments) (And.intro hk0 (have j4 : ∀ v2 : Int32, v2 = (if (σ r0 2) = (3 : Int32) then (2 : Int32) else (1 : Int32)) → bl_Wx (bl_mi 1) 13 [(0, .ref r0)] [.int v2] σ Q := fun v2 e3 => bl_run 11 (bl_mi_in 1) ok_X1_handfulMoments (cuts := cuts_X1_handfulMoments) (h v2 e3); (And.intro (fun c1 => (j4 (2 : Int32) (by rw [if_pos c1]))) (fun c1 => (j4 (1 : Int32) (by rw [if_neg c1]))))))
abbrev cuts_X5_wouldGet : List (Nat × List Nat) := [(16, [0, 1, 2]), (38, [0, 1, 2])]
set_option maxRecDepth 20000 in
theorem vc_X5_wouldGet_0 {Q : Option Value → bl_S → Prop} (σ : bl_S) (r0 : Nat) (r1 : Nat) (hk0 : bl_kd r0 = 5) (hk1 : bl_kd r1 = 1)
    (h : (∀ v1 : Int32, v1 = (if (((σ r1 4) + (4 : Int32)) / (5 : Int32)) < (σ r0 2) then (((σ r1 4) + (4 : Int32)) / (5 : Int32)) else (σ r0 2)) → (∀ v5 : Int32, v5 = (if (σ r1 2) = (1 : Int32) then (if (σ r0 4) = 0 then (v1 / (2 : Int32)) else v1) else v1) → Q (some (.int v5)) σ))) :
    bl_Wx (bl_mi 2) 0 [(0, .ref r0), (1, .ref r1)] [] σ Q :=
  bl_run 26 (bl_mi_in 2) ok_X5_wouldGet (cuts := cuts_X5_wouldGet) (And.intro hk0 (And.intro hk1 (And.intro (by decide) (have j8 : ∀ v1 : Int32, v1 = (if (((σ r1 4) + (4 : Int32)) / (5 : Int32)) < (σ r0 2) then (((σ r1 4) + (4 : Int32)) / (5 : Int32)) else (σ r0 2)) → bl_Wx (bl_mi 2) 16 [(0, .ref r0), (1, .ref r1), (2, .int v1)] [] σ Q := fun v1 e2 => bl_run 26 (bl_mi_in 2) ok_X5_wouldGet (cuts := cuts_X5_wouldGet) (And.intro hk1 (have j7 : ∀ v5 : Int32, v5 = (if (σ r1 2) = (1 : Int32) then (if (σ r0 4) = 0 then (v1 / (2 : Int32)) else v1) else v1) → bl_Wx (bl_mi 2) 38 [(0, .ref r0), (1, .ref r1), (2, .int v1)] [.int v5] σ Q := fun v5 e6 => bl_run 26 (bl_mi_in 2) ok_X5_wouldGet (cuts := cuts_X5_wouldGet) ((h v1 e2) v5 e6); (And.intro (fun c3 => (And.intro hk0 (And.intro (fun c4 => (And.intro (by decide) (j7 (v1 / (2 : Int32)) (by rw [if_pos c3, if_pos c4])))) (fun c4 => (j7 v1 (by rw [if_pos c3, if_neg c4])))))) (fun c3 => (j7 v1 (by rw [if_neg c3])))))); (j8 (if (((σ r1 4) + (4 : Int32)) / (5 : Int32)) < (σ r0 2) then (((σ r1 4) + (4 : Int32)) / (5 : Int32)) else (σ r0 2)) rfl)))))
abbrev cuts_X5_tryHandful : List (Nat × List Nat) := []
set_option maxRecDepth 20000 in
theorem vc_X5_tryHandful_0 {Q : Option Value → bl_S → Prop} (σ : bl_S) (r0 : Nat) (r1 : Nat) (hk0 : bl_kd r0 = 5) (hk1 : bl_kd r1 = 1)
    (h : (∃ (y4 : Int32) (τ1 : bl_S), bl_Con (bl_mi 2) [.ref r0, .ref r1] σ (some (.int y4)) τ1 ∧ Q (some (.int (y4 - (if y4 < ((bl_up τ1 r1 4 ((τ1 r1 4) - y4)) r0 3) then y4 else ((bl_up τ1 r1 4 ((τ1 r1 4) - y4)) r0 3))))) (bl_up τ1 r1 4 ((τ1 r1 4) - y4)))) :
    bl_Wx (bl_mi 3) 0 [(0, .ref r0), (1, .ref r1)] [] σ Q :=
  bl_run 20 (bl_mi_in 3) ok_X5_tryHandful (cuts := cuts_X5_tryHandful) (And.intro hk0 (Exists.elim h fun y4 h3 => Exists.elim h3 fun τ1 h2 => Exists.intro y4 (Exists.intro τ1 (And.intro h2.1 (And.intro rfl (And.intro hk1 (And.intro hk1 (And.intro hk0 h2.2))))))))
abbrev cuts_X1_momentsFrom : List (Nat × List Nat) := [(22, [0, 1, 2])]
set_option maxRecDepth 20000 in
theorem vc_X1_momentsFrom_0 {Q : Option Value → bl_S → Prop} (σ : bl_S) (r0 : Nat) (x1 : Int32) (x2 : Int32) (hk0 : bl_kd r0 = 1)
    (h : (∀ v2 : Int32, v2 = (if x2 = (σ r0 1) then (if 0 ≤ (x1 - (σ r0 0)) then (x1 - (σ r0 0)) else 0 - (x1 - (σ r0 0))) else (if 0 ≤ (x1 - (σ r0 0)) then (x1 - (σ r0 0)) else 0 - (x1 - (σ r0 0)))) → ∀ v3 : Int32, v3 = (if x2 = (σ r0 1) then (0 : Int32) else (3 : Int32)) → Q (some (.int (((v2 + v3) + (9 : Int32)) / (10 : Int32)))) σ)) :
    bl_Wx (bl_mi 5) 0 [(0, .ref r0), (1, .int x1), (2, .int x2)] [] σ Q :=
  bl_run 23 (bl_mi_in 5) ok_X1_momentsFrom (cuts := cuts_X1_momentsFrom) (And.intro hk0 (And.intro hk0 (have j6 : ∀ v2 : Int32, v2 = (if x2 = (σ r0 1) then (if 0 ≤ (x1 - (σ r0 0)) then (x1 - (σ r0 0)) else 0 - (x1 - (σ r0 0))) else (if 0 ≤ (x1 - (σ r0 0)) then (x1 - (σ r0 0)) else 0 - (x1 - (σ r0 0)))) → ∀ v3 : Int32, v3 = (if x2 = (σ r0 1) then (0 : Int32) else (3 : Int32)) → bl_Wx (bl_mi 5) 22 [(0, .ref r0), (1, .int x1), (2, .int x2)] [.int v3, .int v2] σ Q := fun v2 e4 v3 e5 => bl_run 23 (bl_mi_in 5) ok_X1_momentsFrom (cuts := cuts_X1_momentsFrom) (And.intro (by decide) (h v2 e4 v3 e5)); (And.intro (fun c1 => (j6 (if 0 ≤ (x1 - (σ r0 0)) then (x1 - (σ r0 0)) else 0 - (x1 - (σ r0 0))) (by rw [if_pos c1]) (0 : Int32) (by rw [if_pos c1]))) (fun c1 => (j6 (if 0 ≤ (x1 - (σ r0 0)) then (x1 - (σ r0 0)) else 0 - (x1 - (σ r0 0))) (by rw [if_neg c1]) (3 : Int32) (by rw [if_neg c1])))))))
abbrev cuts_X5_momentsTo : List (Nat × List Nat) := []
set_option maxRecDepth 20000 in
theorem vc_X5_momentsTo_0 {Q : Option Value → bl_S → Prop} (σ : bl_S) (r0 : Nat) (r1 : Nat) (hk0 : bl_kd r0 = 5) (hk1 : bl_kd r1 = 1)
    (h : (∃ (y4 : Int32) (τ1 : bl_S), bl_Con (bl_mi 5) [.ref r1, .int (σ r0 0), .int (σ r0 1)] σ (some (.int y4)) τ1 ∧ Q (some (.int y4)) τ1)) :
    bl_Wx (bl_mi 6) 0 [(0, .ref r0), (1, .ref r1)] [] σ Q :=
  bl_run 10 (bl_mi_in 6) ok_X5_momentsTo (cuts := cuts_X5_momentsTo) (And.intro hk0 (And.intro hk0 (And.intro hk1 (Exists.elim h fun y4 h3 => Exists.elim h3 fun τ1 h2 => Exists.intro y4 (Exists.intro τ1 (And.intro h2.1 h2.2))))))
abbrev cuts_X4_isTold : List (Nat × List Nat) := [(26, [0])]
set_option maxRecDepth 20000 in
theorem vc_X4_isTold_0 {Q : Option Value → bl_S → Prop} (σ : bl_S) (r0 : Nat) (hk0 : bl_kd r0 = 4)
    (h : (∀ v4 : Int32, v4 = (if 0 < (σ r0 0) then (if 0 < (σ r0 1) then (if 0 < (σ r0 2) then (1 : Int32) else (0 : Int32)) else (0 : Int32)) else (0 : Int32)) → (v4 = 0 ∨ v4 = 1) ∧ Q (some (.int v4)) σ)) :
    bl_Wx (bl_mi 16) 0 [(0, .ref r0)] [] σ Q :=
  bl_run 16 (bl_mi_in 16) ok_X4_isTold (cuts := cuts_X4_isTold) (And.intro hk0 (have j6 : ∀ v4 : Int32, v4 = (if 0 < (σ r0 0) then (if 0 < (σ r0 1) then (if 0 < (σ r0 2) then (1 : Int32) else (0 : Int32)) else (0 : Int32)) else (0 : Int32)) → bl_Wx (bl_mi 16) 26 [(0, .ref r0)] [.int v4] σ Q := fun v4 e5 => bl_run 16 (bl_mi_in 16) ok_X4_isTold (cuts := cuts_X4_isTold) (And.intro (h v4 e5).1 (h v4 e5).2); (And.intro (fun c1 => (And.intro hk0 (And.intro (fun c2 => (And.intro hk0 (And.intro (fun c3 => (j6 (1 : Int32) (by rw [if_pos c1, if_pos c2, if_pos c3]))) (fun c3 => (j6 (0 : Int32) (by rw [if_pos c1, if_pos c2, if_neg c3])))))) (fun c2 => (j6 (0 : Int32) (by rw [if_pos c1, if_neg c2])))))) (fun c1 => (j6 (0 : Int32) (by rw [if_neg c1]))))))
abbrev cuts_X1_passDay : List (Nat × List Nat) := [(29, [0, 1, 2]), (75, [0, 1, 2, 3, 4, 5, 6]), (89, [0, 1, 2, 3, 4, 5, 6]), (103, [0, 1, 2, 3, 4, 5, 6]), (130, [0, 1, 2, 3, 4, 5, 6])]
set_option maxRecDepth 20000 in
theorem vc_X1_passDay_0 {Q : Option Value → bl_S → Prop} (σ : bl_S) (r0 : Nat) (r1 : Nat) (x2 : Int32) (hk0 : bl_kd r0 = 1) (hk1 : bl_kd r1 = 4)
    (h : (∃ (y4 : Int32) (τ1 : bl_S), bl_Con (bl_mi 16) [.ref r1] σ (some (.int y4)) τ1 ∧ ((y4 = 0 → Q none τ1) ∧ (¬ y4 = 0 → (∀ v7 : Int32, v7 = (if (τ1 r0 2) = (2 : Int32) then ((2 : Int32) * (τ1 r1 0)) else (τ1 r1 0)) → (¬ v7 = 0) ∧ (¬ (τ1 r1 1) = 0) ∧ (¬ (τ1 r1 2) = 0) ∧ (∀ v9 : Int32, v9 = ((τ1 r0 3) - ((((τ1 r0 3) + v7) - (1 : Int32)) / v7)) → (∀ v11 : Int32, v11 = (((bl_up τ1 r0 3 v9) r0 4) + (((((τ1 r0 3) + v7) - (1 : Int32)) / v7) - ((τ1 r0 4) / (τ1 r1 1)))) → (∀ v13 : Int32, v13 = (((bl_up (bl_up τ1 r0 3 v9) r0 4 v11) r0 5) + (((τ1 r0 4) / (τ1 r1 1)) - ((τ1 r0 5) / (τ1 r1 2)))) → (∀ σ16 : bl_S, σ16 = (if x2 = 0 then (bl_up (bl_up (bl_up τ1 r0 3 v9) r0 4 v11) r0 5 v13) else (bl_up (bl_up (bl_up (bl_up (bl_up τ1 r0 3 v9) r0 4 v11) r0 5 v13) r0 5 (((bl_up (bl_up (bl_up τ1 r0 3 v9) r0 4 v11) r0 5 v13) r0 4) / (4 : Int32))) r0 4 (((bl_up (bl_up (bl_up (bl_up τ1 r0 3 v9) r0 4 v11) r0 5 v13) r0 5 (((bl_up (bl_up (bl_up τ1 r0 3 v9) r0 4 v11) r0 5 v13) r0 4) / (4 : Int32))) r0 4) - ((bl_up (bl_up (bl_up (bl_up τ1 r0 3 v9) r0 4 v11) r0 5 v13) r0 5 (((bl_up (bl_up (bl_up τ1 r0 3 v9) r0 4 v11) r0 5 v13) r0 4) / (4 : Int32))) r0 5)))) → Q none σ16))))))))) :
    bl_Wx (bl_mi 17) 0 [(0, .ref r0), (1, .ref r1), (2, .int x2)] [] σ Q :=
  bl_run 78 (bl_mi_in 17) ok_X1_passDay (cuts := cuts_X1_passDay) (And.intro hk1 (Exists.elim h fun y4 h3 => Exists.elim h3 fun τ1 h2 => Exists.intro y4 (Exists.intro τ1 (And.intro h2.1 (And.intro (fun c5 => (h2.2.1 c5)) (fun c5 => (And.intro hk0 (have j22 : ∀ v7 : Int32, v7 = (if (τ1 r0 2) = (2 : Int32) then ((2 : Int32) * (τ1 r1 0)) else (τ1 r1 0)) → bl_Wx (bl_mi 17) 29 [(0, .ref r0), (1, .ref r1), (2, .int x2)] [.int v7] τ1 Q := fun v7 e8 => bl_run 78 (bl_mi_in 17) ok_X1_passDay (cuts := cuts_X1_passDay) (And.intro hk0 (And.intro ((h2.2.2 c5) v7 e8).1 (And.intro hk0 (And.intro hk1 (And.intro ((h2.2.2 c5) v7 e8).2.1 (And.intro hk0 (And.intro hk1 (And.intro ((h2.2.2 c5) v7 e8).2.2.1 (And.intro rfl (And.intro hk0 (And.intro hk0 (have j21 : ∀ v9 : Int32, v9 = ((τ1 r0 3) - ((((τ1 r0 3) + v7) - (1 : Int32)) / v7)) → bl_Wx (bl_mi 17) 75 [(0, .ref r0), (1, .ref r1), (2, .int x2), (3, .int v7), (4, .int ((((τ1 r0 3) + v7) - (1 : Int32)) / v7)), (5, .int ((τ1 r0 4) / (τ1 r1 1))), (6, .int ((τ1 r0 5) / (τ1 r1 2)))] [] (bl_up τ1 r0 3 v9) Q := fun v9 e10 => bl_run 78 (bl_mi_in 17) ok_X1_passDay (cuts := cuts_X1_passDay) (And.intro rfl (And.intro hk0 (And.intro hk0 (have j20 : ∀ v11 : Int32, v11 = (((bl_up τ1 r0 3 v9) r0 4) + (((((τ1 r0 3) + v7) - (1 : Int32)) / v7) - ((τ1 r0 4) / (τ1 r1 1)))) → bl_Wx (bl_mi 17) 89 [(0, .ref r0), (1, .ref r1), (2, .int x2), (3, .int v7), (4, .int ((((τ1 r0 3) + v7) - (1 : Int32)) / v7)), (5, .int ((τ1 r0 4) / (τ1 r1 1))), (6, .int ((τ1 r0 5) / (τ1 r1 2)))] [] (bl_up (bl_up τ1 r0 3 v9) r0 4 v11) Q := fun v11 e12 => bl_run 78 (bl_mi_in 17) ok_X1_passDay (cuts := cuts_X1_passDay) (And.intro rfl (And.intro hk0 (And.intro hk0 (have j19 : ∀ v13 : Int32, v13 = (((bl_up (bl_up τ1 r0 3 v9) r0 4 v11) r0 5) + (((τ1 r0 4) / (τ1 r1 1)) - ((τ1 r0 5) / (τ1 r1 2)))) → bl_Wx (bl_mi 17) 103 [(0, .ref r0), (1, .ref r1), (2, .int x2), (3, .int v7), (4, .int ((((τ1 r0 3) + v7) - (1 : Int32)) / v7)), (5, .int ((τ1 r0 4) / (τ1 r1 1))), (6, .int ((τ1 r0 5) / (τ1 r1 2)))] [] (bl_up (bl_up (bl_up τ1 r0 3 v9) r0 4 v11) r0 5 v13) Q := fun v13 e14 => bl_run 78 (bl_mi_in 17) ok_X1_passDay (cuts := cuts_X1_passDay) (have j18 : ∀ σ16 : bl_S, σ16 = (if x2 = 0 then (bl_up (bl_up (bl_up τ1 r0 3 v9) r0 4 v11) r0 5 v13) else (bl_up (bl_up (bl_up (bl_up (bl_up τ1 r0 3 v9) r0 4 v11) r0 5 v13) r0 5 (((bl_up (bl_up (bl_up τ1 r0 3 v9) r0 4 v11) r0 5 v13) r0 4) / (4 : Int32))) r0 4 (((bl_up (bl_up (bl_up (bl_up τ1 r0 3 v9) r0 4 v11) r0 5 v13) r0 5 (((bl_up (bl_up (bl_up τ1 r0 3 v9) r0 4 v11) r0 5 v13) r0 4) / (4 : Int32))) r0 4) - ((bl_up (bl_up (bl_up (bl_up τ1 r0 3 v9) r0 4 v11) r0 5 v13) r0 5 (((bl_up (bl_up (bl_up τ1 r0 3 v9) r0 4 v11) r0 5 v13) r0 4) / (4 : Int32))) r0 5)))) → bl_Wx (bl_mi 17) 130 [(0, .ref r0), (1, .ref r1), (2, .int x2), (3, .int v7), (4, .int ((((τ1 r0 3) + v7) - (1 : Int32)) / v7)), (5, .int ((τ1 r0 4) / (τ1 r1 1))), (6, .int ((τ1 r0 5) / (τ1 r1 2)))] [] σ16 Q := fun σ16 e17 => bl_run 78 (bl_mi_in 17) ok_X1_passDay (cuts := cuts_X1_passDay) ((((((h2.2.2 c5) v7 e8).2.2.2 v9 e10) v11 e12) v13 e14) σ16 e17); (And.intro (fun c15 => (j18 (bl_up (bl_up (bl_up τ1 r0 3 v9) r0 4 v11) r0 5 v13) (by rw [if_pos c15]))) (fun c15 => (And.intro hk0 (And.intro (by decide) (And.intro hk0 (And.intro rfl (And.intro hk0 (And.intro hk0 (And.intro hk0 (j18 (bl_up (bl_up (bl_up (bl_up (bl_up τ1 r0 3 v9) r0 4 v11) r0 5 v13) r0 5 (((bl_up (bl_up (bl_up τ1 r0 3 v9) r0 4 v11) r0 5 v13) r0 4) / (4 : Int32))) r0 4 (((bl_up (bl_up (bl_up (bl_up τ1 r0 3 v9) r0 4 v11) r0 5 v13) r0 5 (((bl_up (bl_up (bl_up τ1 r0 3 v9) r0 4 v11) r0 5 v13) r0 4) / (4 : Int32))) r0 4) - ((bl_up (bl_up (bl_up (bl_up τ1 r0 3 v9) r0 4 v11) r0 5 v13) r0 5 (((bl_up (bl_up (bl_up τ1 r0 3 v9) r0 4 v11) r0 5 v13) r0 4) / (4 : Int32))) r0 5))) (by rw [if_neg c15])))))))))))); (j19 (((bl_up (bl_up τ1 r0 3 v9) r0 4 v11) r0 5) + (((τ1 r0 4) / (τ1 r1 1)) - ((τ1 r0 5) / (τ1 r1 2)))) rfl))))); (j20 (((bl_up τ1 r0 3 v9) r0 4) + (((((τ1 r0 3) + v7) - (1 : Int32)) / v7) - ((τ1 r0 4) / (τ1 r1 1)))) rfl))))); (j21 ((τ1 r0 3) - ((((τ1 r0 3) + v7) - (1 : Int32)) / v7)) rfl))))))))))))); (And.intro (fun c6 => (And.intro hk1 (j22 ((2 : Int32) * (τ1 r1 0)) (by rw [if_pos c6])))) (fun c6 => (And.intro hk1 (j22 (τ1 r1 0) (by rw [if_neg c6])))))))))))))
abbrev cuts_X5_tryHandfuls : List (Nat × List Nat) := [(5, [0, 1, 2, 3, 4])]
set_option maxRecDepth 20000 in
theorem vc_X5_tryHandfuls_0 {Q : Option Value → bl_S → Prop} (σ : bl_S) (r0 : Nat) (r1 : Nat) (x2 : Int32) (hk0 : bl_kd r0 = 5) (hk1 : bl_kd r1 = 1)
    (h : bl_Wx (bl_mi 19) 5 [(0, .ref r0), (1, .ref r1), (2, .int x2), (3, .int (0 : Int32)), (4, .int (0 : Int32))] [] σ Q) :
    bl_Wx (bl_mi 19) 0 [(0, .ref r0), (1, .ref r1), (2, .int x2)] [] σ Q :=
  bl_run 20 (bl_mi_in 19) ok_X5_tryHandfuls (cuts := cuts_X5_tryHandfuls) h
set_option maxRecDepth 20000 in
theorem vc_X5_tryHandfuls_5 {Q : Option Value → bl_S → Prop} (σ : bl_S) (r0 : Nat) (r1 : Nat) (x2 : Int32) (x3 : Int32) (x4 : Int32) (hk0 : bl_kd r0 = 5) (hk1 : bl_kd r1 = 1)
    (h : ((x4 < x2 → (∃ (y5 : Int32) (τ2 : bl_S), bl_Con (bl_mi 3) [.ref r0, .ref r1] σ (some (.int y5)) τ2 ∧ bl_Wx (bl_mi 19) 5 [(0, .ref r0), (1, .ref r1), (2, .int x2), (3, .int (x3 + y5)), (4, .int (x4 + 1))] [] τ2 Q)) ∧ (¬ x4 < x2 → Q (some (.int x3)) σ))) :
    bl_Wx (bl_mi 19) 5 [(0, .ref r0), (1, .ref r1), (2, .int x2), (3, .int x3), (4, .int x4)] [] σ Q :=
  bl_run 20 (bl_mi_in 19) ok_X5_tryHandfuls (cuts := cuts_X5_tryHandfuls) (And.intro (fun c1 => (And.intro hk0 (Exists.elim (h.1 c1) fun y5 h4 => Exists.elim h4 fun τ2 h3 => Exists.intro y5 (Exists.intro τ2 (And.intro h3.1 h3.2))))) (fun c1 => (h.2 c1)))
abbrev cuts_X4_copyFrom : List (Nat × List Nat) := [(24, [0, 1]), (32, [0, 1])]
set_option maxRecDepth 20000 in
theorem vc_X4_copyFrom_0 {Q : Option Value → bl_S → Prop} (σ : bl_S) (r0 : Nat) (r1 : Nat) (hk0 : bl_kd r0 = 4) (hk1 : bl_kd r1 = 4)
    (h : (∀ v1 : Int32, v1 = ((bl_up (bl_up σ r0 0 (σ r1 0)) r0 1 ((bl_up σ r0 0 (σ r1 0)) r1 1)) r1 2) → (∀ v3 : Int32, v3 = ((bl_up (bl_up (bl_up σ r0 0 (σ r1 0)) r0 1 ((bl_up σ r0 0 (σ r1 0)) r1 1)) r0 2 v1) r1 3) → Q none (bl_up (bl_up (bl_up (bl_up σ r0 0 (σ r1 0)) r0 1 ((bl_up σ r0 0 (σ r1 0)) r1 1)) r0 2 v1) r0 3 v3)))) :
    bl_Wx (bl_mi 22) 0 [(0, .ref r0), (1, .ref r1)] [] σ Q :=
  bl_run 20 (bl_mi_in 22) ok_X4_copyFrom (cuts := cuts_X4_copyFrom) (And.intro hk1 (And.intro hk0 (And.intro hk1 (And.intro hk0 (And.intro hk1 (And.intro hk0 (have j6 : ∀ v1 : Int32, v1 = ((bl_up (bl_up σ r0 0 (σ r1 0)) r0 1 ((bl_up σ r0 0 (σ r1 0)) r1 1)) r1 2) → bl_Wx (bl_mi 22) 24 [(0, .ref r0), (1, .ref r1)] [] (bl_up (bl_up (bl_up σ r0 0 (σ r1 0)) r0 1 ((bl_up σ r0 0 (σ r1 0)) r1 1)) r0 2 v1) Q := fun v1 e2 => bl_run 20 (bl_mi_in 22) ok_X4_copyFrom (cuts := cuts_X4_copyFrom) (And.intro hk1 (And.intro hk0 (have j5 : ∀ v3 : Int32, v3 = ((bl_up (bl_up (bl_up σ r0 0 (σ r1 0)) r0 1 ((bl_up σ r0 0 (σ r1 0)) r1 1)) r0 2 v1) r1 3) → bl_Wx (bl_mi 22) 32 [(0, .ref r0), (1, .ref r1)] [] (bl_up (bl_up (bl_up (bl_up σ r0 0 (σ r1 0)) r0 1 ((bl_up σ r0 0 (σ r1 0)) r1 1)) r0 2 v1) r0 3 v3) Q := fun v3 e4 => bl_run 20 (bl_mi_in 22) ok_X4_copyFrom (cuts := cuts_X4_copyFrom) ((h v1 e2) v3 e4); (j5 ((bl_up (bl_up (bl_up σ r0 0 (σ r1 0)) r0 1 ((bl_up σ r0 0 (σ r1 0)) r1 1)) r0 2 v1) r1 3) rfl)))); (j6 ((bl_up (bl_up σ r0 0 (σ r1 0)) r0 1 ((bl_up σ r0 0 (σ r1 0)) r1 1)) r1 2) rfl))))))))
abbrev cuts_X5_copyFrom : List (Nat × List Nat) := [(24, [0, 1]), (32, [0, 1]), (40, [0, 1]), (48, [0, 1]), (56, [0, 1]), (64, [0, 1])]
set_option maxRecDepth 20000 in
theorem vc_X5_copyFrom_0 {Q : Option Value → bl_S → Prop} (σ : bl_S) (r0 : Nat) (r1 : Nat) (hk0 : bl_kd r0 = 5) (hk1 : bl_kd r1 = 5)
    (h : (∀ v1 : Int32, v1 = ((bl_up (bl_up σ r0 0 (σ r1 0)) r0 1 ((bl_up σ r0 0 (σ r1 0)) r1 1)) r1 2) → (∀ v3 : Int32, v3 = ((bl_up (bl_up (bl_up σ r0 0 (σ r1 0)) r0 1 ((bl_up σ r0 0 (σ r1 0)) r1 1)) r0 2 v1) r1 3) → (((bl_up (bl_up (bl_up (bl_up σ r0 0 (σ r1 0)) r0 1 ((bl_up σ r0 0 (σ r1 0)) r1 1)) r0 2 v1) r0 3 v3) r1 4) = 0 ∨ ((bl_up (bl_up (bl_up (bl_up σ r0 0 (σ r1 0)) r0 1 ((bl_up σ r0 0 (σ r1 0)) r1 1)) r0 2 v1) r0 3 v3) r1 4) = 1) ∧ (∀ v5 : Int32, v5 = ((bl_up (bl_up (bl_up (bl_up σ r0 0 (σ r1 0)) r0 1 ((bl_up σ r0 0 (σ r1 0)) r1 1)) r0 2 v1) r0 3 v3) r1 4) → (∀ v7 : Int32, v7 = ((bl_up (bl_up (bl_up (bl_up (bl_up σ r0 0 (σ r1 0)) r0 1 ((bl_up σ r0 0 (σ r1 0)) r1 1)) r0 2 v1) r0 3 v3) r0 4 v5) r1 5) → (∀ v9 : Int32, v9 = ((bl_up (bl_up (bl_up (bl_up (bl_up (bl_up σ r0 0 (σ r1 0)) r0 1 ((bl_up σ r0 0 (σ r1 0)) r1 1)) r0 2 v1) r0 3 v3) r0 4 v5) r0 5 v7) r1 6) → (∀ v11 : Int32, v11 = ((bl_up (bl_up (bl_up (bl_up (bl_up (bl_up (bl_up σ r0 0 (σ r1 0)) r0 1 ((bl_up σ r0 0 (σ r1 0)) r1 1)) r0 2 v1) r0 3 v3) r0 4 v5) r0 5 v7) r0 6 v9) r1 7) → Q none (bl_up (bl_up (bl_up (bl_up (bl_up (bl_up (bl_up (bl_up σ r0 0 (σ r1 0)) r0 1 ((bl_up σ r0 0 (σ r1 0)) r1 1)) r0 2 v1) r0 3 v3) r0 4 v5) r0 5 v7) r0 6 v9) r0 7 v11)))))))) :
    bl_Wx (bl_mi 23) 0 [(0, .ref r0), (1, .ref r1)] [] σ Q :=
  bl_run 36 (bl_mi_in 23) ok_X5_copyFrom (cuts := cuts_X5_copyFrom) (And.intro hk1 (And.intro hk0 (And.intro hk1 (And.intro hk0 (And.intro hk1 (And.intro hk0 (have j18 : ∀ v1 : Int32, v1 = ((bl_up (bl_up σ r0 0 (σ r1 0)) r0 1 ((bl_up σ r0 0 (σ r1 0)) r1 1)) r1 2) → bl_Wx (bl_mi 23) 24 [(0, .ref r0), (1, .ref r1)] [] (bl_up (bl_up (bl_up σ r0 0 (σ r1 0)) r0 1 ((bl_up σ r0 0 (σ r1 0)) r1 1)) r0 2 v1) Q := fun v1 e2 => bl_run 36 (bl_mi_in 23) ok_X5_copyFrom (cuts := cuts_X5_copyFrom) (And.intro hk1 (And.intro hk0 (have j17 : ∀ v3 : Int32, v3 = ((bl_up (bl_up (bl_up σ r0 0 (σ r1 0)) r0 1 ((bl_up σ r0 0 (σ r1 0)) r1 1)) r0 2 v1) r1 3) → bl_Wx (bl_mi 23) 32 [(0, .ref r0), (1, .ref r1)] [] (bl_up (bl_up (bl_up (bl_up σ r0 0 (σ r1 0)) r0 1 ((bl_up σ r0 0 (σ r1 0)) r1 1)) r0 2 v1) r0 3 v3) Q := fun v3 e4 => bl_run 36 (bl_mi_in 23) ok_X5_copyFrom (cuts := cuts_X5_copyFrom) (And.intro hk1 (And.intro hk0 (And.intro ((h v1 e2) v3 e4).1 (have j16 : ∀ v5 : Int32, v5 = ((bl_up (bl_up (bl_up (bl_up σ r0 0 (σ r1 0)) r0 1 ((bl_up σ r0 0 (σ r1 0)) r1 1)) r0 2 v1) r0 3 v3) r1 4) → bl_Wx (bl_mi 23) 40 [(0, .ref r0), (1, .ref r1)] [] (bl_up (bl_up (bl_up (bl_up (bl_up σ r0 0 (σ r1 0)) r0 1 ((bl_up σ r0 0 (σ r1 0)) r1 1)) r0 2 v1) r0 3 v3) r0 4 v5) Q := fun v5 e6 => bl_run 36 (bl_mi_in 23) ok_X5_copyFrom (cuts := cuts_X5_copyFrom) (And.intro hk1 (And.intro hk0 (have j15 : ∀ v7 : Int32, v7 = ((bl_up (bl_up (bl_up (bl_up (bl_up σ r0 0 (σ r1 0)) r0 1 ((bl_up σ r0 0 (σ r1 0)) r1 1)) r0 2 v1) r0 3 v3) r0 4 v5) r1 5) → bl_Wx (bl_mi 23) 48 [(0, .ref r0), (1, .ref r1)] [] (bl_up (bl_up (bl_up (bl_up (bl_up (bl_up σ r0 0 (σ r1 0)) r0 1 ((bl_up σ r0 0 (σ r1 0)) r1 1)) r0 2 v1) r0 3 v3) r0 4 v5) r0 5 v7) Q := fun v7 e8 => bl_run 36 (bl_mi_in 23) ok_X5_copyFrom (cuts := cuts_X5_copyFrom) (And.intro hk1 (And.intro hk0 (have j14 : ∀ v9 : Int32, v9 = ((bl_up (bl_up (bl_up (bl_up (bl_up (bl_up σ r0 0 (σ r1 0)) r0 1 ((bl_up σ r0 0 (σ r1 0)) r1 1)) r0 2 v1) r0 3 v3) r0 4 v5) r0 5 v7) r1 6) → bl_Wx (bl_mi 23) 56 [(0, .ref r0), (1, .ref r1)] [] (bl_up (bl_up (bl_up (bl_up (bl_up (bl_up (bl_up σ r0 0 (σ r1 0)) r0 1 ((bl_up σ r0 0 (σ r1 0)) r1 1)) r0 2 v1) r0 3 v3) r0 4 v5) r0 5 v7) r0 6 v9) Q := fun v9 e10 => bl_run 36 (bl_mi_in 23) ok_X5_copyFrom (cuts := cuts_X5_copyFrom) (And.intro hk1 (And.intro hk0 (have j13 : ∀ v11 : Int32, v11 = ((bl_up (bl_up (bl_up (bl_up (bl_up (bl_up (bl_up σ r0 0 (σ r1 0)) r0 1 ((bl_up σ r0 0 (σ r1 0)) r1 1)) r0 2 v1) r0 3 v3) r0 4 v5) r0 5 v7) r0 6 v9) r1 7) → bl_Wx (bl_mi 23) 64 [(0, .ref r0), (1, .ref r1)] [] (bl_up (bl_up (bl_up (bl_up (bl_up (bl_up (bl_up (bl_up σ r0 0 (σ r1 0)) r0 1 ((bl_up σ r0 0 (σ r1 0)) r1 1)) r0 2 v1) r0 3 v3) r0 4 v5) r0 5 v7) r0 6 v9) r0 7 v11) Q := fun v11 e12 => bl_run 36 (bl_mi_in 23) ok_X5_copyFrom (cuts := cuts_X5_copyFrom) ((((((h v1 e2) v3 e4).2 v5 e6) v7 e8) v9 e10) v11 e12); (j13 ((bl_up (bl_up (bl_up (bl_up (bl_up (bl_up (bl_up σ r0 0 (σ r1 0)) r0 1 ((bl_up σ r0 0 (σ r1 0)) r1 1)) r0 2 v1) r0 3 v3) r0 4 v5) r0 5 v7) r0 6 v9) r1 7) rfl)))); (j14 ((bl_up (bl_up (bl_up (bl_up (bl_up (bl_up σ r0 0 (σ r1 0)) r0 1 ((bl_up σ r0 0 (σ r1 0)) r1 1)) r0 2 v1) r0 3 v3) r0 4 v5) r0 5 v7) r1 6) rfl)))); (j15 ((bl_up (bl_up (bl_up (bl_up (bl_up σ r0 0 (σ r1 0)) r0 1 ((bl_up σ r0 0 (σ r1 0)) r1 1)) r0 2 v1) r0 3 v3) r0 4 v5) r1 5) rfl)))); (j16 ((bl_up (bl_up (bl_up (bl_up σ r0 0 (σ r1 0)) r0 1 ((bl_up σ r0 0 (σ r1 0)) r1 1)) r0 2 v1) r0 3 v3) r1 4) rfl))))); (j17 ((bl_up (bl_up (bl_up σ r0 0 (σ r1 0)) r0 1 ((bl_up σ r0 0 (σ r1 0)) r1 1)) r0 2 v1) r1 3) rfl)))); (j18 ((bl_up (bl_up σ r0 0 (σ r1 0)) r0 1 ((bl_up σ r0 0 (σ r1 0)) r1 1)) r1 2) rfl))))))))
abbrev cuts_X4_forget : List (Nat × List Nat) := []
set_option maxRecDepth 20000 in
theorem vc_X4_forget_0 {Q : Option Value → bl_S → Prop} (σ : bl_S) (r0 : Nat) (hk0 : bl_kd r0 = 4)
    (h : Q none (bl_up (bl_up (bl_up (bl_up σ r0 0 (0 : Int32)) r0 1 (0 : Int32)) r0 2 (0 : Int32)) r0 3 (999 : Int32))) :
    bl_Wx (bl_mi 26) 0 [(0, .ref r0)] [] σ Q :=
  bl_run 16 (bl_mi_in 26) ok_X4_forget (cuts := cuts_X4_forget) (And.intro hk0 (And.intro hk0 (And.intro hk0 (And.intro hk0 h))))
abbrev cuts_X5_walkTo : List (Nat × List Nat) := [(30, [0, 1])]
set_option maxRecDepth 20000 in
theorem vc_X5_walkTo_0 {Q : Option Value → bl_S → Prop} (σ : bl_S) (r0 : Nat) (r1 : Nat) (hk0 : bl_kd r0 = 5) (hk1 : bl_kd r1 = 1)
    (h : (∃ (y4 : Int32) (τ1 : bl_S), bl_Con (bl_mi 6) [.ref r0, .ref r1] σ (some (.int y4)) τ1 ∧ (∀ v5 : Int32, v5 = ((bl_up (bl_up τ1 r0 7 ((σ r0 7) + y4)) r0 0 ((bl_up τ1 r0 7 ((σ r0 7) + y4)) r1 0)) r1 1) → Q none (bl_up (bl_up (bl_up τ1 r0 7 ((σ r0 7) + y4)) r0 0 ((bl_up τ1 r0 7 ((σ r0 7) + y4)) r1 0)) r0 1 v5)))) :
    bl_Wx (bl_mi 31) 0 [(0, .ref r0), (1, .ref r1)] [] σ Q :=
  bl_run 20 (bl_mi_in 31) ok_X5_walkTo (cuts := cuts_X5_walkTo) (And.intro rfl (And.intro hk0 (And.intro hk0 (Exists.elim h fun y4 h3 => Exists.elim h3 fun τ1 h2 => Exists.intro y4 (Exists.intro τ1 (And.intro h2.1 (And.intro hk0 (And.intro hk1 (And.intro hk0 (And.intro hk1 (And.intro hk0 (have j7 : ∀ v5 : Int32, v5 = ((bl_up (bl_up τ1 r0 7 ((σ r0 7) + y4)) r0 0 ((bl_up τ1 r0 7 ((σ r0 7) + y4)) r1 0)) r1 1) → bl_Wx (bl_mi 31) 30 [(0, .ref r0), (1, .ref r1)] [] (bl_up (bl_up (bl_up τ1 r0 7 ((σ r0 7) + y4)) r0 0 ((bl_up τ1 r0 7 ((σ r0 7) + y4)) r1 0)) r0 1 v5) Q := fun v5 e6 => bl_run 20 (bl_mi_in 31) ok_X5_walkTo (cuts := cuts_X5_walkTo) (h2.2 v5 e6); (j7 ((bl_up (bl_up τ1 r0 7 ((σ r0 7) + y4)) r0 0 ((bl_up τ1 r0 7 ((σ r0 7) + y4)) r1 0)) r1 1) rfl)))))))))))))
abbrev cuts_X5_takeHandfuls : List (Nat × List Nat) := [(6, [0, 1, 2, 3, 4, 5]), (57, [0, 1, 2, 3, 4, 5, 6, 7]), (75, [0, 1, 2, 3, 4, 5, 6, 7]), (88, [0, 1, 2, 3, 4, 5, 6, 7])]
set_option maxRecDepth 20000 in
theorem vc_X5_takeHandfuls_0 {Q : Option Value → bl_S → Prop} (σ : bl_S) (r0 : Nat) (r1 : Nat) (x2 : Int32) (x3 : Int32) (hk0 : bl_kd r0 = 5) (hk1 : bl_kd r1 = 1)
    (h : bl_Wx (bl_mi 32) 6 [(0, .ref r0), (1, .ref r1), (2, .int x2), (3, .int x3), (4, .int (0 : Int32)), (5, .int (0 : Int32))] [] σ Q) :
    bl_Wx (bl_mi 32) 0 [(0, .ref r0), (1, .ref r1), (2, .int x2), (3, .int x3)] [] σ Q :=
  bl_run 58 (bl_mi_in 32) ok_X5_takeHandfuls (cuts := cuts_X5_takeHandfuls) h
set_option maxRecDepth 20000 in
theorem vc_X5_takeHandfuls_6 {Q : Option Value → bl_S → Prop} (σ : bl_S) (r0 : Nat) (r1 : Nat) (x2 : Int32) (x3 : Int32) (x4 : Int32) (x5 : Int32) (hk0 : bl_kd r0 = 5) (hk1 : bl_kd r1 = 1)
    (h : ((x5 < x2 → (∃ (y5 : Int32) (τ2 : bl_S), bl_Con (bl_mi 2) [.ref r0, .ref r1] σ (some (.int y5)) τ2 ∧ (∀ v6 : Int32, v6 = (if (999999 : Int32) < (((bl_up τ2 r1 4 ((τ2 r1 4) - y5)) r0 6) + (if y5 < (τ2 r0 3) then y5 else (τ2 r0 3))) then (999999 : Int32) else (((bl_up τ2 r1 4 ((τ2 r1 4) - y5)) r0 6) + (if y5 < (τ2 r0 3) then y5 else (τ2 r0 3)))) → (∀ v8 : Int32, v8 = (if x3 < ((((bl_up (bl_up τ2 r1 4 ((τ2 r1 4) - y5)) r0 6 v6) r0 5) + y5) - (if y5 < (τ2 r0 3) then y5 else (τ2 r0 3))) then x3 else ((((bl_up (bl_up τ2 r1 4 ((τ2 r1 4) - y5)) r0 6 v6) r0 5) + y5) - (if y5 < (τ2 r0 3) then y5 else (τ2 r0 3)))) → (∃ (y13 : Int32) (τ10 : bl_S), bl_Con (bl_mi 1) [.ref r1] (bl_up (bl_up (bl_up τ2 r1 4 ((τ2 r1 4) - y5)) r0 6 v6) r0 5 v8) (some (.int y13)) τ10 ∧ (∀ v14 : Int32, v14 = (((bl_up (bl_up (bl_up τ2 r1 4 ((τ2 r1 4) - y5)) r0 6 v6) r0 5 v8) r0 7) + y13) → bl_Wx (bl_mi 32) 6 [(0, .ref r0), (1, .ref r1), (2, .int x2), (3, .int x3), (4, .int (x4 + y5)), (5, .int (x5 + 1))] [] (bl_up τ10 r0 7 v14) Q)))))) ∧ (¬ x5 < x2 → Q (some (.int x4)) σ))) :
    bl_Wx (bl_mi 32) 6 [(0, .ref r0), (1, .ref r1), (2, .int x2), (3, .int x3), (4, .int x4), (5, .int x5)] [] σ Q :=
  bl_run 58 (bl_mi_in 32) ok_X5_takeHandfuls (cuts := cuts_X5_takeHandfuls) (And.intro (fun c1 => (And.intro hk0 (Exists.elim (h.1 c1) fun y5 h4 => Exists.elim h4 fun τ2 h3 => Exists.intro y5 (Exists.intro τ2 (And.intro h3.1 (And.intro hk0 (And.intro rfl (And.intro hk1 (And.intro hk1 (And.intro hk0 (And.intro hk0 (have j18 : ∀ v6 : Int32, v6 = (if (999999 : Int32) < (((bl_up τ2 r1 4 ((τ2 r1 4) - y5)) r0 6) + (if y5 < (τ2 r0 3) then y5 else (τ2 r0 3))) then (999999 : Int32) else (((bl_up τ2 r1 4 ((τ2 r1 4) - y5)) r0 6) + (if y5 < (τ2 r0 3) then y5 else (τ2 r0 3)))) → bl_Wx (bl_mi 32) 57 [(0, .ref r0), (1, .ref r1), (2, .int x2), (3, .int x3), (4, .int x4), (5, .int x5), (6, .int y5), (7, .int (if y5 < (τ2 r0 3) then y5 else (τ2 r0 3)))] [] (bl_up (bl_up τ2 r1 4 ((τ2 r1 4) - y5)) r0 6 v6) Q := fun v6 e7 => bl_run 58 (bl_mi_in 32) ok_X5_takeHandfuls (cuts := cuts_X5_takeHandfuls) (And.intro hk0 (And.intro hk0 (have j17 : ∀ v8 : Int32, v8 = (if x3 < ((((bl_up (bl_up τ2 r1 4 ((τ2 r1 4) - y5)) r0 6 v6) r0 5) + y5) - (if y5 < (τ2 r0 3) then y5 else (τ2 r0 3))) then x3 else ((((bl_up (bl_up τ2 r1 4 ((τ2 r1 4) - y5)) r0 6 v6) r0 5) + y5) - (if y5 < (τ2 r0 3) then y5 else (τ2 r0 3)))) → bl_Wx (bl_mi 32) 75 [(0, .ref r0), (1, .ref r1), (2, .int x2), (3, .int x3), (4, .int x4), (5, .int x5), (6, .int y5), (7, .int (if y5 < (τ2 r0 3) then y5 else (τ2 r0 3)))] [] (bl_up (bl_up (bl_up τ2 r1 4 ((τ2 r1 4) - y5)) r0 6 v6) r0 5 v8) Q := fun v8 e9 => bl_run 58 (bl_mi_in 32) ok_X5_takeHandfuls (cuts := cuts_X5_takeHandfuls) (And.intro rfl (And.intro hk0 (And.intro hk1 (Exists.elim ((h3.2 v6 e7) v8 e9) fun y13 h12 => Exists.elim h12 fun τ10 h11 => Exists.intro y13 (Exists.intro τ10 (And.intro h11.1 (And.intro hk0 (have j16 : ∀ v14 : Int32, v14 = (((bl_up (bl_up (bl_up τ2 r1 4 ((τ2 r1 4) - y5)) r0 6 v6) r0 5 v8) r0 7) + y13) → bl_Wx (bl_mi 32) 88 [(0, .ref r0), (1, .ref r1), (2, .int x2), (3, .int x3), (4, .int x4), (5, .int x5), (6, .int y5), (7, .int (if y5 < (τ2 r0 3) then y5 else (τ2 r0 3)))] [] (bl_up τ10 r0 7 v14) Q := fun v14 e15 => bl_run 58 (bl_mi_in 32) ok_X5_takeHandfuls (cuts := cuts_X5_takeHandfuls) (h11.2 v14 e15); (j16 (((bl_up (bl_up (bl_up τ2 r1 4 ((τ2 r1 4) - y5)) r0 6 v6) r0 5 v8) r0 7) + y13) rfl))))))))); (j17 (if x3 < ((((bl_up (bl_up τ2 r1 4 ((τ2 r1 4) - y5)) r0 6 v6) r0 5) + y5) - (if y5 < (τ2 r0 3) then y5 else (τ2 r0 3))) then x3 else ((((bl_up (bl_up τ2 r1 4 ((τ2 r1 4) - y5)) r0 6 v6) r0 5) + y5) - (if y5 < (τ2 r0 3) then y5 else (τ2 r0 3)))) rfl)))); (j18 (if (999999 : Int32) < (((bl_up τ2 r1 4 ((τ2 r1 4) - y5)) r0 6) + (if y5 < (τ2 r0 3) then y5 else (τ2 r0 3))) then (999999 : Int32) else (((bl_up τ2 r1 4 ((τ2 r1 4) - y5)) r0 6) + (if y5 < (τ2 r0 3) then y5 else (τ2 r0 3)))) rfl))))))))))))) (fun c1 => (h.2 c1)))
abbrev cuts_X5_isAt : List (Nat × List Nat) := [(27, [0, 1])]
set_option maxRecDepth 20000 in
theorem vc_X5_isAt_0 {Q : Option Value → bl_S → Prop} (σ : bl_S) (r0 : Nat) (r1 : Nat) (hk0 : bl_kd r0 = 5) (hk1 : bl_kd r1 = 1)
    (h : (∀ v3 : Int32, v3 = (if (σ r0 0) = (σ r1 0) then (if (σ r0 1) = (σ r1 1) then (1 : Int32) else (0 : Int32)) else (0 : Int32)) → (v3 = 0 ∨ v3 = 1) ∧ Q (some (.int v3)) σ)) :
    bl_Wx (bl_mi 34) 0 [(0, .ref r0), (1, .ref r1)] [] σ Q :=
  bl_run 17 (bl_mi_in 34) ok_X5_isAt (cuts := cuts_X5_isAt) (And.intro hk0 (And.intro hk1 (have j5 : ∀ v3 : Int32, v3 = (if (σ r0 0) = (σ r1 0) then (if (σ r0 1) = (σ r1 1) then (1 : Int32) else (0 : Int32)) else (0 : Int32)) → bl_Wx (bl_mi 34) 27 [(0, .ref r0), (1, .ref r1)] [.int v3] σ Q := fun v3 e4 => bl_run 17 (bl_mi_in 34) ok_X5_isAt (cuts := cuts_X5_isAt) (And.intro (h v3 e4).1 (h v3 e4).2); (And.intro (fun c1 => (And.intro hk0 (And.intro hk1 (And.intro (fun c2 => (j5 (1 : Int32) (by rw [if_pos c1, if_pos c2]))) (fun c2 => (j5 (0 : Int32) (by rw [if_pos c1, if_neg c2]))))))) (fun c1 => (j5 (0 : Int32) (by rw [if_neg c1])))))))
abbrev cuts_J7_fill_53178 : List (Nat × List Nat) := [(5, [0, 1, 2, 3])]
set_option maxRecDepth 20000 in
theorem vc_J7_fill_53178_0 {Q : Option Value → bl_S → Prop} (σ : bl_S) (r0 : Nat) (x1 : Int32) (hk0 : bl_kd r0 = 20)
    (h : bl_Wx (bl_mi 36) 5 [(0, .ref r0), (1, .int x1), (2, .int (0 : Int32)), (3, .int (Int32.ofNat (bl_ln r0)))] [] σ Q) :
    bl_Wx (bl_mi 36) 0 [(0, .ref r0), (1, .int x1)] [] σ Q :=
  bl_run 18 (bl_mi_in 36) ok_J7_fill_53178 (cuts := cuts_J7_fill_53178) (And.intro hk0 h)
set_option maxRecDepth 20000 in
theorem vc_J7_fill_53178_5 {Q : Option Value → bl_S → Prop} (σ : bl_S) (r0 : Nat) (x1 : Int32) (x2 : Int32) (x3 : Int32) (hk0 : bl_kd r0 = 20)
    (h : ((x2 < x3 → (vp_in x2 (bl_ln r0)) ∧ bl_Wx (bl_mi 36) 5 [(0, .ref r0), (1, .int x1), (2, .int (x2 + 1)), (3, .int x3)] [] (bl_up σ r0 (Int32.toNatClampNeg x2) x1) Q) ∧ (¬ x2 < x3 → Q none σ))) :
    bl_Wx (bl_mi 36) 5 [(0, .ref r0), (1, .int x1), (2, .int x2), (3, .int x3)] [] σ Q :=
  bl_run 18 (bl_mi_in 36) ok_J7_fill_53178 (cuts := cuts_J7_fill_53178) (And.intro (fun c1 => (And.intro hk0 (And.intro (h.1 c1).1 (h.1 c1).2))) (fun c1 => (h.2 c1)))
abbrev cuts_X9_isFull : List (Nat × List Nat) := [(16, [0])]
set_option maxRecDepth 20000 in
theorem vc_X9_isFull_0 {Q : Option Value → bl_S → Prop} (σ : bl_S) (r0 : Nat) (hk0 : bl_kd r0 = 9)
    (h : (∀ v2 : Int32, v2 = (if (σ r0 4) < (σ r0 5) then (0 : Int32) else (1 : Int32)) → (v2 = 0 ∨ v2 = 1) ∧ Q (some (.int v2)) σ)) :
    bl_Wx (bl_mi 63) 0 [(0, .ref r0)] [] σ Q :=
  bl_run 12 (bl_mi_in 63) ok_X9_isFull (cuts := cuts_X9_isFull) (And.intro hk0 (And.intro hk0 (have j4 : ∀ v2 : Int32, v2 = (if (σ r0 4) < (σ r0 5) then (0 : Int32) else (1 : Int32)) → bl_Wx (bl_mi 63) 16 [(0, .ref r0)] [.int v2] σ Q := fun v2 e3 => bl_run 12 (bl_mi_in 63) ok_X9_isFull (cuts := cuts_X9_isFull) (And.intro (h v2 e3).1 (h v2 e3).2); (And.intro (fun c1 => (j4 (0 : Int32) (by rw [if_pos c1]))) (fun c1 => (j4 (1 : Int32) (by rw [if_neg c1])))))))
abbrev cuts_X9_append : List (Nat × List Nat) := [(62, [0, 1, 2, 3, 4])]
set_option maxRecDepth 20000 in
theorem vc_X9_append_0 {Q : Option Value → bl_S → Prop} (σ : bl_S) (r0 : Nat) (x1 : Int32) (x2 : Int32) (x3 : Int32) (x4 : Int32) (hk0 : bl_kd r0 = 9)
    (h : (((σ r0 4) < (σ r0 5) → (bl_kd (bl_rf r0 0) = 20) ∧ (vp_in (σ r0 4) (bl_ln (bl_rf r0 0))) ∧ (bl_kd (bl_rf r0 1) = 20) ∧ (vp_in ((bl_up σ (bl_rf r0 0) (Int32.toNatClampNeg (σ r0 4)) x1) r0 4) (bl_ln (bl_rf r0 1))) ∧ (bl_kd (bl_rf r0 2) = 20) ∧ (vp_in ((bl_up (bl_up σ (bl_rf r0 0) (Int32.toNatClampNeg (σ r0 4)) x1) (bl_rf r0 1) (Int32.toNatClampNeg ((bl_up σ (bl_rf r0 0) (Int32.toNatClampNeg (σ r0 4)) x1) r0 4)) x2) r0 4) (bl_ln (bl_rf r0 2))) ∧ (bl_kd (bl_rf r0 3) = 20) ∧ (vp_in ((bl_up (bl_up (bl_up σ (bl_rf r0 0) (Int32.toNatClampNeg (σ r0 4)) x1) (bl_rf r0 1) (Int32.toNatClampNeg ((bl_up σ (bl_rf r0 0) (Int32.toNatClampNeg (σ r0 4)) x1) r0 4)) x2) (bl_rf r0 2) (Int32.toNatClampNeg ((bl_up (bl_up σ (bl_rf r0 0) (Int32.toNatClampNeg (σ r0 4)) x1) (bl_rf r0 1) (Int32.toNatClampNeg ((bl_up σ (bl_rf r0 0) (Int32.toNatClampNeg (σ r0 4)) x1) r0 4)) x2) r0 4)) x3) r0 4) (bl_ln (bl_rf r0 3)))) ∧ (∀ σ10 : bl_S, σ10 = (if (σ r0 4) < (σ r0 5) then (bl_up (bl_up (bl_up (bl_up (bl_up σ (bl_rf r0 0) (Int32.toNatClampNeg (σ r0 4)) x1) (bl_rf r0 1) (Int32.toNatClampNeg ((bl_up σ (bl_rf r0 0) (Int32.toNatClampNeg (σ r0 4)) x1) r0 4)) x2) (bl_rf r0 2) (Int32.toNatClampNeg ((bl_up (bl_up σ (bl_rf r0 0) (Int32.toNatClampNeg (σ r0 4)) x1) (bl_rf r0 1) (Int32.toNatClampNeg ((bl_up σ (bl_rf r0 0) (Int32.toNatClampNeg (σ r0 4)) x1) r0 4)) x2) r0 4)) x3) (bl_rf r0 3) (Int32.toNatClampNeg ((bl_up (bl_up (bl_up σ (bl_rf r0 0) (Int32.toNatClampNeg (σ r0 4)) x1) (bl_rf r0 1) (Int32.toNatClampNeg ((bl_up σ (bl_rf r0 0) (Int32.toNatClampNeg (σ r0 4)) x1) r0 4)) x2) (bl_rf r0 2) (Int32.toNatClampNeg ((bl_up (bl_up σ (bl_rf r0 0) (Int32.toNatClampNeg (σ r0 4)) x1) (bl_rf r0 1) (Int32.toNatClampNeg ((bl_up σ (bl_rf r0 0) (Int32.toNatClampNeg (σ r0 4)) x1) r0 4)) x2) r0 4)) x3) r0 4)) x4) r0 4 (((bl_up (bl_up (bl_up (bl_up σ (bl_rf r0 0) (Int32.toNatClampNeg (σ r0 4)) x1) (bl_rf r0 1) (Int32.toNatClampNeg ((bl_up σ (bl_rf r0 0) (Int32.toNatClampNeg (σ r0 4)) x1) r0 4)) x2) (bl_rf r0 2) (Int32.toNatClampNeg ((bl_up (bl_up σ (bl_rf r0 0) (Int32.toNatClampNeg (σ r0 4)) x1) (bl_rf r0 1) (Int32.toNatClampNeg ((bl_up σ (bl_rf r0 0) (Int32.toNatClampNeg (σ r0 4)) x1) r0 4)) x2) r0 4)) x3) (bl_rf r0 3) (Int32.toNatClampNeg ((bl_up (bl_up (bl_up σ (bl_rf r0 0) (Int32.toNatClampNeg (σ r0 4)) x1) (bl_rf r0 1) (Int32.toNatClampNeg ((bl_up σ (bl_rf r0 0) (Int32.toNatClampNeg (σ r0 4)) x1) r0 4)) x2) (bl_rf r0 2) (Int32.toNatClampNeg ((bl_up (bl_up σ (bl_rf r0 0) (Int32.toNatClampNeg (σ r0 4)) x1) (bl_rf r0 1) (Int32.toNatClampNeg ((bl_up σ (bl_rf r0 0) (Int32.toNatClampNeg (σ r0 4)) x1) r0 4)) x2) r0 4)) x3) r0 4)) x4) r0 4) + (1 : Int32))) else σ) → Q (some (.int (σ10 r0 4))) σ10))) :
    bl_Wx (bl_mi 64) 0 [(0, .ref r0), (1, .int x1), (2, .int x2), (3, .int x3), (4, .int x4)] [] σ Q :=
  bl_run 41 (bl_mi_in 64) ok_X9_append (cuts := cuts_X9_append) (And.intro hk0 (And.intro hk0 (have j12 : ∀ σ10 : bl_S, σ10 = (if (σ r0 4) < (σ r0 5) then (bl_up (bl_up (bl_up (bl_up (bl_up σ (bl_rf r0 0) (Int32.toNatClampNeg (σ r0 4)) x1) (bl_rf r0 1) (Int32.toNatClampNeg ((bl_up σ (bl_rf r0 0) (Int32.toNatClampNeg (σ r0 4)) x1) r0 4)) x2) (bl_rf r0 2) (Int32.toNatClampNeg ((bl_up (bl_up σ (bl_rf r0 0) (Int32.toNatClampNeg (σ r0 4)) x1) (bl_rf r0 1) (Int32.toNatClampNeg ((bl_up σ (bl_rf r0 0) (Int32.toNatClampNeg (σ r0 4)) x1) r0 4)) x2) r0 4)) x3) (bl_rf r0 3) (Int32.toNatClampNeg ((bl_up (bl_up (bl_up σ (bl_rf r0 0) (Int32.toNatClampNeg (σ r0 4)) x1) (bl_rf r0 1) (Int32.toNatClampNeg ((bl_up σ (bl_rf r0 0) (Int32.toNatClampNeg (σ r0 4)) x1) r0 4)) x2) (bl_rf r0 2) (Int32.toNatClampNeg ((bl_up (bl_up σ (bl_rf r0 0) (Int32.toNatClampNeg (σ r0 4)) x1) (bl_rf r0 1) (Int32.toNatClampNeg ((bl_up σ (bl_rf r0 0) (Int32.toNatClampNeg (σ r0 4)) x1) r0 4)) x2) r0 4)) x3) r0 4)) x4) r0 4 (((bl_up (bl_up (bl_up (bl_up σ (bl_rf r0 0) (Int32.toNatClampNeg (σ r0 4)) x1) (bl_rf r0 1) (Int32.toNatClampNeg ((bl_up σ (bl_rf r0 0) (Int32.toNatClampNeg (σ r0 4)) x1) r0 4)) x2) (bl_rf r0 2) (Int32.toNatClampNeg ((bl_up (bl_up σ (bl_rf r0 0) (Int32.toNatClampNeg (σ r0 4)) x1) (bl_rf r0 1) (Int32.toNatClampNeg ((bl_up σ (bl_rf r0 0) (Int32.toNatClampNeg (σ r0 4)) x1) r0 4)) x2) r0 4)) x3) (bl_rf r0 3) (Int32.toNatClampNeg ((bl_up (bl_up (bl_up σ (bl_rf r0 0) (Int32.toNatClampNeg (σ r0 4)) x1) (bl_rf r0 1) (Int32.toNatClampNeg ((bl_up σ (bl_rf r0 0) (Int32.toNatClampNeg (σ r0 4)) x1) r0 4)) x2) (bl_rf r0 2) (Int32.toNatClampNeg ((bl_up (bl_up σ (bl_rf r0 0) (Int32.toNatClampNeg (σ r0 4)) x1) (bl_rf r0 1) (Int32.toNatClampNeg ((bl_up σ (bl_rf r0 0) (Int32.toNatClampNeg (σ r0 4)) x1) r0 4)) x2) r0 4)) x3) r0 4)) x4) r0 4) + (1 : Int32))) else σ) → bl_Wx (bl_mi 64) 62 [(0, .ref r0), (1, .int x1), (2, .int x2), (3, .int x3), (4, .int x4)] [] σ10 Q := fun σ10 e11 => bl_run 41 (bl_mi_in 64) ok_X9_append (cuts := cuts_X9_append) (And.intro hk0 (h.2 σ10 e11)); (And.intro (fun c1 => (And.intro hk0 (And.intro hk0 (have u2 := (h.1 c1).1; have u3 := (h.1 c1).2.1; (And.intro u2 (And.intro u3 (And.intro hk0 (And.intro hk0 (have u4 := (h.1 c1).2.2.1; have u5 := (h.1 c1).2.2.2.1; (And.intro u4 (And.intro u5 (And.intro hk0 (And.intro hk0 (have u6 := (h.1 c1).2.2.2.2.1; have u7 := (h.1 c1).2.2.2.2.2.1; (And.intro u6 (And.intro u7 (And.intro hk0 (And.intro hk0 (have u8 := (h.1 c1).2.2.2.2.2.2.1; have u9 := (h.1 c1).2.2.2.2.2.2.2; (And.intro u8 (And.intro u9 (And.intro rfl (And.intro hk0 (And.intro hk0 (j12 (bl_up (bl_up (bl_up (bl_up (bl_up σ (bl_rf r0 0) (Int32.toNatClampNeg (σ r0 4)) x1) (bl_rf r0 1) (Int32.toNatClampNeg ((bl_up σ (bl_rf r0 0) (Int32.toNatClampNeg (σ r0 4)) x1) r0 4)) x2) (bl_rf r0 2) (Int32.toNatClampNeg ((bl_up (bl_up σ (bl_rf r0 0) (Int32.toNatClampNeg (σ r0 4)) x1) (bl_rf r0 1) (Int32.toNatClampNeg ((bl_up σ (bl_rf r0 0) (Int32.toNatClampNeg (σ r0 4)) x1) r0 4)) x2) r0 4)) x3) (bl_rf r0 3) (Int32.toNatClampNeg ((bl_up (bl_up (bl_up σ (bl_rf r0 0) (Int32.toNatClampNeg (σ r0 4)) x1) (bl_rf r0 1) (Int32.toNatClampNeg ((bl_up σ (bl_rf r0 0) (Int32.toNatClampNeg (σ r0 4)) x1) r0 4)) x2) (bl_rf r0 2) (Int32.toNatClampNeg ((bl_up (bl_up σ (bl_rf r0 0) (Int32.toNatClampNeg (σ r0 4)) x1) (bl_rf r0 1) (Int32.toNatClampNeg ((bl_up σ (bl_rf r0 0) (Int32.toNatClampNeg (σ r0 4)) x1) r0 4)) x2) r0 4)) x3) r0 4)) x4) r0 4 (((bl_up (bl_up (bl_up (bl_up σ (bl_rf r0 0) (Int32.toNatClampNeg (σ r0 4)) x1) (bl_rf r0 1) (Int32.toNatClampNeg ((bl_up σ (bl_rf r0 0) (Int32.toNatClampNeg (σ r0 4)) x1) r0 4)) x2) (bl_rf r0 2) (Int32.toNatClampNeg ((bl_up (bl_up σ (bl_rf r0 0) (Int32.toNatClampNeg (σ r0 4)) x1) (bl_rf r0 1) (Int32.toNatClampNeg ((bl_up σ (bl_rf r0 0) (Int32.toNatClampNeg (σ r0 4)) x1) r0 4)) x2) r0 4)) x3) (bl_rf r0 3) (Int32.toNatClampNeg ((bl_up (bl_up (bl_up σ (bl_rf r0 0) (Int32.toNatClampNeg (σ r0 4)) x1) (bl_rf r0 1) (Int32.toNatClampNeg ((bl_up σ (bl_rf r0 0) (Int32.toNatClampNeg (σ r0 4)) x1) r0 4)) x2) (bl_rf r0 2) (Int32.toNatClampNeg ((bl_up (bl_up σ (bl_rf r0 0) (Int32.toNatClampNeg (σ r0 4)) x1) (bl_rf r0 1) (Int32.toNatClampNeg ((bl_up σ (bl_rf r0 0) (Int32.toNatClampNeg (σ r0 4)) x1) r0 4)) x2) r0 4)) x3) r0 4)) x4) r0 4) + (1 : Int32))) (by rw [if_pos c1])))))))))))))))))))))))))) (fun c1 => (j12 σ (by rw [if_neg c1])))))))
end
