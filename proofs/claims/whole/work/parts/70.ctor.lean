/-! CONSTRUCTORS, walked by program (wip/whole/gen70.py) -/
def ct_nest : List Cond := [.methodLinkNest RX10 9 yX7_init RX10, .methodLinkNest RX3 11 yX4_init RX10, .methodLinkNest RX3 30 yX1_init RX10, .methodLinkNest RX3 31 yX5_init RX10, .methodLinkNest RX10 33 yX0_init RX10, .methodLinkNest RX0 38 yX1_init RX10, .methodLinkNest RX10 40 yX6_init RX10, .methodLinkNest RX6 23 yX1_init RX10, .methodLinkNest RX10 47 yX2_init RX10, .methodLinkNest RX2 11 yX1_init RX10, .methodLinkNest RX10 54 yX8_init RX10, .methodLinkNest RX8 28 yX1_init RX10, .methodLinkNest RX8 38 yX5_init RX10, .methodLinkNest RX10 61 yX1_init RX10, .methodLinkNest RX10 68 yX5_init RX10, .methodLinkNest RX7 104 yX10_within RX10]
/-- what the making needs of the machine beside its tables -/
def ctS (U : State) : Prop := (∀ w ∈ ct_nest, va_Nw w U) ∧ va_AO RX1 U ∧ va_AO RX5 U ∧ va_AO RX3 U
theorem ctS.warm {s U : State} (h : ctS s) (hW : s.WarmedH U.vm) : ctS U := by
  refine ⟨fun w hw => ?_, h.2.1.moved hW.alike, h.2.2.1.moved hW.alike, h.2.2.2.moved hW.alike⟩
  have h1 := h.1 w hw
  simp only [ct_nest, List.mem_cons, List.not_mem_nil, or_false] at hw
  rcases hw with rfl | rfl | rfl | rfl | rfl | rfl | rfl | rfl | rfl | rfl | rfl | rfl | rfl | rfl | rfl | rfl <;> exact va_Nw.warmM hW h1
theorem ctS.calling {U : State} {g : JFrame} {mk : MethodId} {a : Array Value} (h : ctS U) : ctS (U.calling g mk a) := by
  refine ⟨fun w hw => ?_, h.2.1.moved (Vm.Alike.refl U.vm), h.2.2.1.moved (Vm.Alike.refl U.vm), h.2.2.2.moved (Vm.Alike.refl U.vm)⟩
  have h1 := h.1 w hw
  simp only [ct_nest, List.mem_cons, List.not_mem_nil, or_false] at hw
  rcases hw with rfl | rfl | rfl | rfl | rfl | rfl | rfl | rfl | rfl | rfl | rfl | rfl | rfl | rfl | rfl | rfl <;> exact va_Nw.same rfl (rfl : U.vm = (U.calling g mk a).vm) h1
def ct_ws (y : MethodName) (cc : ByteArray) (n : Nat) : List Cond := Cond.code y cc n none :: bl_gt
theorem ct_good {y : MethodName} {cc : ByteArray} {n : Nat} (h : Cond.code y cc n none ∈ bl_gt) : GoodIn bl_gt (ct_ws y cc n) := fun w hw => by
  rcases List.mem_cons.mp hw with e | e
  · rw [e]; exact bl_gt_good _ h
  · exact bl_gt_good w e
def ctPre (D : va_G) (av : List Value) (w0 : va_W) (sz : Nat) : Array Value → State → Prop := va_Pc av (fun U => U.heap.size = sz ∧ va_P D vwCl w0 U.heap ∧ va_K D vwCl [] U ∧ va_D (fun _ => True) w0 ∧ ctS U)
theorem ct_blind {D : va_G} {av : List Value} {w0 : va_W} {sz : Nat} : FrameBlind (ctPre D av w0 sz) := by
  intro a U g mk h
  obtain ⟨h1, h2, hP, hK, hD, hZ⟩ := h
  exact ⟨h1, h2, hP, va_K.moved (u := U) (U := U.calling g mk a) (Vm.Alike.refl U.vm) hK, hD, hZ.calling⟩
def ctPost (D : va_G) (w0 : va_W) (sz : Nat) {S : Type} (G : S → va_W) (Y : S → List (ClassId × FieldType)) : Array Value → State → Outcome → State → Prop := va_Qv (fun _ : S => True) (fun u t => va_P D vwCl (G u) t.heap ∧ va_K D vwCl (Y u) t ∧ va_D (va_A w0 sz) (G u)) (va_A w0 sz)
theorem cg_0 : Cond.methodLink RX1 3 objectInit ∈ bl_gt := bl_t0 (i := 75) rfl rfl
theorem cg_1 : Cond.instanceMethod objectInit ∈ bl_gt := bl_t0 (i := 22) rfl rfl
theorem cg_2 : Cond.code objectInit ⟨#[0xb1]⟩ 1 none ∈ bl_gt := bl_t0 (i := 23) rfl rfl
theorem cg_3 : Cond.methodLink RX5 3 objectInit ∈ bl_gt := bl_t0 (i := 119) rfl rfl
theorem cg_4 : Cond.methodLink RX4 3 objectInit ∈ bl_gt := bl_t0 (i := 41) rfl rfl
theorem cg_5 : Cond.fieldLink RX4 9 "BerryLane$Law" "canHolds" "I" ∈ bl_gt := bl_t0 (i := 54) rfl rfl
theorem cg_6 : Cond.methodLink RX3 3 objectInit ∈ bl_gt := bl_t0 (i := 35) rfl rfl
theorem cg_7 : Cond.classLink RX3 9 RX4 ∈ bl_gt := bl_t0 (i := 36) rfl rfl
theorem cg_8 : Cond.instantiable RX4 4 ∈ bl_gt := bl_t0 (i := 37) rfl rfl
theorem cg_9 : Cond.initialized RX4 ∈ bl_gt := bl_t0 (i := 4) rfl rfl
theorem cg_10 : Cond.code yX4_init cX4_init 1 none ∈ bl_gt := bl_t0 (i := 40) rfl rfl
theorem cg_11 : Cond.instanceMethod yX4_init ∈ bl_gt := bl_t0 (i := 39) rfl rfl
theorem cg_12 : Cond.fieldLink RX3 12 "BerryLane$Lane" "law" "LBerryLane$Law;" ∈ bl_gt := bl_t0 (i := 159) rfl rfl
theorem cg_13 : Cond.classLink RX3 18 RX1 ∈ bl_gt := bl_t0 (i := 67) rfl rfl
theorem cg_14 : Cond.fieldLink RX3 20 "BerryLane$Lane" "bushes" "[LBerryLane$Bush;" ∈ bl_gt := bl_t0 (i := 163) rfl rfl
theorem cg_15 : Cond.classLink RX3 24 RX5 ∈ bl_gt := bl_t0 (i := 69) rfl rfl
theorem cg_16 : Cond.fieldLink RX3 26 "BerryLane$Lane" "pickers" "[LBerryLane$Picker;" ∈ bl_gt := bl_t0 (i := 170) rfl rfl
theorem cg_17 : Cond.instantiable RX1 6 ∈ bl_gt := bl_t0 (i := 71) rfl rfl
theorem cg_18 : Cond.initialized RX1 ∈ bl_gt := bl_t0 (i := 5) rfl rfl
theorem cg_19 : Cond.code yX1_init cX1_init 1 none ∈ bl_gt := bl_t0 (i := 74) rfl rfl
theorem cg_20 : Cond.instanceMethod yX1_init ∈ bl_gt := bl_t0 (i := 73) rfl rfl
theorem cg_21 : Cond.instantiable RX5 8 ∈ bl_gt := bl_t0 (i := 115) rfl rfl
theorem cg_22 : Cond.initialized RX5 ∈ bl_gt := bl_t0 (i := 6) rfl rfl
theorem cg_23 : Cond.code yX5_init cX5_init 1 none ∈ bl_gt := bl_t0 (i := 118) rfl rfl
theorem cg_24 : Cond.instanceMethod yX5_init ∈ bl_gt := bl_t0 (i := 117) rfl rfl
theorem cg_25 : Cond.methodLink RX9 3 objectInit ∈ bl_gt := bl_t1 (i := 130) rfl rfl
theorem cg_26 : Cond.arrayClass .int ∈ bl_gt := bl_t0 (i := 235) rfl rfl
theorem cg_27 : Cond.fieldLink RX9 9 "BerryLane$Sheet" "picker" "[I" ∈ bl_gt := bl_t1 (i := 134) rfl rfl
theorem cg_28 : Cond.fieldLink RX9 15 "BerryLane$Sheet" "bush" "[I" ∈ bl_gt := bl_t1 (i := 136) rfl rfl
theorem cg_29 : Cond.fieldLink RX9 18 "BerryLane$Sheet" "number" "[I" ∈ bl_gt := bl_t1 (i := 138) rfl rfl
theorem cg_30 : Cond.fieldLink RX9 21 "BerryLane$Sheet" "much" "[I" ∈ bl_gt := bl_t1 (i := 140) rfl rfl
theorem cg_31 : Cond.methodLink RX9 24 Lib.Math.min.name ∈ bl_gt := bl_t1 (i := 131) rfl rfl
theorem cg_32 : Cond.static Lib.Math.min.name ∈ bl_gt := bl_t1 (i := 132) rfl rfl
theorem cg_33 : Cond.initialized "java/lang/Math" ∈ bl_gt := bl_t0 (i := 12) rfl rfl
theorem cg_34 : Cond.code Lib.Math.min.name Lib.Math.min.code 2 (some .int) ∈ bl_gt := bl_t1 (i := 133) rfl rfl
theorem cg_35 : Cond.fieldLink RX9 30 "BerryLane$Sheet" "room" "I" ∈ bl_gt := bl_t1 (i := 145) rfl rfl
theorem cg_36 : Cond.methodLink RX7 3 objectInit ∈ bl_gt := bl_t0 (i := 29) rfl rfl
theorem cg_37 : Cond.classLink RX7 9 RX3 ∈ bl_gt := bl_t0 (i := 30) rfl rfl
theorem cg_38 : Cond.instantiable RX3 7 ∈ bl_gt := bl_t0 (i := 31) rfl rfl
theorem cg_39 : Cond.initialized RX3 ∈ bl_gt := bl_t0 (i := 3) rfl rfl
theorem cg_40 : Cond.code yX3_init cX3_init 2 none ∈ bl_gt := bl_t0 (i := 34) rfl rfl
theorem cg_41 : Cond.methodLink RX7 11 yX3_init ∈ bl_gt := bl_t0 (i := 32) rfl rfl
theorem cg_42 : Cond.instanceMethod yX3_init ∈ bl_gt := bl_t0 (i := 33) rfl rfl
theorem cg_43 : Cond.fieldLink RX7 12 "BerryLane$Reader" "draft" "LBerryLane$Lane;" ∈ bl_gt := bl_t0 (i := 206) rfl rfl
theorem cg_44 : Cond.fieldLink RX7 18 "BerryLane$Reader" "faultPlace" "I" ∈ bl_gt := bl_t0 (i := 210) rfl rfl
theorem cg_45 : Cond.arrayClass .char ∈ bl_gt := bl_t0 (i := 234) rfl rfl
theorem cg_46 : Cond.fieldLink RX7 22 "BerryLane$Reader" "text" "[C" ∈ bl_gt := bl_t0 (i := 212) rfl rfl
theorem cg_47 : Cond.fieldLink RX7 26 "BerryLane$Reader" "numbers" "[I" ∈ bl_gt := bl_t0 (i := 213) rfl rfl
theorem cg_48 : Cond.methodLink RX0 3 objectInit ∈ bl_gt := bl_t1 (i := 4) rfl rfl
theorem cg_49 : Cond.fieldLink RX0 9 "BerryLane$BestWay" "stopBush" "[I" ∈ bl_gt := bl_t1 (i := 10) rfl rfl
theorem cg_50 : Cond.fieldLink RX0 15 "BerryLane$BestWay" "stopHandfuls" "[I" ∈ bl_gt := bl_t1 (i := 12) rfl rfl
theorem cg_51 : Cond.fieldLink RX0 18 "BerryLane$BestWay" "shortest" "[I" ∈ bl_gt := bl_t1 (i := 14) rfl rfl
theorem cg_52 : Cond.fieldLink RX0 21 "BerryLane$BestWay" "gathered" "[I" ∈ bl_gt := bl_t1 (i := 15) rfl rfl
theorem cg_53 : Cond.fieldLink RX0 24 "BerryLane$BestWay" "gains" "[I" ∈ bl_gt := bl_t1 (i := 16) rfl rfl
theorem cg_54 : Cond.fieldLink RX0 27 "BerryLane$BestWay" "useful" "[I" ∈ bl_gt := bl_t1 (i := 17) rfl rfl
theorem cg_55 : Cond.fieldLink RX0 30 "BerryLane$BestWay" "handfulMoments" "[I" ∈ bl_gt := bl_t1 (i := 18) rfl rfl
theorem cg_56 : Cond.fieldLink RX0 33 "BerryLane$BestWay" "wayMoments" "[I" ∈ bl_gt := bl_t1 (i := 19) rfl rfl
theorem cg_57 : Cond.classLink RX0 36 RX1 ∈ bl_gt := bl_t1 (i := 5) rfl rfl
theorem cg_58 : Cond.fieldLink RX0 39 "BerryLane$BestWay" "trial" "LBerryLane$Bush;" ∈ bl_gt := bl_t1 (i := 20) rfl rfl
theorem cg_59 : Cond.methodLink RX6 3 objectInit ∈ bl_gt := bl_t1 (i := 65) rfl rfl
theorem cg_60 : Cond.fieldLink RX6 9 "BerryLane$Places" "gains" "[I" ∈ bl_gt := bl_t1 (i := 70) rfl rfl
theorem cg_61 : Cond.fieldLink RX6 15 "BerryLane$Places" "row" "[I" ∈ bl_gt := bl_t1 (i := 71) rfl rfl
theorem cg_62 : Cond.fieldLink RX6 18 "BerryLane$Places" "bestRow" "[I" ∈ bl_gt := bl_t1 (i := 72) rfl rfl
theorem cg_63 : Cond.classLink RX6 21 RX1 ∈ bl_gt := bl_t1 (i := 66) rfl rfl
theorem cg_64 : Cond.fieldLink RX6 24 "BerryLane$Places" "trial" "LBerryLane$Bush;" ∈ bl_gt := bl_t1 (i := 73) rfl rfl
theorem cg_65 : Cond.methodLink RX2 3 objectInit ∈ bl_gt := bl_t1 (i := 96) rfl rfl
theorem cg_66 : Cond.classLink RX2 9 RX1 ∈ bl_gt := bl_t1 (i := 97) rfl rfl
theorem cg_67 : Cond.fieldLink RX2 12 "BerryLane$Contest" "trial" "LBerryLane$Bush;" ∈ bl_gt := bl_t1 (i := 107) rfl rfl
theorem cg_68 : Cond.methodLink RX8 3 objectInit ∈ bl_gt := bl_t1 (i := 124) rfl rfl
theorem cg_69 : Cond.classLink RX8 9 RX9 ∈ bl_gt := bl_t1 (i := 125) rfl rfl
theorem cg_70 : Cond.instantiable RX9 6 ∈ bl_gt := bl_t1 (i := 126) rfl rfl
theorem cg_71 : Cond.initialized RX9 ∈ bl_gt := bl_t0 (i := 11) rfl rfl
theorem cg_72 : Cond.code yX9_init cX9_init 2 none ∈ bl_gt := bl_t1 (i := 129) rfl rfl
theorem cg_73 : Cond.methodLink RX8 11 yX9_init ∈ bl_gt := bl_t1 (i := 127) rfl rfl
theorem cg_74 : Cond.instanceMethod yX9_init ∈ bl_gt := bl_t1 (i := 128) rfl rfl
theorem cg_75 : Cond.fieldLink RX8 14 "BerryLane$Seen" "remains" "LBerryLane$Sheet;" ∈ bl_gt := bl_t1 (i := 163) rfl rfl
theorem cg_76 : Cond.fieldLink RX8 20 "BerryLane$Seen" "cans" "LBerryLane$Sheet;" ∈ bl_gt := bl_t1 (i := 165) rfl rfl
theorem cg_77 : Cond.fieldLink RX8 23 "BerryLane$Seen" "book" "LBerryLane$Sheet;" ∈ bl_gt := bl_t1 (i := 167) rfl rfl
theorem cg_78 : Cond.classLink RX8 26 RX1 ∈ bl_gt := bl_t1 (i := 159) rfl rfl
theorem cg_79 : Cond.fieldLink RX8 29 "BerryLane$Seen" "untouched" "LBerryLane$Bush;" ∈ bl_gt := bl_t1 (i := 171) rfl rfl
theorem cg_80 : Cond.fieldLink RX8 33 "BerryLane$Seen" "trial" "LBerryLane$Bush;" ∈ bl_gt := bl_t1 (i := 172) rfl rfl
theorem cg_81 : Cond.classLink RX8 36 RX5 ∈ bl_gt := bl_t1 (i := 161) rfl rfl
theorem cg_82 : Cond.fieldLink RX8 39 "BerryLane$Seen" "guess" "LBerryLane$Picker;" ∈ bl_gt := bl_t1 (i := 173) rfl rfl
theorem cg_83 : Cond.fieldLink RX8 43 "BerryLane$Seen" "ripeThen" "[I" ∈ bl_gt := bl_t1 (i := 174) rfl rfl
theorem cg_84 : Cond.methodLink RX10 1 objectInit ∈ bl_gt := bl_t0 (i := 21) rfl rfl
theorem cg_85 : Cond.classLink RX10 7 RX7 ∈ bl_gt := bl_t0 (i := 24) rfl rfl
theorem cg_86 : Cond.instantiable RX7 8 ∈ bl_gt := bl_t0 (i := 25) rfl rfl
theorem cg_87 : Cond.initialized RX7 ∈ bl_gt := bl_t0 (i := 2) rfl rfl
theorem cg_88 : Cond.code yX7_init cX7_init 1 none ∈ bl_gt := bl_t0 (i := 28) rfl rfl
theorem cg_89 : Cond.instanceMethod yX7_init ∈ bl_gt := bl_t0 (i := 27) rfl rfl
theorem cg_90 : Cond.fieldLink RX10 10 "BerryLane" "reader" "LBerryLane$Reader;" ∈ bl_gt := bl_t1 (i := 196) rfl rfl
theorem cg_91 : Cond.classLink RX10 16 RX3 ∈ bl_gt := bl_t0 (i := 236) rfl rfl
theorem cg_92 : Cond.methodLink RX10 18 yX3_init ∈ bl_gt := bl_t0 (i := 237) rfl rfl
theorem cg_93 : Cond.fieldLink RX10 19 "BerryLane" "now" "LBerryLane$Lane;" ∈ bl_gt := bl_t1 (i := 197) rfl rfl
theorem cg_94 : Cond.fieldLink RX10 23 "BerryLane" "images" "[LBerryLane$Lane;" ∈ bl_gt := bl_t1 (i := 198) rfl rfl
theorem cg_95 : Cond.arrayClass .boolean ∈ bl_gt := bl_t1 (i := 59) rfl rfl
theorem cg_96 : Cond.fieldLink RX10 27 "BerryLane" "kept" "[Z" ∈ bl_gt := bl_t1 (i := 199) rfl rfl
theorem cg_97 : Cond.classLink RX10 31 RX0 ∈ bl_gt := bl_t0 (i := 239) rfl rfl
theorem cg_98 : Cond.instantiable RX0 16 ∈ bl_gt := bl_t1 (i := 0) rfl rfl
theorem cg_99 : Cond.initialized RX0 ∈ bl_gt := bl_t0 (i := 7) rfl rfl
theorem cg_100 : Cond.code yX0_init cX0_init 1 none ∈ bl_gt := bl_t1 (i := 3) rfl rfl
theorem cg_101 : Cond.instanceMethod yX0_init ∈ bl_gt := bl_t1 (i := 2) rfl rfl
theorem cg_102 : Cond.fieldLink RX10 34 "BerryLane" "bestWay" "LBerryLane$BestWay;" ∈ bl_gt := bl_t1 (i := 200) rfl rfl
theorem cg_103 : Cond.classLink RX10 38 RX6 ∈ bl_gt := bl_t1 (i := 60) rfl rfl
theorem cg_104 : Cond.instantiable RX6 7 ∈ bl_gt := bl_t1 (i := 61) rfl rfl
theorem cg_105 : Cond.initialized RX6 ∈ bl_gt := bl_t0 (i := 8) rfl rfl
theorem cg_106 : Cond.code yX6_init cX6_init 1 none ∈ bl_gt := bl_t1 (i := 64) rfl rfl
theorem cg_107 : Cond.instanceMethod yX6_init ∈ bl_gt := bl_t1 (i := 63) rfl rfl
theorem cg_108 : Cond.fieldLink RX10 41 "BerryLane" "places" "LBerryLane$Places;" ∈ bl_gt := bl_t1 (i := 201) rfl rfl
theorem cg_109 : Cond.classLink RX10 45 RX2 ∈ bl_gt := bl_t1 (i := 91) rfl rfl
theorem cg_110 : Cond.instantiable RX2 5 ∈ bl_gt := bl_t1 (i := 92) rfl rfl
theorem cg_111 : Cond.initialized RX2 ∈ bl_gt := bl_t0 (i := 9) rfl rfl
theorem cg_112 : Cond.code yX2_init cX2_init 1 none ∈ bl_gt := bl_t1 (i := 95) rfl rfl
theorem cg_113 : Cond.instanceMethod yX2_init ∈ bl_gt := bl_t1 (i := 94) rfl rfl
theorem cg_114 : Cond.fieldLink RX10 48 "BerryLane" "contest" "LBerryLane$Contest;" ∈ bl_gt := bl_t1 (i := 202) rfl rfl
theorem cg_115 : Cond.classLink RX10 52 RX8 ∈ bl_gt := bl_t1 (i := 119) rfl rfl
theorem cg_116 : Cond.instantiable RX8 8 ∈ bl_gt := bl_t1 (i := 120) rfl rfl
theorem cg_117 : Cond.initialized RX8 ∈ bl_gt := bl_t0 (i := 10) rfl rfl
theorem cg_118 : Cond.code yX8_init cX8_init 1 none ∈ bl_gt := bl_t1 (i := 123) rfl rfl
theorem cg_119 : Cond.instanceMethod yX8_init ∈ bl_gt := bl_t1 (i := 122) rfl rfl
theorem cg_120 : Cond.fieldLink RX10 55 "BerryLane" "seen" "LBerryLane$Seen;" ∈ bl_gt := bl_t1 (i := 203) rfl rfl
theorem cg_121 : Cond.classLink RX10 59 RX1 ∈ bl_gt := bl_t1 (i := 192) rfl rfl
theorem cg_122 : Cond.fieldLink RX10 62 "BerryLane" "triedBush" "LBerryLane$Bush;" ∈ bl_gt := bl_t1 (i := 204) rfl rfl
theorem cg_123 : Cond.classLink RX10 66 RX5 ∈ bl_gt := bl_t1 (i := 194) rfl rfl
theorem cg_124 : Cond.fieldLink RX10 69 "BerryLane" "triedPicker" "LBerryLane$Picker;" ∈ bl_gt := bl_t1 (i := 205) rfl rfl
theorem cg_125 : Cond.fieldLink RX10 73 "BerryLane" "faultPlace" "I" ∈ bl_gt := bl_t1 (i := 206) rfl rfl
theorem cg_126 : Cond.methodLink RX11 1 objectInit ∈ bl_gt := bl_t3 (i := 213) rfl rfl
theorem cg_127 : Cond.fieldLink RX11 7 "BerryLaneModel" "holds" "I" ∈ bl_gt := bl_t3 (i := 217) rfl rfl
theorem cg_128 : Cond.fieldLink RX11 13 "BerryLaneModel" "bushAt" "[I" ∈ bl_gt := bl_t3 (i := 219) rfl rfl
theorem cg_129 : Cond.fieldLink RX11 17 "BerryLaneModel" "bushSide" "[I" ∈ bl_gt := bl_t3 (i := 220) rfl rfl
theorem cg_130 : Cond.fieldLink RX11 20 "BerryLaneModel" "kind" "[I" ∈ bl_gt := bl_t3 (i := 221) rfl rfl
theorem cg_131 : Cond.fieldLink RX11 23 "BerryLaneModel" "red" "[I" ∈ bl_gt := bl_t3 (i := 222) rfl rfl
theorem cg_132 : Cond.fieldLink RX11 26 "BerryLaneModel" "ripe" "[I" ∈ bl_gt := bl_t3 (i := 223) rfl rfl
theorem cg_133 : Cond.fieldLink RX11 29 "BerryLaneModel" "soft" "[I" ∈ bl_gt := bl_t3 (i := 224) rfl rfl
theorem cg_134 : Cond.fieldLink RX11 32 "BerryLaneModel" "yard" "[I" ∈ bl_gt := bl_t3 (i := 226) rfl rfl
theorem cg_135 : Cond.fieldLink RX11 35 "BerryLaneModel" "side" "[I" ∈ bl_gt := bl_t3 (i := 227) rfl rfl
theorem cg_136 : Cond.fieldLink RX11 38 "BerryLaneModel" "quick" "[I" ∈ bl_gt := bl_t3 (i := 228) rfl rfl
theorem cg_137 : Cond.fieldLink RX11 41 "BerryLaneModel" "eats" "[I" ∈ bl_gt := bl_t3 (i := 229) rfl rfl
theorem cg_138 : Cond.fieldLink RX11 44 "BerryLaneModel" "high" "[Z" ∈ bl_gt := bl_t3 (i := 230) rfl rfl
theorem cg_139 : Cond.fieldLink RX11 48 "BerryLaneModel" "can" "[I" ∈ bl_gt := bl_t3 (i := 231) rfl rfl
theorem cg_140 : Cond.fieldLink RX11 51 "BerryLaneModel" "eaten" "[I" ∈ bl_gt := bl_t3 (i := 232) rfl rfl
theorem cg_141 : Cond.fieldLink RX11 54 "BerryLaneModel" "clock" "[I" ∈ bl_gt := bl_t3 (i := 233) rfl rfl
theorem cg_142 : Cond.fieldLink RX11 57 "BerryLaneModel" "text" "[I" ∈ bl_gt := bl_t3 (i := 236) rfl rfl
theorem cg_143 : Cond.fieldLink RX11 60 "BerryLaneModel" "faultPlace" "I" ∈ bl_gt := bl_t3 (i := 238) rfl rfl
theorem cg_144 : Cond.fieldLink RX11 63 "BerryLaneModel" "readLaw" "[I" ∈ bl_gt := bl_t4 (i := 2) rfl rfl
theorem cg_145 : Cond.fieldLink RX11 66 "BerryLaneModel" "readHolds" "[I" ∈ bl_gt := bl_t4 (i := 4) rfl rfl
theorem cg_146 : Cond.fieldLink RX11 69 "BerryLaneModel" "readAt" "[I" ∈ bl_gt := bl_t4 (i := 6) rfl rfl
theorem cg_147 : Cond.fieldLink RX11 72 "BerryLaneModel" "readSide" "[I" ∈ bl_gt := bl_t4 (i := 7) rfl rfl
theorem cg_148 : Cond.fieldLink RX11 75 "BerryLaneModel" "readKind" "[I" ∈ bl_gt := bl_t4 (i := 8) rfl rfl
theorem cg_149 : Cond.fieldLink RX11 78 "BerryLaneModel" "readRed" "[I" ∈ bl_gt := bl_t4 (i := 9) rfl rfl
theorem cg_150 : Cond.fieldLink RX11 81 "BerryLaneModel" "readRipe" "[I" ∈ bl_gt := bl_t4 (i := 10) rfl rfl
theorem cg_151 : Cond.fieldLink RX11 84 "BerryLaneModel" "readSoft" "[I" ∈ bl_gt := bl_t4 (i := 11) rfl rfl
theorem cg_152 : Cond.fieldLink RX11 87 "BerryLaneModel" "readYard" "[I" ∈ bl_gt := bl_t4 (i := 13) rfl rfl
theorem cg_153 : Cond.fieldLink RX11 90 "BerryLaneModel" "readQuick" "[I" ∈ bl_gt := bl_t4 (i := 14) rfl rfl
theorem cg_154 : Cond.fieldLink RX11 93 "BerryLaneModel" "readEats" "[I" ∈ bl_gt := bl_t4 (i := 15) rfl rfl
theorem cg_155 : Cond.fieldLink RX11 96 "BerryLaneModel" "readHigh" "[I" ∈ bl_gt := bl_t4 (i := 16) rfl rfl
theorem cg_156 : Cond.fieldLink RX11 99 "BerryLaneModel" "wasRed" "[I" ∈ bl_gt := bl_t4 (i := 17) rfl rfl
theorem cg_157 : Cond.fieldLink RX11 102 "BerryLaneModel" "wasRipe" "[I" ∈ bl_gt := bl_t4 (i := 18) rfl rfl
theorem cg_158 : Cond.fieldLink RX11 105 "BerryLaneModel" "wasSoft" "[I" ∈ bl_gt := bl_t4 (i := 19) rfl rfl
theorem cg_159 : Cond.fieldLink RX11 108 "BerryLaneModel" "gains" "[I" ∈ bl_gt := bl_t4 (i := 20) rfl rfl
theorem cg_160 : Cond.fieldLink RX11 111 "BerryLaneModel" "most" "[I" ∈ bl_gt := bl_t4 (i := 21) rfl rfl
theorem cg_161 : Cond.fieldLink RX11 114 "BerryLaneModel" "cansAt" "[I" ∈ bl_gt := bl_t4 (i := 22) rfl rfl
theorem cg_162 : Cond.fieldLink RX11 117 "BerryLaneModel" "leftBush" "[I" ∈ bl_gt := bl_t4 (i := 24) rfl rfl
theorem cg_163 : Cond.fieldLink RX11 120 "BerryLaneModel" "leftDays" "[I" ∈ bl_gt := bl_t4 (i := 25) rfl rfl
theorem cg_164 : Cond.fieldLink RX11 123 "BerryLaneModel" "leftRipe" "[I" ∈ bl_gt := bl_t4 (i := 26) rfl rfl
theorem cg_165 : Cond.fieldLink RX11 126 "BerryLaneModel" "canWho" "[I" ∈ bl_gt := bl_t4 (i := 28) rfl rfl
theorem cg_166 : Cond.fieldLink RX11 129 "BerryLaneModel" "canBush" "[I" ∈ bl_gt := bl_t4 (i := 29) rfl rfl
theorem cg_167 : Cond.fieldLink RX11 132 "BerryLaneModel" "canHands" "[I" ∈ bl_gt := bl_t4 (i := 30) rfl rfl
theorem cg_168 : Cond.fieldLink RX11 135 "BerryLaneModel" "canMuch" "[I" ∈ bl_gt := bl_t4 (i := 31) rfl rfl
theorem cg_169 : Cond.fieldLink RX11 138 "BerryLaneModel" "bookWho" "[I" ∈ bl_gt := bl_t4 (i := 33) rfl rfl
theorem cg_170 : Cond.fieldLink RX11 141 "BerryLaneModel" "bookBush" "[I" ∈ bl_gt := bl_t4 (i := 34) rfl rfl
theorem cg_171 : Cond.fieldLink RX11 144 "BerryLaneModel" "bookGave" "[I" ∈ bl_gt := bl_t4 (i := 35) rfl rfl
theorem cg_172 : Cond.fieldLink RX11 147 "BerryLaneModel" "images" "[I" ∈ bl_gt := bl_t4 (i := 36) rfl rfl
theorem cg_173 : Cond.fieldLink RX11 150 "BerryLaneModel" "isKept" "[Z" ∈ bl_gt := bl_t4 (i := 37) rfl rfl
theorem cg_174 : Cond.fieldLink RX11 153 "BerryLaneModel" "ripens" "I" ∈ bl_gt := bl_t3 (i := 214) rfl rfl
