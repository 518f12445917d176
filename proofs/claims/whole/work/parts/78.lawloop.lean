/-! the law, as the skeleton has it -/
def R_law : String := "BerryLaneLaw"
def lw_P (b : Addr) (xs : List Int32) (args : Array Value) (s : State) : Prop := args = #[.ref b] ∧ s.IntsAt b xs ∧ xs.length ≤ 320 ∧ (Jvm.Cond.and given_1 narrow_1).before args s = true
def lw_Q (_ : Array Value) (s : State) (o : Outcome) (t : State) : Prop := o = .returned (some (.int 1)) ∧ Framed s o t [] 600000 7302250
def lw_Z (below : List Frame) (a : Array Value) (s : State) : State → Prop := fun t => ∃ o, t.status = .running ∧ Ended t below o ∧ lw_Q a s o t
/-- the law's own end, with 1 on the stack, nothing written that was there before, its room as the claim has it -/
theorem lw_ret {p : Program} {l : Launch} {e : Env} {s : State} {m : MethodId} {below : List Frame} {meth : Method} {c : Code} {b : Nat} (hx : p.tables.exec = Jvm.exec) (hb : c.code = code) (hr : meth.sig.returnType = ret) (hlocks : meth.locks = false) {pc : Nat} {H : Heap} {ls : Array Slot} (hdg : decode code pc = .ok (.ireturn, 1)) : W p l e room_1 s m #[Value.ref b] below meth c H [] 600000 7302250 (lw_Z below #[Value.ref b] s) (F0 m pc ls [.int 1]) := by
  intro T hT X
  obtain ⟨fs, hret, hrun, hended, hW, hframe⟩ := X.leave (v := some (.int 1)) (hlocks := hlocks) (fun h => by rw [hr] at h; cases h)
  have hmeth' : T.vm.method? m = some meth := X.method'
  refine ⟨T.setFrames fs, ?_, .returned (some (.int 1)), hrun, hended, rfl, ⟨_, rfl⟩, hW, hframe⟩
  jvm_step X.here [X.here.top, hx, hb, hdg, hmeth', hr, ret, narrow_b1]
  (try refine ⟨rfl, ?_⟩); (try refine ⟨rfl, ?_⟩)
  first | (intro acts; rw [hret _ acts rfl rfl rfl]) | rw [hret _ _ rfl rfl rfl]
  exact Steps.refl _
/-- what holds at the law's entry: the machine, the code, the tables' words (any of lw_tbl by 'hts w (by decide +kernel)'), the script of L ints xs at the cell b, what the Statement gives of the start (any of its parts by flat_of_before) -/
def lw_At (p : Program) (s : State) (m : MethodId) (meth : Method) (c : Code) (b L : Nat) (xs : Nat → Int32) : Prop :=
  p.tables.exec = Jvm.exec ∧ c.code = code ∧ meth.sig.returnType = ret ∧ c.maxLocals = 4 ∧ s.vm.findClass R_law = some m.cls ∧ (∀ w ∈ lw_tbl, w.before #[Value.ref b] s = true) ∧ va_X b L xs s s.heap ∧ b < s.heap.size ∧ meth.locks = false ∧ (Jvm.Cond.and given_1 narrow_1).before #[Value.ref b] s = true
/-! THE LAW: its loop -/
set_option maxHeartbeats 8000000 in
set_option maxRecDepth 100000 in
theorem law_loop {D : va_G} {α : Nat → Nat} {cA : Nat → ClassId} {p : Program} {l : Launch} {e : Env} {s : State} {m : MethodId} {b : Nat} {below : List Frame} {meth : Method} {c : Code} {L : Nat} {xs : Nat → Int32} (hL : L ≤ 320) (C : bl_CX lawMI D α cA (fun q : Nat => s.heap.size ≤ q) p room_1 s m #[Value.ref b] meth c 600000 7302250) (hX : va_X b L xs s s.heap) (hbl : b < s.heap.size) :
    ∀ (n i : Nat), i ≤ L + 5 → L + 6 ≤ i + n → ∀ (σ : bl_S) (H : Heap) (locs : List Loc) (ls : Array Slot), Inv σ → va_P D vwCl (bl_ws α cA σ) H → va_S (fun q : Nat => s.heap.size ≤ q) s.heap H locs → lv_has ls 4 [(0, .ref b), (1, .ref (α 0)), (2, .ref (α 1)), (3, .int (nI i))] → W p l e room_1 s m #[Value.ref b] below meth c H locs 600000 7302250 (lw_Z below #[Value.ref b] s) (F0 m 18 ls []) := by
  have hx := C.1
  have hb : c.code = code := C.2.1
  have hr : meth.sig.returnType = ret := C.2.2.2.1
  have hlocks : meth.locks = false := C.2.2.2.2.1
  have hbA : ¬ (fun q : Nat => s.heap.size ≤ q) b := Nat.not_le.mpr hbl
  intro n
  induction n with
  | zero =>
    intro i h1 h2
    exact absurd h2 (by omega)
  | succ n ih =>
    intro i hi hin σ H locs ls hI hP hS hl
    refine lv_iload_n hx hb dL_18 rfl (lv_at hl 3 rfl) ?_
    refine lv_aload_n hx hb dL_19 rfl (lv_at hl 0 rfl) ?_
    refine va_slen hx hb hX hbl hbA hS dL_20 ?_
    refine lv_iconst (v := 5) hx hb dL_21 (by decide) ?_
    refine lv_isub hx hb dL_22 ?_
    refine lv_icmp_gt (tgt := 1203) hx hb dL_23 (by decide) (fun _ => ?_) (fun z => ?_)
    · refine lv_iconst (v := 1) hx hb dL_1203 (by decide) ?_
      refine va_forget (fun q hq => hS.2.2 q hq) ?_
      exact lw_ret hx hb hr hlocks dL_1204
    · have hlt : i + 5 ≤ L := by
        rcases Nat.lt_or_ge L (i + 5) with q | q
        · exfalso
          apply z
          show nI L - nI 5 < nI i
          rw [Int32.lt_iff_toInt_lt, pk_sub_toInt (by omega) (by omega), nI_toInt (by omega)]
          omega
        · exact q
      have hv : ∀ k : Nat, k < 5 → vp_in (nI i + nI k) L := fun k hk => by
        rw [nI_add]
        exact vp_in_nI (by omega) (by omega)
      have C2 : LC D α cA (fun q : Nat => s.heap.size ≤ q) p s m b meth c L xs i := ⟨C, hX, hbl, hbA, hv⟩
      have next : ∀ (σ2 : bl_S) (H2 : Heap) (locs2 : List Loc), Inv σ2 → va_P D vwCl (bl_ws α cA σ2) H2 → va_S (fun q : Nat => s.heap.size ≤ q) s.heap H2 locs2 → W p l e room_1 s m #[Value.ref b] below meth c H2 locs2 600000 7302250 (lw_Z below #[Value.ref b] s) (F0 m 1197 ls []) := by
        intro σ2 H2 locs2 hI2 hP2 hS2
        refine lv_iinc (v := nI (i + 5)) (lv' := [(3, .int (nI (i + 5))), (0, .ref b), (1, .ref (α 0)), (2, .ref (α 1))]) hx hb dL_1197 hl (k := 3) rfl (by rw [← nI_add]; rfl) (by decide) rfl (fun ls hl => ?_)
        refine lv_goto (tgt := 18) hx hb dL_1200 (by decide) ?_
        exact ih (i + 5) (by omega) (by omega) σ2 H2 locs2 ls hI2 hP2 hS2 (lv_sub hl [1, 2, 3, 0] rfl)
      refine lv_aload_n hx hb dL_26 rfl (lv_at hl 0 rfl) ?_
      refine lv_iload_n hx hb dL_27 rfl (lv_at hl 3 rfl) ?_
      refine va_sld hx hb hX hbl hbA hS (vp_in_nI (n := i) (by omega) (by omega)) dL_28 ?_
      refine lv_bipush (v := 31) hx hb dL_29 (by decide) ?_
      refine lv_iand hx hb dL_31 ?_
      obtain ⟨j, j32, ej⟩ := pk_andE (xs (nI i).toNatClampNeg) (m := 31) 5 (by decide)
      rw [ej]
      match j, j32 with
      | 0, _ => exact lv_tableIn (off := 140) (tgt := 172) hx hb dL_32 (by decide) (by decide) (by decide +kernel) (by decide) (br_feed C2 hI hP hS hl next)
      | 1, _ => exact lv_tableIn (off := 163) (tgt := 195) hx hb dL_32 (by decide) (by decide) (by decide +kernel) (by decide) (br_lane C2 hI hP hS hl next)
      | 2, _ => exact lv_tableIn (off := 176) (tgt := 208) hx hb dL_32 (by decide) (by decide) (by decide +kernel) (by decide) (br_fault C2 hI hP hS hl next)
      | 3, _ => exact lv_tableIn (off := 189) (tgt := 221) hx hb dL_32 (by decide) (by decide) (by decide +kernel) (by decide) (br_told C2 hI hP hS hl next)
      | 4, _ => exact lv_tableIn (off := 212) (tgt := 244) hx hb dL_32 (by decide) (by decide) (by decide +kernel) (by decide) (br_bush C2 hI hP hS hl next)
      | 5, _ => exact lv_tableIn (off := 245) (tgt := 277) hx hb dL_32 (by decide) (by decide) (by decide +kernel) (by decide) (br_picker C2 hI hP hS hl next)
      | 6, _ => exact lv_tableIn (off := 278) (tgt := 310) hx hb dL_32 (by decide) (by decide) (by decide +kernel) (by decide) (br_gives C2 hI hP hS hl next)
      | 7, _ => exact lv_tableIn (off := 311) (tgt := 343) hx hb dL_32 (by decide) (by decide) (by decide +kernel) (by decide) (br_way C2 hI hP hS hl next)
      | 8, _ => exact lv_tableIn (off := 344) (tgt := 376) hx hb dL_32 (by decide) (by decide) (by decide +kernel) (by decide) (br_go C2 hI hP hS hl next)
      | 9, _ => exact lv_tableIn (off := 377) (tgt := 409) hx hb dL_32 (by decide) (by decide) (by decide +kernel) (by decide) (br_pick C2 hI hP hS hl next)
      | 10, _ => exact lv_tableIn (off := 420) (tgt := 452) hx hb dL_32 (by decide) (by decide) (by decide +kernel) (by decide) (br_stick C2 hI hP hS hl next)
      | 11, _ => exact lv_tableIn (off := 469) (tgt := 501) hx hb dL_32 (by decide) (by decide) (by decide +kernel) (by decide) (br_pour C2 hI hP hS hl next)
      | 12, _ => exact lv_tableIn (off := 492) (tgt := 524) hx hb dL_32 (by decide) (by decide) (by decide +kernel) (by decide) (br_day C2 hI hP hS hl next)
      | 13, _ => exact lv_tableIn (off := 541) (tgt := 573) hx hb dL_32 (by decide) (by decide) (by decide +kernel) (by decide) (br_drift C2 hI hP hS hl next)
      | 14, _ => exact lv_tableIn (off := 564) (tgt := 596) hx hb dL_32 (by decide) (by decide) (by decide +kernel) (by decide) (br_length C2 hI hP hS hl next)
      | 15, _ => exact lv_tableIn (off := 607) (tgt := 639) hx hb dL_32 (by decide) (by decide) (by decide +kernel) (by decide) (br_best C2 hI hP hS hl next)
      | 16, _ => exact lv_tableIn (off := 660) (tgt := 692) hx hb dL_32 (by decide) (by decide) (by decide +kernel) (by decide) (br_where C2 hI hP hS hl next)
      | 17, _ => exact lv_tableIn (off := 693) (tgt := 725) hx hb dL_32 (by decide) (by decide) (by decide +kernel) (by decide) (br_rivals C2 hI hP hS hl next)
      | 18, _ => exact lv_tableIn (off := 746) (tgt := 778) hx hb dL_32 (by decide) (by decide) (by decide +kernel) (by decide) (br_again C2 hI hP hS hl next)
      | 19, _ => exact lv_tableIn (off := 789) (tgt := 821) hx hb dL_32 (by decide) (by decide) (by decide +kernel) (by decide) (br_odds C2 hI hP hS hl next)
      | 20, _ => exact lv_tableIn (off := 842) (tgt := 874) hx hb dL_32 (by decide) (by decide) (by decide +kernel) (by decide) (br_whom C2 hI hP hS hl next)
      | 21, _ => exact lv_tableIn (off := 875) (tgt := 907) hx hb dL_32 (by decide) (by decide) (by decide +kernel) (by decide) (br_left C2 hI hP hS hl next)
      | 22, _ => exact lv_tableIn (off := 918) (tgt := 950) hx hb dL_32 (by decide) (by decide) (by decide +kernel) (by decide) (br_visited C2 hI hP hS hl next)
      | 23, _ => exact lv_tableIn (off := 951) (tgt := 983) hx hb dL_32 (by decide) (by decide) (by decide +kernel) (by decide) (br_can C2 hI hP hS hl next)
      | 24, _ => exact lv_tableIn (off := 1004) (tgt := 1036) hx hb dL_32 (by decide) (by decide) (by decide +kernel) (by decide) (br_eats C2 hI hP hS hl next)
      | 25, _ => exact lv_tableIn (off := 1027) (tgt := 1059) hx hb dL_32 (by decide) (by decide) (by decide +kernel) (by decide) (br_write C2 hI hP hS hl next)
      | 26, _ => exact lv_tableIn (off := 1070) (tgt := 1102) hx hb dL_32 (by decide) (by decide) (by decide +kernel) (by decide) (br_judge C2 hI hP hS hl next)
      | 27, _ => exact lv_tableIn (off := 1083) (tgt := 1115) hx hb dL_32 (by decide) (by decide) (by decide +kernel) (by decide) (br_tear C2 hI hP hS hl next)
      | 28, _ => exact lv_tableIn (off := 1096) (tgt := 1128) hx hb dL_32 (by decide) (by decide) (by decide +kernel) (by decide) (br_seed C2 hI hP hS hl next)
      | 29, _ => exact lv_tableIn (off := 1119) (tgt := 1151) hx hb dL_32 (by decide) (by decide) (by decide +kernel) (by decide) (br_keep C2 hI hP hS hl next)
      | 30, _ => exact lv_tableIn (off := 1142) (tgt := 1174) hx hb dL_32 (by decide) (by decide) (by decide +kernel) (by decide) (br_goBack C2 hI hP hS hl next)
      | 31, _ => exact lv_tableOut (tgt := 1197) hx hb dL_32 (by decide) (by decide) (next σ H locs hI hP hS)
      | j + 32, h => exact absurd h (by omega)
