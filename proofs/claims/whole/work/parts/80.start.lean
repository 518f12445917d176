/-! THE START: what the words say of the four tables; both objects made; the loop begins -/
set_option maxRecDepth 100000
theorem zlt_0 {w : Cond} {i : Nat} (h : tables_1_1[i]? = some w) : w ∈ lw_tbl := List.mem_append_right _ (show w ∈ tables_1 from List.mem_append_left _ (List.mem_of_getElem? h))
theorem zlt_1 {w : Cond} {i : Nat} (h : tables_1_2[i]? = some w) : w ∈ lw_tbl := List.mem_append_right _ (show w ∈ tables_1 from List.mem_append_right _ (List.mem_append_left _ (List.mem_of_getElem? h)))
theorem zlt_2 {w : Cond} {i : Nat} (h : tables_1_3[i]? = some w) : w ∈ lw_tbl := List.mem_append_right _ (show w ∈ tables_1 from List.mem_append_right _ (List.mem_append_right _ (List.mem_append_left _ (List.mem_of_getElem? h))))
theorem zlt_3 {w : Cond} {i : Nat} (h : tables_1_4[i]? = some w) : w ∈ lw_tbl := List.mem_append_right _ (show w ∈ tables_1 from List.mem_append_right _ (List.mem_append_right _ (List.mem_append_right _ (List.mem_append_left _ (List.mem_of_getElem? h)))))
theorem zlt_4 {w : Cond} {i : Nat} (h : tables_1_5[i]? = some w) : w ∈ lw_tbl := List.mem_append_right _ (show w ∈ tables_1 from List.mem_append_right _ (List.mem_append_right _ (List.mem_append_right _ (List.mem_append_right _ (List.mem_append_left _ (List.mem_of_getElem? h))))))
theorem zlt_5 {w : Cond} {i : Nat} (h : tables_1_6[i]? = some w) : w ∈ lw_tbl := List.mem_append_right _ (show w ∈ tables_1 from List.mem_append_right _ (List.mem_append_right _ (List.mem_append_right _ (List.mem_append_right _ (List.mem_append_right _ (List.mem_of_getElem? h))))))
theorem zw_RO {s : State} {b : Nat} {A : Nat → Prop} (hts : ∀ w ∈ lw_tbl, w.before #[Value.ref b] s = true) (hgv : (Jvm.Cond.and given_1 narrow_1).before #[Value.ref b] s = true) (hA : ∀ a : Nat, a < s.heap.size → ¬ A a) : ∃ t : Nat → Nat, ∀ i, i < 4 → va_Z RX7 (bl_rn i) "[I" (.ref (t i)) A s s.heap ∧ va_T .int (t i) (bl_ln (bl_N + i)) (fun j => .int (bl_ro (bl_N + i) j)) A s s.heap := by
  have hs := flat_of_before _ hgv
  obtain ⟨t0, e0, T0⟩ := va_Tof (tm := (.static "BerryLane$Reader" "LAW_BOUNDS" "[I")) (ty := .int) (N := 6) (f := fun j => .int (bl_ro (bl_N + 0) j)) (A := A) (by decide) (hs (.arrayOf (.static "BerryLane$Reader" "LAW_BOUNDS" "[I") .int) (by decide +kernel)) (va_eqt (z := 6) (hs (.eq (.length (.static "BerryLane$Reader" "LAW_BOUNDS" "[I")) (.int 6)) (by decide +kernel))) (fun j hj => by
    rcases (show j = 0 ∨ j = 1 ∨ j = 2 ∨ j = 3 ∨ j = 4 ∨ j = 5 by omega) with rfl | rfl | rfl | rfl | rfl | rfl
    · exact va_eqt (z := 1) (hs (.eq (.elem (.static "BerryLane$Reader" "LAW_BOUNDS" "[I") (.int 0)) (.int 1)) (by decide +kernel))
    · exact va_eqt (z := 20) (hs (.eq (.elem (.static "BerryLane$Reader" "LAW_BOUNDS" "[I") (.int 1)) (.int 20)) (by decide +kernel))
    · exact va_eqt (z := 1) (hs (.eq (.elem (.static "BerryLane$Reader" "LAW_BOUNDS" "[I") (.int 2)) (.int 1)) (by decide +kernel))
    · exact va_eqt (z := 20) (hs (.eq (.elem (.static "BerryLane$Reader" "LAW_BOUNDS" "[I") (.int 3)) (.int 20)) (by decide +kernel))
    · exact va_eqt (z := 1) (hs (.eq (.elem (.static "BerryLane$Reader" "LAW_BOUNDS" "[I") (.int 4)) (.int 1)) (by decide +kernel))
    · exact va_eqt (z := 20) (hs (.eq (.elem (.static "BerryLane$Reader" "LAW_BOUNDS" "[I") (.int 5)) (.int 20)) (by decide +kernel))) hA
  have z0 := va_Zof (A := A) (hts (.laysStatic "BerryLane$Reader" "LAW_BOUNDS" "[I") (zlt_2 (i := 47) rfl)) (hts (.initialized RX7) (zlt_0 (i := 2) rfl)) e0 hA
  obtain ⟨t1, e1, T1⟩ := va_Tof (tm := (.static "BerryLane$Reader" "BUSH_BOUNDS" "[I")) (ty := .int) (N := 12) (f := fun j => .int (bl_ro (bl_N + 1) j)) (A := A) (by decide) (hs (.arrayOf (.static "BerryLane$Reader" "BUSH_BOUNDS" "[I") .int) (by decide +kernel)) (va_eqt (z := 12) (hs (.eq (.length (.static "BerryLane$Reader" "BUSH_BOUNDS" "[I")) (.int 12)) (by decide +kernel))) (fun j hj => by
    rcases (show j = 0 ∨ j = 1 ∨ j = 2 ∨ j = 3 ∨ j = 4 ∨ j = 5 ∨ j = 6 ∨ j = 7 ∨ j = 8 ∨ j = 9 ∨ j = 10 ∨ j = 11 by omega) with rfl | rfl | rfl | rfl | rfl | rfl | rfl | rfl | rfl | rfl | rfl | rfl
    · exact va_eqt (z := 0) (hs (.eq (.elem (.static "BerryLane$Reader" "BUSH_BOUNDS" "[I") (.int 0)) (.int 0)) (by decide +kernel))
    · exact va_eqt (z := 99) (hs (.eq (.elem (.static "BerryLane$Reader" "BUSH_BOUNDS" "[I") (.int 1)) (.int 99)) (by decide +kernel))
    · exact va_eqt (z := 0) (hs (.eq (.elem (.static "BerryLane$Reader" "BUSH_BOUNDS" "[I") (.int 2)) (.int 0)) (by decide +kernel))
    · exact va_eqt (z := 1) (hs (.eq (.elem (.static "BerryLane$Reader" "BUSH_BOUNDS" "[I") (.int 3)) (.int 1)) (by decide +kernel))
    · exact va_eqt (z := 0) (hs (.eq (.elem (.static "BerryLane$Reader" "BUSH_BOUNDS" "[I") (.int 4)) (.int 0)) (by decide +kernel))
    · exact va_eqt (z := 3) (hs (.eq (.elem (.static "BerryLane$Reader" "BUSH_BOUNDS" "[I") (.int 5)) (.int 3)) (by decide +kernel))
    · exact va_eqt (z := 0) (hs (.eq (.elem (.static "BerryLane$Reader" "BUSH_BOUNDS" "[I") (.int 6)) (.int 0)) (by decide +kernel))
    · exact va_eqt (z := 300) (hs (.eq (.elem (.static "BerryLane$Reader" "BUSH_BOUNDS" "[I") (.int 7)) (.int 300)) (by decide +kernel))
    · exact va_eqt (z := 0) (hs (.eq (.elem (.static "BerryLane$Reader" "BUSH_BOUNDS" "[I") (.int 8)) (.int 0)) (by decide +kernel))
    · exact va_eqt (z := 300) (hs (.eq (.elem (.static "BerryLane$Reader" "BUSH_BOUNDS" "[I") (.int 9)) (.int 300)) (by decide +kernel))
    · exact va_eqt (z := 0) (hs (.eq (.elem (.static "BerryLane$Reader" "BUSH_BOUNDS" "[I") (.int 10)) (.int 0)) (by decide +kernel))
    · exact va_eqt (z := 300) (hs (.eq (.elem (.static "BerryLane$Reader" "BUSH_BOUNDS" "[I") (.int 11)) (.int 300)) (by decide +kernel))) hA
  have z1 := va_Zof (A := A) (hts (.laysStatic "BerryLane$Reader" "BUSH_BOUNDS" "[I") (zlt_2 (i := 49) rfl)) (hts (.initialized RX7) (zlt_0 (i := 2) rfl)) e1 hA
  obtain ⟨t2, e2, T2⟩ := va_Tof (tm := (.static "BerryLane$Reader" "PICKER_BOUNDS" "[I")) (ty := .int) (N := 8) (f := fun j => .int (bl_ro (bl_N + 2) j)) (A := A) (by decide) (hs (.arrayOf (.static "BerryLane$Reader" "PICKER_BOUNDS" "[I") .int) (by decide +kernel)) (va_eqt (z := 8) (hs (.eq (.length (.static "BerryLane$Reader" "PICKER_BOUNDS" "[I")) (.int 8)) (by decide +kernel))) (fun j hj => by
    rcases (show j = 0 ∨ j = 1 ∨ j = 2 ∨ j = 3 ∨ j = 4 ∨ j = 5 ∨ j = 6 ∨ j = 7 by omega) with rfl | rfl | rfl | rfl | rfl | rfl | rfl | rfl
    · exact va_eqt (z := 0) (hs (.eq (.elem (.static "BerryLane$Reader" "PICKER_BOUNDS" "[I") (.int 0)) (.int 0)) (by decide +kernel))
    · exact va_eqt (z := 99) (hs (.eq (.elem (.static "BerryLane$Reader" "PICKER_BOUNDS" "[I") (.int 1)) (.int 99)) (by decide +kernel))
    · exact va_eqt (z := 1) (hs (.eq (.elem (.static "BerryLane$Reader" "PICKER_BOUNDS" "[I") (.int 2)) (.int 1)) (by decide +kernel))
    · exact va_eqt (z := 20) (hs (.eq (.elem (.static "BerryLane$Reader" "PICKER_BOUNDS" "[I") (.int 3)) (.int 20)) (by decide +kernel))
    · exact va_eqt (z := 0) (hs (.eq (.elem (.static "BerryLane$Reader" "PICKER_BOUNDS" "[I") (.int 4)) (.int 0)) (by decide +kernel))
    · exact va_eqt (z := 9) (hs (.eq (.elem (.static "BerryLane$Reader" "PICKER_BOUNDS" "[I") (.int 5)) (.int 9)) (by decide +kernel))
    · exact va_eqt (z := 0) (hs (.eq (.elem (.static "BerryLane$Reader" "PICKER_BOUNDS" "[I") (.int 6)) (.int 0)) (by decide +kernel))
    · exact va_eqt (z := 1) (hs (.eq (.elem (.static "BerryLane$Reader" "PICKER_BOUNDS" "[I") (.int 7)) (.int 1)) (by decide +kernel))) hA
  have z2 := va_Zof (A := A) (hts (.laysStatic "BerryLane$Reader" "PICKER_BOUNDS" "[I") (zlt_2 (i := 51) rfl)) (hts (.initialized RX7) (zlt_0 (i := 2) rfl)) e2 hA
  obtain ⟨t3, e3, T3⟩ := va_Tof (tm := (.static "BerryLane$Reader" "CAN_BOUNDS" "[I")) (ty := .int) (N := 2) (f := fun j => .int (bl_ro (bl_N + 3) j)) (A := A) (by decide) (hs (.arrayOf (.static "BerryLane$Reader" "CAN_BOUNDS" "[I") .int) (by decide +kernel)) (va_eqt (z := 2) (hs (.eq (.length (.static "BerryLane$Reader" "CAN_BOUNDS" "[I")) (.int 2)) (by decide +kernel))) (fun j hj => by
    rcases (show j = 0 ∨ j = 1 by omega) with rfl | rfl
    · exact va_eqt (z := 1) (hs (.eq (.elem (.static "BerryLane$Reader" "CAN_BOUNDS" "[I") (.int 0)) (.int 1)) (by decide +kernel))
    · exact va_eqt (z := 999) (hs (.eq (.elem (.static "BerryLane$Reader" "CAN_BOUNDS" "[I") (.int 1)) (.int 999)) (by decide +kernel))) hA
  have z3 := va_Zof (A := A) (hts (.laysStatic "BerryLane$Reader" "CAN_BOUNDS" "[I") (zlt_2 (i := 53) rfl)) (hts (.initialized RX7) (zlt_0 (i := 2) rfl)) e3 hA
  refine ⟨fun i => ([t0, t1, t2, t3] : List Nat).getD i 0, fun i hi => ?_⟩
  rcases (show i = 0 ∨ i = 1 ∨ i = 2 ∨ i = 3 by omega) with rfl | rfl | rfl | rfl
  · exact ⟨z0, T0⟩
  · exact ⟨z1, T1⟩
  · exact ⟨z2, T2⟩
  · exact ⟨z3, T3⟩
theorem zw_S {s : State} {b : Nat} (hts : ∀ w ∈ lw_tbl, w.before #[Value.ref b] s = true) : ctS s := by
  refine ⟨fun w hw => ?_, ?_, ?_, ?_⟩
  · simp only [ct_nest, List.mem_cons, List.not_mem_nil, or_false] at hw
    rcases hw with rfl | rfl | rfl | rfl | rfl | rfl | rfl | rfl | rfl | rfl | rfl | rfl | rfl | rfl | rfl | rfl
    · exact va_Nw.of rfl (hts _ (zlt_0 (i := 26) rfl))
    · exact va_Nw.of rfl (hts _ (zlt_0 (i := 38) rfl))
    · exact va_Nw.of rfl (hts _ (zlt_0 (i := 72) rfl))
    · exact va_Nw.of rfl (hts _ (zlt_0 (i := 116) rfl))
    · exact va_Nw.of rfl (hts _ (zlt_1 (i := 1) rfl))
    · exact va_Nw.of rfl (hts _ (zlt_1 (i := 6) rfl))
    · exact va_Nw.of rfl (hts _ (zlt_1 (i := 62) rfl))
    · exact va_Nw.of rfl (hts _ (zlt_1 (i := 67) rfl))
    · exact va_Nw.of rfl (hts _ (zlt_1 (i := 93) rfl))
    · exact va_Nw.of rfl (hts _ (zlt_1 (i := 98) rfl))
    · exact va_Nw.of rfl (hts _ (zlt_1 (i := 121) rfl))
    · exact va_Nw.of rfl (hts _ (zlt_1 (i := 160) rfl))
    · exact va_Nw.of rfl (hts _ (zlt_1 (i := 162) rfl))
    · exact va_Nw.of rfl (hts _ (zlt_1 (i := 193) rfl))
    · exact va_Nw.of rfl (hts _ (zlt_1 (i := 195) rfl))
    · exact va_Nw.of rfl (hts _ (zlt_2 (i := 62) rfl))
  · exact va_AO.of (hts (.arrayOver (.object RX1)) (zlt_0 (i := 68) rfl))
  · exact va_AO.of (hts (.arrayOver (.object RX5)) (zlt_0 (i := 70) rfl))
  · exact va_AO.of (hts (.arrayOver (.object RX3)) (zlt_0 (i := 238) rfl))
set_option maxHeartbeats 8000000 in
theorem whole_start {p : Program} {e : Env} {s : State} {m : MethodId} {below : List Frame} {meth : Method} {c : Code} (l : Launch) {b L : Nat} {xs : Nat → Int32} (hL : L ≤ 320) (C0 : lw_At p s m meth c b L xs) : W p l e room_1 s m #[Value.ref b] below meth c s.heap [] 0 0 (lw_Z below #[Value.ref b] s) (entryFrame m ([Value.ref b] : List Value).toArray 4) := by
  obtain ⟨hx, hb, hr, hml, hown, hts, hX, hbl, hlocks, hgv⟩ := id C0
  have htg : ∀ w ∈ bl_gt, w.before #[Value.ref b] s = true := fun w hw => hts w (bl_gt_tbl hw)
  have hZ := zw_S hts
  obtain ⟨t, hRO⟩ := zw_RO (A := fun q : Nat => s.heap.size ≤ q) hts hgv (fun a ha => Nat.not_le.mpr ha)
  have hA : ∀ q : Nat, s.heap.size ≤ q → (fun q : Nat => s.heap.size ≤ q) q := fun _ h => h
  obtain ⟨c0, iS0, hKn0⟩ := u_known (C := RX0) (T := TX0) (N := 16) (n := 16) htg (bl_cls_ws 0 RX0 TX0 16 rfl) (htg (.instantiable RX0 16) (bl_t1 (i := 0) rfl rfl))
  obtain ⟨c1, iS1, hKn1⟩ := u_known (C := RX1) (T := TX1) (N := 6) (n := 6) htg (bl_cls_ws 1 RX1 TX1 6 rfl) (htg (.instantiable RX1 6) (bl_t0 (i := 71) rfl rfl))
  obtain ⟨c2, iS2, hKn2⟩ := u_known (C := RX2) (T := TX2) (N := 5) (n := 5) htg (bl_cls_ws 2 RX2 TX2 5 rfl) (htg (.instantiable RX2 5) (bl_t1 (i := 92) rfl rfl))
  obtain ⟨c3, iS3, hKn3⟩ := u_known (C := RX3) (T := TX3) (N := 7) (n := 7) htg (bl_cls_ws 3 RX3 TX3 7 rfl) (htg (.instantiable RX3 7) (bl_t0 (i := 31) rfl rfl))
  obtain ⟨c4, iS4, hKn4⟩ := u_known (C := RX4) (T := TX4) (N := 4) (n := 4) htg (bl_cls_ws 4 RX4 TX4 4 rfl) (htg (.instantiable RX4 4) (bl_t0 (i := 37) rfl rfl))
  obtain ⟨c5, iS5, hKn5⟩ := u_known (C := RX5) (T := TX5) (N := 8) (n := 8) htg (bl_cls_ws 5 RX5 TX5 8 rfl) (htg (.instantiable RX5 8) (bl_t0 (i := 115) rfl rfl))
  obtain ⟨c6, iS6, hKn6⟩ := u_known (C := RX6) (T := TX6) (N := 7) (n := 7) htg (bl_cls_ws 6 RX6 TX6 7 rfl) (htg (.instantiable RX6 7) (bl_t1 (i := 61) rfl rfl))
  obtain ⟨c7, iS7, hKn7⟩ := u_known (C := RX7) (T := TX7) (N := 8) (n := 8) htg (bl_cls_ws 7 RX7 TX7 8 rfl) (htg (.instantiable RX7 8) (bl_t0 (i := 25) rfl rfl))
  obtain ⟨c8, iS8, hKn8⟩ := u_known (C := RX8) (T := TX8) (N := 8) (n := 8) htg (bl_cls_ws 8 RX8 TX8 8 rfl) (htg (.instantiable RX8 8) (bl_t1 (i := 120) rfl rfl))
  obtain ⟨c9, iS9, hKn9⟩ := u_known (C := RX9) (T := TX9) (N := 6) (n := 6) htg (bl_cls_ws 9 RX9 TX9 6 rfl) (htg (.instantiable RX9 6) (bl_t1 (i := 126) rfl rfl))
  obtain ⟨c10, iS10, hKn10⟩ := u_known (C := RX10) (T := TX10) (N := 11) (n := 11) htg (bl_cls_ws 10 RX10 TX10 11 rfl) (htg (.instantiable RX10 11) (bl_t0 (i := 17) rfl rfl))
  obtain ⟨c11, iS11, hKn11⟩ := u_known (C := RX11) (T := TX11) (N := 64) (n := 64) htg (bl_cls_ws 11 RX11 TX11 64 rfl) (htg (.instantiable RX11 64) (bl_t3 (i := 209) rfl rfl))
  obtain ⟨D, hKc⟩ : ∃ D : va_G, ∀ (k : Nat) (q : vw_C), vwCl[k]? = some q → u_Kn s q.1 q.2.1 q.2.2 (D.1 k) (D.2 k) := by
    refine ⟨(fun k => [c0, c1, c2, c3, c4, c5, c6, c7, c8, c9, c10, c11].getD k c0, fun k => [iS0, iS1, iS2, iS3, iS4, iS5, iS6, iS7, iS8, iS9, iS10, iS11].getD k iS0), ?_⟩
    intro k q hq
    match k, hq with
    | 0, hq => cases hq; exact hKn0
    | 1, hq => cases hq; exact hKn1
    | 2, hq => cases hq; exact hKn2
    | 3, hq => cases hq; exact hKn3
    | 4, hq => cases hq; exact hKn4
    | 5, hq => cases hq; exact hKn5
    | 6, hq => cases hq; exact hKn6
    | 7, hq => cases hq; exact hKn7
    | 8, hq => cases hq; exact hKn8
    | 9, hq => cases hq; exact hKn9
    | 10, hq => cases hq; exact hKn10
    | 11, hq => cases hq; exact hKn11
    | k + 12, hq => simp [vwCl] at hq
  have hS : va_S (fun q : Nat => s.heap.size ≤ q) s.heap s.heap [] := va_S.rf
  have hK : va_K D vwCl [] s := ⟨hKc, fun k q h => by simp at h⟩
  have hP : va_P D vwCl [] s.heap := fun k q h => by simp at h
  have hD : va_D (fun q : Nat => s.heap.size ≤ q) [] := ⟨fun i j p q h => by simp at h, fun k q h => by simp at h⟩
  have hl := lv_entry ([.ref b]) (n := 4) (Nat.le_of_ble_eq_true rfl)
  rw [lg_entry_eq]
  generalize (lg_sl ([.ref b]) ++ List.replicate (4 - (lg_sl ([.ref b])).length) Slot.unset).toArray = ls at hl ⊢
  have hl : lv_has ls 4 [(0, .ref b)] := hl
  refine va_new (ci := 10) (fs := [.null, .null, .null, .null, .null, .null, .null, .null, .null, .null, .int 0]) (C := RX10) (T := TX10) (N := 11) hx hb htg (bl_cls_ws 10 RX10 TX10 11 rfl) tyX10 tyX10_ok hown (htg (.classLink R_law 7 RX10) (bl_t0 (i := 16) rfl rfl)) (htg (.instantiable RX10 11) (bl_t0 (i := 17) rfl rfl)) (htg (.initialized RX10) (bl_t0 (i := 1) rfl rfl)) hK hP hD hS hA rfl (by decide +kernel) (Nat.le_of_ble_eq_true rfl) (Nat.le_of_ble_eq_true rfl) dL_0 (fun q0 H hP hD hS => ?_)
  have hP : va_P D vwCl [(q0, .inr (10, [.null, .null, .null, .null, .null, .null, .null, .null, .null, .null, .int 0]))] H := hP
  have hD : va_D (fun q : Nat => s.heap.size ≤ q) [(q0, .inr (10, [.null, .null, .null, .null, .null, .null, .null, .null, .null, .null, .int 0]))] := hD
  refine W.widen (k := 1) (n := 11) (Nat.le_of_ble_eq_true rfl) (Nat.le_of_ble_eq_true rfl) ?_
  refine lv_dup hx hb dL_3 rfl ?_
  have hPc := hP.sub (ws' := [(q0, .inr (10, [.null, .null, .null, .null, .null, .null, .null, .null, .null, .null, .int 0]))]) [0] rfl
  have hDc := hD.sub (ws' := [(q0, .inr (10, [.null, .null, .null, .null, .null, .null, .null, .null, .null, .null, .int 0]))]) [0] (by decide) rfl
  have hKc := hK.sub (tys' := []) [] rfl
  have hFc := va_free (wc := [(q0, .inr (10, [.null, .null, .null, .null, .null, .null, .null, .null, .null, .null, .int 0]))]) hD hS hA [0] rfl
  refine va_callv (va_runI (As := []) (rest := [.ref q0]) ⟨hx, hb, hml, hown, htg⟩ (k_X10 l D q0 H.size) (cwI 0 htg (ct_good (bl_t0 (i := 20) rfl rfl)) rfl rfl rfl (htg (.initialized RX10) (bl_t0 (i := 1) rfl rfl)) (htg (.methodLink R_law 9 yX10_init) (bl_t0 (i := 18) rfl rfl)) (htg (.instanceMethod yX10_init) (bl_t0 (i := 19) rfl rfl)) rfl (by decide +kernel) ⟨Nat.le_of_ble_eq_true rfl, Nat.le_of_ble_eq_true rfl⟩) ⟨ct_blind, fun U hU hW => ⟨rfl, by rw [hU], by rw [hU]; exact hPc, va_K.moved hW.alike hKc, hDc.weaken (fun _ _ _ _ => trivial), hZ.warm hW⟩⟩ rfl rfl hl.1 rfl (lv_room (Nat.le_of_ble_eq_true rfl)) dL_4 ⟨Nat.le_of_ble_eq_true rfl, Nat.le_of_ble_eq_true rfl⟩) hS (fun q _ h => hFc q h) hFc (fun u tt H1 locs ht hvm hw hB hz1 hk1 hS => ?_)
  obtain ⟨hP1, hK1, hD1⟩ := hB
  rw [ht] at hP1
  have hK1 := va_K.moved hvm.symm hK1
  obtain ⟨hP, hD⟩ := va_join (wr := []) (w1 := (gX10 q0 u)) hP hD [0] [] rfl rfl (by decide +kernel) (by decide +kernel) hk1 hFc hP1 hD1
  have hK := hK1
  generalize H1 = H at hP hS ⊢
  have hP : va_P D vwCl (gX10 q0 u) H := hP
  have hD : va_D (fun q : Nat => s.heap.size ≤ q) (gX10 q0 u) := hD
  have hK : va_K D vwCl (tX10 u) s := hK
  refine W.widen (k := 101) (n := 3263) (Nat.le_of_ble_eq_true rfl) (Nat.le_of_ble_eq_true rfl) ?_
  refine lv_astore_n (lv' := [(1, .ref q0), (0, .ref b)]) hx hb dL_7 rfl hl (by decide) rfl (fun ls hl => ?_)
  refine va_new (ci := 11) (fs := [.int 0, .int 0, .int 0, .int 0, .int 0, .null, .null, .null, .null, .null, .null, .int 0, .null, .null, .null, .null, .null, .null, .null, .null, .int 0, .int 0, .null, .int 0, .int 0, .int 0, .int 0, .int 0, .null, .int 0, .null, .int 0, .null, .null, .null, .null, .null, .null, .int 0, .null, .null, .null, .null, .null, .null, .null, .null, .null, .null, .int 0, .null, .null, .null, .int 0, .null, .null, .null, .null, .int 0, .null, .null, .null, .null, .null]) (C := RX11) (T := TX11) (N := 64) hx hb htg (bl_cls_ws 11 RX11 TX11 64 rfl) tyX11 tyX11_ok hown (htg (.classLink R_law 10 RX11) (bl_t3 (i := 208) rfl rfl)) (htg (.instantiable RX11 64) (bl_t3 (i := 209) rfl rfl)) (htg (.initialized RX11) (bl_t0 (i := 13) rfl rfl)) hK hP hD hS hA rfl (by decide +kernel) (Nat.le_of_ble_eq_true rfl) (Nat.le_of_ble_eq_true rfl) dL_8 (fun q1 H hP hD hS => ?_)
  have hP : va_P D vwCl ((gX10 q0 u) ++ [(q1, .inr (11, [.int 0, .int 0, .int 0, .int 0, .int 0, .null, .null, .null, .null, .null, .null, .int 0, .null, .null, .null, .null, .null, .null, .null, .null, .int 0, .int 0, .null, .int 0, .int 0, .int 0, .int 0, .int 0, .null, .int 0, .null, .int 0, .null, .null, .null, .null, .null, .null, .int 0, .null, .null, .null, .null, .null, .null, .null, .null, .null, .null, .int 0, .null, .null, .null, .int 0, .null, .null, .null, .null, .int 0, .null, .null, .null, .null, .null]))]) H := hP
  have hD : va_D (fun q : Nat => s.heap.size ≤ q) ((gX10 q0 u) ++ [(q1, .inr (11, [.int 0, .int 0, .int 0, .int 0, .int 0, .null, .null, .null, .null, .null, .null, .int 0, .null, .null, .null, .null, .null, .null, .null, .null, .int 0, .int 0, .null, .int 0, .int 0, .int 0, .int 0, .int 0, .null, .int 0, .null, .int 0, .null, .null, .null, .null, .null, .null, .int 0, .null, .null, .null, .null, .null, .null, .null, .null, .null, .null, .int 0, .null, .null, .null, .int 0, .null, .null, .null, .null, .int 0, .null, .null, .null, .null, .null]))]) := hD
  refine W.widen (k := 102) (n := 3327) (Nat.le_of_ble_eq_true rfl) (Nat.le_of_ble_eq_true rfl) ?_
  refine lv_dup hx hb dL_11 rfl ?_
  have hlen : (gX10 q0 u).length = 101 := rfl
  have hPc := ct_lastP hP
  have hDc := hD.sub (ws' := [(q1, .inr (11, [.int 0, .int 0, .int 0, .int 0, .int 0, .null, .null, .null, .null, .null, .null, .int 0, .null, .null, .null, .null, .null, .null, .null, .null, .int 0, .int 0, .null, .int 0, .int 0, .int 0, .int 0, .int 0, .null, .int 0, .null, .int 0, .null, .null, .null, .null, .null, .null, .int 0, .null, .null, .null, .null, .null, .null, .null, .null, .null, .null, .int 0, .null, .null, .null, .int 0, .null, .null, .null, .null, .int 0, .null, .null, .null, .null, .null]))]) [101] (by decide) (ct_ix hlen)
  have hKc := hK.sub (tys' := []) [] rfl
  have hFc := va_free (wc := [(q1, .inr (11, [.int 0, .int 0, .int 0, .int 0, .int 0, .null, .null, .null, .null, .null, .null, .int 0, .null, .null, .null, .null, .null, .null, .null, .null, .int 0, .int 0, .null, .int 0, .int 0, .int 0, .int 0, .int 0, .null, .int 0, .null, .int 0, .null, .null, .null, .null, .null, .null, .int 0, .null, .null, .null, .null, .null, .null, .null, .null, .null, .null, .int 0, .null, .null, .null, .int 0, .null, .null, .null, .null, .int 0, .null, .null, .null, .null, .null]))]) hD hS hA [101] (ct_ix hlen)
  refine va_callv (va_runI (As := []) (rest := [.ref q1]) ⟨hx, hb, hml, hown, htg⟩ (k_X11 l D q1 H.size) (cwI 0 htg (ct_good (bl_t3 (i := 212) rfl rfl)) rfl rfl rfl (htg (.initialized RX11) (bl_t0 (i := 13) rfl rfl)) (htg (.methodLink R_law 12 yX11_init) (bl_t3 (i := 210) rfl rfl)) (htg (.instanceMethod yX11_init) (bl_t3 (i := 211) rfl rfl)) rfl (by decide +kernel) ⟨Nat.le_of_ble_eq_true rfl, Nat.le_of_ble_eq_true rfl⟩) ⟨ct_blind, fun U hU hW => ⟨rfl, by rw [hU], by rw [hU]; exact hPc, va_K.moved hW.alike hKc, hDc.weaken (fun _ _ _ _ => trivial), hZ.warm hW⟩⟩ rfl rfl hl.1 rfl (lv_room (Nat.le_of_ble_eq_true rfl)) dL_12 ⟨Nat.le_of_ble_eq_true rfl, Nat.le_of_ble_eq_true rfl⟩) hS (fun q _ h => hFc q h) hFc (fun v tt H1 locs ht hvm hw hB hz1 hk1 hS => ?_)
  obtain ⟨hP1, hK1, hD1⟩ := hB
  rw [ht] at hP1
  have hK1 := va_K.moved hvm.symm hK1
  obtain ⟨hP, hD⟩ := ct_join (wr := (gX10 q0 u)) (w1 := (gX11 q1 v)) hlen (by decide +kernel) hP hD hk1 hFc hP1 hD1
  have hK := hK.app hK1
  generalize H1 = H at hP hS ⊢
  have hP : va_P D vwCl ((gX10 q0 u) ++ gX11 q1 v) H := hP
  have hD : va_D (fun q : Nat => s.heap.size ≤ q) ((gX10 q0 u) ++ gX11 q1 v) := hD
  have hK : va_K D vwCl ((tX10 u) ++ tX11 v) s := hK
  refine W.widen (k := 600000) (n := 7302250) (Nat.le_of_ble_eq_true rfl) (Nat.le_of_ble_eq_true rfl) ?_
  refine lv_astore_n (lv' := [(2, .ref q1), (1, .ref q0), (0, .ref b)]) hx hb dL_15 rfl hl (by decide) rfl (fun ls hl => ?_)
  refine lv_iconst (v := 0) hx hb dL_16 (by decide) ?_
  refine lv_istore_n (lv' := [(3, .int 0), (2, .ref q1), (1, .ref q0), (0, .ref b)]) hx hb dL_17 rfl hl (by decide) rfl (fun ls hl => ?_)
  have hR : bl_RO (zwA q0 q1 u v t) (fun q : Nat => s.heap.size ≤ q) s s.heap := by
    refine ⟨fun i hi => ?_, va_Nw.of rfl (hts bl_nestW (zlt_2 (i := 62) rfl))⟩
    have := hRO i hi
    rcases (show i = 0 ∨ i = 1 ∨ i = 2 ∨ i = 3 by omega) with rfl | rfl | rfl | rfl <;> exact this
  have C : bl_CX lawMI D (zwA q0 q1 u v t) (zwC u v) (fun q : Nat => s.heap.size ≤ q) p room_1 s m #[Value.ref b] meth c 600000 7302250 := ⟨hx, hb, hml, hr, hlocks, hown, htg, zw_K hK, zw_inj hD, zw_A hD, hR, Nat.le_of_ble_eq_true rfl, Nat.le_of_ble_eq_true rfl, Nat.le_of_ble_eq_true rfl, Nat.le_of_ble_eq_true rfl⟩
  exact law_loop hL C hX hbl (L + 6) 0 (Nat.zero_le _) (by omega) zw0 _ _ ls zw_Inv (zw_P hP) hS (lv_sub hl [3, 2, 1, 0] rfl)
