/-! THE LAW: its branches -/
/-- what holds in the loop, with i ints read -/
def LC (D : va_G) (α : Nat → Nat) (cA : Nat → ClassId) (A : Nat → Prop) (p : Program) (s : State) (m : MethodId) (b : Nat) (meth : Method) (c : Code) (L : Nat) (xs : Nat → Int32) (i : Nat) : Prop := bl_CX lawMI D α cA A p room_1 s m #[Value.ref b] meth c 600000 7302250 ∧ va_X b L xs s s.heap ∧ b < s.heap.size ∧ ¬ A b ∧ ∀ k : Nat, k < 5 → vp_in (nI i + nI k) L
set_option maxHeartbeats 4000000 in
theorem br_feed {D : va_G} {α : Nat → Nat} {cA : Nat → ClassId} {A : Nat → Prop} {p : Program} {l : Launch} {e : Env} {s : State} {m : MethodId} {b : Nat} {below : List Frame} {meth : Method} {c : Code} {L : Nat} {xs : Nat → Int32} {i : Nat} {Qf : State → Prop} {σ : bl_S} {H : Heap} {locs : List Loc} {ls : Array Slot} (C : LC D α cA A p s m b meth c L xs i) (hI : Inv σ) (hP : va_P D vwCl (bl_ws α cA σ) H) (hS : va_S A s.heap H locs) (hl : lv_has ls 4 [(0, .ref b), (1, .ref (α 0)), (2, .ref (α 1)), (3, .int (nI i))]) (next : ∀ (σ2 : bl_S) (H2 : Heap) (locs2 : List Loc), Inv σ2 → va_P D vwCl (bl_ws α cA σ2) H2 → va_S A s.heap H2 locs2 → W p l e room_1 s m #[Value.ref b] below meth c H2 locs2 600000 7302250 Qf (F0 m 1197 ls [])) : W p l e room_1 s m #[Value.ref b] below meth c H locs 600000 7302250 Qf (F0 m 172 ls []) := by
  obtain ⟨C, hX, hbl, hbA, hv⟩ := C
  have hx := C.1
  have hb : c.code = code := C.2.1
  obtain ⟨r, τ, τ2, h1, h2, h3⟩ := pr_feed hI (xs (nI i + 1).toNatClampNeg)
  refine lv_aload_n hx hb dL_172 rfl (lv_at hl 1 rfl) ?_
  refine lv_aload_n hx hb dL_173 rfl (lv_at hl 0 rfl) ?_
  refine lv_iload_n hx hb dL_174 rfl (lv_at hl 3 rfl) ?_
  refine lv_iconst (v := 1) hx hb dL_175 (by decide) ?_
  refine lv_iadd hx hb dL_176 ?_
  refine va_sld hx hb hX hbl hbA hS (hv 1 (by omega)) dL_177 ?_
  refine bl_invV (M := lawMI) (Y := bl_mi 65) (idx := 13) (a := 2) (b := 10) (st := [.int (xs (nI i + 1).toNatClampNeg), .ref 0]) (σ := σ) (σ' := τ) (r := some (.int r)) C hP hS hl.1 (bl_mi_in 65) lawLk_ok dL_178 (by omega) rfl rfl (List.mem_of_getElem? (i := 0) rfl) (List.mem_of_getElem? (i := 1) rfl) (List.mem_of_getElem? (i := 2) rfl) (List.mem_of_getElem? (i := 3) rfl) (by decide +kernel) (by decide +kernel) (Nat.le_of_ble_eq_true rfl) (Nat.le_of_ble_eq_true rfl) rfl (by decide) h1 (fun H locs hP hS => ?_)
  refine W.eq (g2 := F0 m 181 ls [.int r]) rfl ?_
  refine lv_aload_n hx hb dL_181 rfl (lv_at hl 2 rfl) ?_
  refine lv_aload_n hx hb dL_182 rfl (lv_at hl 0 rfl) ?_
  refine lv_iload_n hx hb dL_183 rfl (lv_at hl 3 rfl) ?_
  refine lv_iconst (v := 1) hx hb dL_184 (by decide) ?_
  refine lv_iadd hx hb dL_185 ?_
  refine va_sld hx hb hX hbl hbA hS (hv 1 (by omega)) dL_186 ?_
  refine bl_invV (M := lawMI) (Y := bl_mi 105) (idx := 17) (a := 2) (b := 11) (st := [.int (xs (nI i + 1).toNatClampNeg), .ref 1, .int r]) (σ := τ) (σ' := τ2) (r := some (.int r)) C hP hS hl.1 (bl_mi_in 105) lawLk_ok dL_187 (by omega) rfl rfl (List.mem_of_getElem? (i := 4) rfl) (List.mem_of_getElem? (i := 5) rfl) (List.mem_of_getElem? (i := 6) rfl) (List.mem_of_getElem? (i := 7) rfl) (by decide +kernel) (by decide +kernel) (Nat.le_of_ble_eq_true rfl) (Nat.le_of_ble_eq_true rfl) rfl (by decide) h2 (fun H locs hP hS => ?_)
  refine W.eq (g2 := F0 m 190 ls [.int r, .int r]) rfl ?_
  exact lv_icmp_eq (tgt := 1197) hx hb dL_190 (by decide) (fun _ => next τ2 H locs h3 hP hS) (fun z => absurd rfl z)
set_option maxHeartbeats 4000000 in
theorem br_lane {D : va_G} {α : Nat → Nat} {cA : Nat → ClassId} {A : Nat → Prop} {p : Program} {l : Launch} {e : Env} {s : State} {m : MethodId} {b : Nat} {below : List Frame} {meth : Method} {c : Code} {L : Nat} {xs : Nat → Int32} {i : Nat} {Qf : State → Prop} {σ : bl_S} {H : Heap} {locs : List Loc} {ls : Array Slot} (C : LC D α cA A p s m b meth c L xs i) (hI : Inv σ) (hP : va_P D vwCl (bl_ws α cA σ) H) (hS : va_S A s.heap H locs) (hl : lv_has ls 4 [(0, .ref b), (1, .ref (α 0)), (2, .ref (α 1)), (3, .int (nI i))]) (next : ∀ (σ2 : bl_S) (H2 : Heap) (locs2 : List Loc), Inv σ2 → va_P D vwCl (bl_ws α cA σ2) H2 → va_S A s.heap H2 locs2 → W p l e room_1 s m #[Value.ref b] below meth c H2 locs2 600000 7302250 Qf (F0 m 1197 ls [])) : W p l e room_1 s m #[Value.ref b] below meth c H locs 600000 7302250 Qf (F0 m 195 ls []) := by
  obtain ⟨C, hX, hbl, hbA, hv⟩ := C
  have hx := C.1
  have hb : c.code = code := C.2.1
  obtain ⟨r, τ, τ2, h1, h2, h3⟩ := pr_lane hI
  refine lv_aload_n hx hb dL_195 rfl (lv_at hl 1 rfl) ?_
  refine bl_invV (M := lawMI) (Y := bl_mi 66) (idx := 18) (a := 1) (b := 10) (st := [.ref 0]) (σ := σ) (σ' := τ) (r := some (.int r)) C hP hS hl.1 (bl_mi_in 66) lawLk_ok dL_196 (by omega) rfl rfl (List.mem_of_getElem? (i := 8) rfl) (List.mem_of_getElem? (i := 9) rfl) (List.mem_of_getElem? (i := 10) rfl) (List.mem_of_getElem? (i := 3) rfl) (by decide +kernel) (by decide +kernel) (Nat.le_of_ble_eq_true rfl) (Nat.le_of_ble_eq_true rfl) rfl (by decide) h1 (fun H locs hP hS => ?_)
  refine W.eq (g2 := F0 m 199 ls [.int r]) rfl ?_
  refine lv_aload_n hx hb dL_199 rfl (lv_at hl 2 rfl) ?_
  refine bl_invV (M := lawMI) (Y := bl_mi 115) (idx := 22) (a := 1) (b := 11) (st := [.ref 1, .int r]) (σ := τ) (σ' := τ2) (r := some (.int r)) C hP hS hl.1 (bl_mi_in 115) lawLk_ok dL_200 (by omega) rfl rfl (List.mem_of_getElem? (i := 11) rfl) (List.mem_of_getElem? (i := 12) rfl) (List.mem_of_getElem? (i := 13) rfl) (List.mem_of_getElem? (i := 7) rfl) (by decide +kernel) (by decide +kernel) (Nat.le_of_ble_eq_true rfl) (Nat.le_of_ble_eq_true rfl) rfl (by decide) h2 (fun H locs hP hS => ?_)
  refine W.eq (g2 := F0 m 203 ls [.int r, .int r]) rfl ?_
  exact lv_icmp_eq (tgt := 1197) hx hb dL_203 (by decide) (fun _ => next τ2 H locs h3 hP hS) (fun z => absurd rfl z)
set_option maxHeartbeats 4000000 in
theorem br_fault {D : va_G} {α : Nat → Nat} {cA : Nat → ClassId} {A : Nat → Prop} {p : Program} {l : Launch} {e : Env} {s : State} {m : MethodId} {b : Nat} {below : List Frame} {meth : Method} {c : Code} {L : Nat} {xs : Nat → Int32} {i : Nat} {Qf : State → Prop} {σ : bl_S} {H : Heap} {locs : List Loc} {ls : Array Slot} (C : LC D α cA A p s m b meth c L xs i) (hI : Inv σ) (hP : va_P D vwCl (bl_ws α cA σ) H) (hS : va_S A s.heap H locs) (hl : lv_has ls 4 [(0, .ref b), (1, .ref (α 0)), (2, .ref (α 1)), (3, .int (nI i))]) (next : ∀ (σ2 : bl_S) (H2 : Heap) (locs2 : List Loc), Inv σ2 → va_P D vwCl (bl_ws α cA σ2) H2 → va_S A s.heap H2 locs2 → W p l e room_1 s m #[Value.ref b] below meth c H2 locs2 600000 7302250 Qf (F0 m 1197 ls [])) : W p l e room_1 s m #[Value.ref b] below meth c H locs 600000 7302250 Qf (F0 m 208 ls []) := by
  obtain ⟨C, hX, hbl, hbA, hv⟩ := C
  have hx := C.1
  have hb : c.code = code := C.2.1
  obtain ⟨r, τ, τ2, h1, h2, h3⟩ := pr_fault hI
  refine lv_aload_n hx hb dL_208 rfl (lv_at hl 1 rfl) ?_
  refine bl_invV (M := lawMI) (Y := bl_mi 67) (idx := 23) (a := 1) (b := 10) (st := [.ref 0]) (σ := σ) (σ' := τ) (r := some (.int r)) C hP hS hl.1 (bl_mi_in 67) lawLk_ok dL_209 (by omega) rfl rfl (List.mem_of_getElem? (i := 14) rfl) (List.mem_of_getElem? (i := 15) rfl) (List.mem_of_getElem? (i := 16) rfl) (List.mem_of_getElem? (i := 3) rfl) (by decide +kernel) (by decide +kernel) (Nat.le_of_ble_eq_true rfl) (Nat.le_of_ble_eq_true rfl) rfl (by decide) h1 (fun H locs hP hS => ?_)
  refine W.eq (g2 := F0 m 212 ls [.int r]) rfl ?_
  refine lv_aload_n hx hb dL_212 rfl (lv_at hl 2 rfl) ?_
  refine bl_invV (M := lawMI) (Y := bl_mi 116) (idx := 26) (a := 1) (b := 11) (st := [.ref 1, .int r]) (σ := τ) (σ' := τ2) (r := some (.int r)) C hP hS hl.1 (bl_mi_in 116) lawLk_ok dL_213 (by omega) rfl rfl (List.mem_of_getElem? (i := 17) rfl) (List.mem_of_getElem? (i := 18) rfl) (List.mem_of_getElem? (i := 19) rfl) (List.mem_of_getElem? (i := 7) rfl) (by decide +kernel) (by decide +kernel) (Nat.le_of_ble_eq_true rfl) (Nat.le_of_ble_eq_true rfl) rfl (by decide) h2 (fun H locs hP hS => ?_)
  refine W.eq (g2 := F0 m 216 ls [.int r, .int r]) rfl ?_
  exact lv_icmp_eq (tgt := 1197) hx hb dL_216 (by decide) (fun _ => next τ2 H locs h3 hP hS) (fun z => absurd rfl z)
set_option maxHeartbeats 4000000 in
theorem br_told {D : va_G} {α : Nat → Nat} {cA : Nat → ClassId} {A : Nat → Prop} {p : Program} {l : Launch} {e : Env} {s : State} {m : MethodId} {b : Nat} {below : List Frame} {meth : Method} {c : Code} {L : Nat} {xs : Nat → Int32} {i : Nat} {Qf : State → Prop} {σ : bl_S} {H : Heap} {locs : List Loc} {ls : Array Slot} (C : LC D α cA A p s m b meth c L xs i) (hI : Inv σ) (hP : va_P D vwCl (bl_ws α cA σ) H) (hS : va_S A s.heap H locs) (hl : lv_has ls 4 [(0, .ref b), (1, .ref (α 0)), (2, .ref (α 1)), (3, .int (nI i))]) (next : ∀ (σ2 : bl_S) (H2 : Heap) (locs2 : List Loc), Inv σ2 → va_P D vwCl (bl_ws α cA σ2) H2 → va_S A s.heap H2 locs2 → W p l e room_1 s m #[Value.ref b] below meth c H2 locs2 600000 7302250 Qf (F0 m 1197 ls [])) : W p l e room_1 s m #[Value.ref b] below meth c H locs 600000 7302250 Qf (F0 m 221 ls []) := by
  obtain ⟨C, hX, hbl, hbA, hv⟩ := C
  have hx := C.1
  have hb : c.code = code := C.2.1
  obtain ⟨r, τ, τ2, h1, h2, h3⟩ := pr_told hI (xs (nI i + 1).toNatClampNeg)
  refine lv_aload_n hx hb dL_221 rfl (lv_at hl 1 rfl) ?_
  refine lv_aload_n hx hb dL_222 rfl (lv_at hl 0 rfl) ?_
  refine lv_iload_n hx hb dL_223 rfl (lv_at hl 3 rfl) ?_
  refine lv_iconst (v := 1) hx hb dL_224 (by decide) ?_
  refine lv_iadd hx hb dL_225 ?_
  refine va_sld hx hb hX hbl hbA hS (hv 1 (by omega)) dL_226 ?_
  refine bl_invV (M := lawMI) (Y := bl_mi 68) (idx := 27) (a := 2) (b := 10) (st := [.int (xs (nI i + 1).toNatClampNeg), .ref 0]) (σ := σ) (σ' := τ) (r := some (.int r)) C hP hS hl.1 (bl_mi_in 68) lawLk_ok dL_227 (by omega) rfl rfl (List.mem_of_getElem? (i := 20) rfl) (List.mem_of_getElem? (i := 21) rfl) (List.mem_of_getElem? (i := 22) rfl) (List.mem_of_getElem? (i := 3) rfl) (by decide +kernel) (by decide +kernel) (Nat.le_of_ble_eq_true rfl) (Nat.le_of_ble_eq_true rfl) rfl (by decide) h1 (fun H locs hP hS => ?_)
  refine W.eq (g2 := F0 m 230 ls [.int r]) rfl ?_
  refine lv_aload_n hx hb dL_230 rfl (lv_at hl 2 rfl) ?_
  refine lv_aload_n hx hb dL_231 rfl (lv_at hl 0 rfl) ?_
  refine lv_iload_n hx hb dL_232 rfl (lv_at hl 3 rfl) ?_
  refine lv_iconst (v := 1) hx hb dL_233 (by decide) ?_
  refine lv_iadd hx hb dL_234 ?_
  refine va_sld hx hb hX hbl hbA hS (hv 1 (by omega)) dL_235 ?_
  refine bl_invV (M := lawMI) (Y := bl_mi 118) (idx := 30) (a := 2) (b := 11) (st := [.int (xs (nI i + 1).toNatClampNeg), .ref 1, .int r]) (σ := τ) (σ' := τ2) (r := some (.int r)) C hP hS hl.1 (bl_mi_in 118) lawLk_ok dL_236 (by omega) rfl rfl (List.mem_of_getElem? (i := 23) rfl) (List.mem_of_getElem? (i := 24) rfl) (List.mem_of_getElem? (i := 25) rfl) (List.mem_of_getElem? (i := 7) rfl) (by decide +kernel) (by decide +kernel) (Nat.le_of_ble_eq_true rfl) (Nat.le_of_ble_eq_true rfl) rfl (by decide) h2 (fun H locs hP hS => ?_)
  refine W.eq (g2 := F0 m 239 ls [.int r, .int r]) rfl ?_
  exact lv_icmp_eq (tgt := 1197) hx hb dL_239 (by decide) (fun _ => next τ2 H locs h3 hP hS) (fun z => absurd rfl z)
set_option maxHeartbeats 4000000 in
theorem br_bush {D : va_G} {α : Nat → Nat} {cA : Nat → ClassId} {A : Nat → Prop} {p : Program} {l : Launch} {e : Env} {s : State} {m : MethodId} {b : Nat} {below : List Frame} {meth : Method} {c : Code} {L : Nat} {xs : Nat → Int32} {i : Nat} {Qf : State → Prop} {σ : bl_S} {H : Heap} {locs : List Loc} {ls : Array Slot} (C : LC D α cA A p s m b meth c L xs i) (hI : Inv σ) (hP : va_P D vwCl (bl_ws α cA σ) H) (hS : va_S A s.heap H locs) (hl : lv_has ls 4 [(0, .ref b), (1, .ref (α 0)), (2, .ref (α 1)), (3, .int (nI i))]) (next : ∀ (σ2 : bl_S) (H2 : Heap) (locs2 : List Loc), Inv σ2 → va_P D vwCl (bl_ws α cA σ2) H2 → va_S A s.heap H2 locs2 → W p l e room_1 s m #[Value.ref b] below meth c H2 locs2 600000 7302250 Qf (F0 m 1197 ls [])) : W p l e room_1 s m #[Value.ref b] below meth c H locs 600000 7302250 Qf (F0 m 244 ls []) := by
  obtain ⟨C, hX, hbl, hbA, hv⟩ := C
  have hx := C.1
  have hb : c.code = code := C.2.1
  obtain ⟨r, τ, τ2, h1, h2, h3⟩ := pr_bush hI (xs (nI i + 1).toNatClampNeg) (xs (nI i + 2).toNatClampNeg)
  refine lv_aload_n hx hb dL_244 rfl (lv_at hl 1 rfl) ?_
  refine lv_aload_n hx hb dL_245 rfl (lv_at hl 0 rfl) ?_
  refine lv_iload_n hx hb dL_246 rfl (lv_at hl 3 rfl) ?_
  refine lv_iconst (v := 1) hx hb dL_247 (by decide) ?_
  refine lv_iadd hx hb dL_248 ?_
  refine va_sld hx hb hX hbl hbA hS (hv 1 (by omega)) dL_249 ?_
  refine lv_aload_n hx hb dL_250 rfl (lv_at hl 0 rfl) ?_
  refine lv_iload_n hx hb dL_251 rfl (lv_at hl 3 rfl) ?_
  refine lv_iconst (v := 2) hx hb dL_252 (by decide) ?_
  refine lv_iadd hx hb dL_253 ?_
  refine va_sld hx hb hX hbl hbA hS (hv 2 (by omega)) dL_254 ?_
  refine bl_invV (M := lawMI) (Y := bl_mi 70) (idx := 31) (a := 3) (b := 10) (st := [.int (xs (nI i + 2).toNatClampNeg), .int (xs (nI i + 1).toNatClampNeg), .ref 0]) (σ := σ) (σ' := τ) (r := some (.int r)) C hP hS hl.1 (bl_mi_in 70) lawLk_ok dL_255 (by omega) rfl rfl (List.mem_of_getElem? (i := 26) rfl) (List.mem_of_getElem? (i := 27) rfl) (List.mem_of_getElem? (i := 28) rfl) (List.mem_of_getElem? (i := 3) rfl) (by decide +kernel) (by decide +kernel) (Nat.le_of_ble_eq_true rfl) (Nat.le_of_ble_eq_true rfl) rfl (by decide) h1 (fun H locs hP hS => ?_)
  refine W.eq (g2 := F0 m 258 ls [.int r]) rfl ?_
  refine lv_aload_n hx hb dL_258 rfl (lv_at hl 2 rfl) ?_
  refine lv_aload_n hx hb dL_259 rfl (lv_at hl 0 rfl) ?_
  refine lv_iload_n hx hb dL_260 rfl (lv_at hl 3 rfl) ?_
  refine lv_iconst (v := 1) hx hb dL_261 (by decide) ?_
  refine lv_iadd hx hb dL_262 ?_
  refine va_sld hx hb hX hbl hbA hS (hv 1 (by omega)) dL_263 ?_
  refine lv_aload_n hx hb dL_264 rfl (lv_at hl 0 rfl) ?_
  refine lv_iload_n hx hb dL_265 rfl (lv_at hl 3 rfl) ?_
  refine lv_iconst (v := 2) hx hb dL_266 (by decide) ?_
  refine lv_iadd hx hb dL_267 ?_
  refine va_sld hx hb hX hbl hbA hS (hv 2 (by omega)) dL_268 ?_
  refine bl_invV (M := lawMI) (Y := bl_mi 119) (idx := 35) (a := 3) (b := 11) (st := [.int (xs (nI i + 2).toNatClampNeg), .int (xs (nI i + 1).toNatClampNeg), .ref 1, .int r]) (σ := τ) (σ' := τ2) (r := some (.int r)) C hP hS hl.1 (bl_mi_in 119) lawLk_ok dL_269 (by omega) rfl rfl (List.mem_of_getElem? (i := 29) rfl) (List.mem_of_getElem? (i := 30) rfl) (List.mem_of_getElem? (i := 31) rfl) (List.mem_of_getElem? (i := 7) rfl) (by decide +kernel) (by decide +kernel) (Nat.le_of_ble_eq_true rfl) (Nat.le_of_ble_eq_true rfl) rfl (by decide) h2 (fun H locs hP hS => ?_)
  refine W.eq (g2 := F0 m 272 ls [.int r, .int r]) rfl ?_
  exact lv_icmp_eq (tgt := 1197) hx hb dL_272 (by decide) (fun _ => next τ2 H locs h3 hP hS) (fun z => absurd rfl z)
set_option maxHeartbeats 4000000 in
theorem br_picker {D : va_G} {α : Nat → Nat} {cA : Nat → ClassId} {A : Nat → Prop} {p : Program} {l : Launch} {e : Env} {s : State} {m : MethodId} {b : Nat} {below : List Frame} {meth : Method} {c : Code} {L : Nat} {xs : Nat → Int32} {i : Nat} {Qf : State → Prop} {σ : bl_S} {H : Heap} {locs : List Loc} {ls : Array Slot} (C : LC D α cA A p s m b meth c L xs i) (hI : Inv σ) (hP : va_P D vwCl (bl_ws α cA σ) H) (hS : va_S A s.heap H locs) (hl : lv_has ls 4 [(0, .ref b), (1, .ref (α 0)), (2, .ref (α 1)), (3, .int (nI i))]) (next : ∀ (σ2 : bl_S) (H2 : Heap) (locs2 : List Loc), Inv σ2 → va_P D vwCl (bl_ws α cA σ2) H2 → va_S A s.heap H2 locs2 → W p l e room_1 s m #[Value.ref b] below meth c H2 locs2 600000 7302250 Qf (F0 m 1197 ls [])) : W p l e room_1 s m #[Value.ref b] below meth c H locs 600000 7302250 Qf (F0 m 277 ls []) := by
  obtain ⟨C, hX, hbl, hbA, hv⟩ := C
  have hx := C.1
  have hb : c.code = code := C.2.1
  obtain ⟨r, τ, τ2, h1, h2, h3⟩ := pr_picker hI (xs (nI i + 1).toNatClampNeg) (xs (nI i + 2).toNatClampNeg)
  refine lv_aload_n hx hb dL_277 rfl (lv_at hl 1 rfl) ?_
  refine lv_aload_n hx hb dL_278 rfl (lv_at hl 0 rfl) ?_
  refine lv_iload_n hx hb dL_279 rfl (lv_at hl 3 rfl) ?_
  refine lv_iconst (v := 1) hx hb dL_280 (by decide) ?_
  refine lv_iadd hx hb dL_281 ?_
  refine va_sld hx hb hX hbl hbA hS (hv 1 (by omega)) dL_282 ?_
  refine lv_aload_n hx hb dL_283 rfl (lv_at hl 0 rfl) ?_
  refine lv_iload_n hx hb dL_284 rfl (lv_at hl 3 rfl) ?_
  refine lv_iconst (v := 2) hx hb dL_285 (by decide) ?_
  refine lv_iadd hx hb dL_286 ?_
  refine va_sld hx hb hX hbl hbA hS (hv 2 (by omega)) dL_287 ?_
  refine bl_invV (M := lawMI) (Y := bl_mi 72) (idx := 36) (a := 3) (b := 10) (st := [.int (xs (nI i + 2).toNatClampNeg), .int (xs (nI i + 1).toNatClampNeg), .ref 0]) (σ := σ) (σ' := τ) (r := some (.int r)) C hP hS hl.1 (bl_mi_in 72) lawLk_ok dL_288 (by omega) rfl rfl (List.mem_of_getElem? (i := 32) rfl) (List.mem_of_getElem? (i := 33) rfl) (List.mem_of_getElem? (i := 34) rfl) (List.mem_of_getElem? (i := 3) rfl) (by decide +kernel) (by decide +kernel) (Nat.le_of_ble_eq_true rfl) (Nat.le_of_ble_eq_true rfl) rfl (by decide) h1 (fun H locs hP hS => ?_)
  refine W.eq (g2 := F0 m 291 ls [.int r]) rfl ?_
  refine lv_aload_n hx hb dL_291 rfl (lv_at hl 2 rfl) ?_
  refine lv_aload_n hx hb dL_292 rfl (lv_at hl 0 rfl) ?_
  refine lv_iload_n hx hb dL_293 rfl (lv_at hl 3 rfl) ?_
  refine lv_iconst (v := 1) hx hb dL_294 (by decide) ?_
  refine lv_iadd hx hb dL_295 ?_
  refine va_sld hx hb hX hbl hbA hS (hv 1 (by omega)) dL_296 ?_
  refine lv_aload_n hx hb dL_297 rfl (lv_at hl 0 rfl) ?_
  refine lv_iload_n hx hb dL_298 rfl (lv_at hl 3 rfl) ?_
  refine lv_iconst (v := 2) hx hb dL_299 (by decide) ?_
  refine lv_iadd hx hb dL_300 ?_
  refine va_sld hx hb hX hbl hbA hS (hv 2 (by omega)) dL_301 ?_
  refine bl_invV (M := lawMI) (Y := bl_mi 120) (idx := 39) (a := 3) (b := 11) (st := [.int (xs (nI i + 2).toNatClampNeg), .int (xs (nI i + 1).toNatClampNeg), .ref 1, .int r]) (σ := τ) (σ' := τ2) (r := some (.int r)) C hP hS hl.1 (bl_mi_in 120) lawLk_ok dL_302 (by omega) rfl rfl (List.mem_of_getElem? (i := 35) rfl) (List.mem_of_getElem? (i := 36) rfl) (List.mem_of_getElem? (i := 37) rfl) (List.mem_of_getElem? (i := 7) rfl) (by decide +kernel) (by decide +kernel) (Nat.le_of_ble_eq_true rfl) (Nat.le_of_ble_eq_true rfl) rfl (by decide) h2 (fun H locs hP hS => ?_)
  refine W.eq (g2 := F0 m 305 ls [.int r, .int r]) rfl ?_
  exact lv_icmp_eq (tgt := 1197) hx hb dL_305 (by decide) (fun _ => next τ2 H locs h3 hP hS) (fun z => absurd rfl z)
set_option maxHeartbeats 4000000 in
theorem br_gives {D : va_G} {α : Nat → Nat} {cA : Nat → ClassId} {A : Nat → Prop} {p : Program} {l : Launch} {e : Env} {s : State} {m : MethodId} {b : Nat} {below : List Frame} {meth : Method} {c : Code} {L : Nat} {xs : Nat → Int32} {i : Nat} {Qf : State → Prop} {σ : bl_S} {H : Heap} {locs : List Loc} {ls : Array Slot} (C : LC D α cA A p s m b meth c L xs i) (hI : Inv σ) (hP : va_P D vwCl (bl_ws α cA σ) H) (hS : va_S A s.heap H locs) (hl : lv_has ls 4 [(0, .ref b), (1, .ref (α 0)), (2, .ref (α 1)), (3, .int (nI i))]) (next : ∀ (σ2 : bl_S) (H2 : Heap) (locs2 : List Loc), Inv σ2 → va_P D vwCl (bl_ws α cA σ2) H2 → va_S A s.heap H2 locs2 → W p l e room_1 s m #[Value.ref b] below meth c H2 locs2 600000 7302250 Qf (F0 m 1197 ls [])) : W p l e room_1 s m #[Value.ref b] below meth c H locs 600000 7302250 Qf (F0 m 310 ls []) := by
  obtain ⟨C, hX, hbl, hbA, hv⟩ := C
  have hx := C.1
  have hb : c.code = code := C.2.1
  obtain ⟨r, τ, τ2, h1, h2, h3⟩ := pr_gives hI (xs (nI i + 1).toNatClampNeg) (xs (nI i + 2).toNatClampNeg)
  refine lv_aload_n hx hb dL_310 rfl (lv_at hl 1 rfl) ?_
  refine lv_aload_n hx hb dL_311 rfl (lv_at hl 0 rfl) ?_
  refine lv_iload_n hx hb dL_312 rfl (lv_at hl 3 rfl) ?_
  refine lv_iconst (v := 1) hx hb dL_313 (by decide) ?_
  refine lv_iadd hx hb dL_314 ?_
  refine va_sld hx hb hX hbl hbA hS (hv 1 (by omega)) dL_315 ?_
  refine lv_aload_n hx hb dL_316 rfl (lv_at hl 0 rfl) ?_
  refine lv_iload_n hx hb dL_317 rfl (lv_at hl 3 rfl) ?_
  refine lv_iconst (v := 2) hx hb dL_318 (by decide) ?_
  refine lv_iadd hx hb dL_319 ?_
  refine va_sld hx hb hX hbl hbA hS (hv 2 (by omega)) dL_320 ?_
  refine bl_invV (M := lawMI) (Y := bl_mi 73) (idx := 40) (a := 3) (b := 10) (st := [.int (xs (nI i + 2).toNatClampNeg), .int (xs (nI i + 1).toNatClampNeg), .ref 0]) (σ := σ) (σ' := τ) (r := some (.int r)) C hP hS hl.1 (bl_mi_in 73) lawLk_ok dL_321 (by omega) rfl rfl (List.mem_of_getElem? (i := 38) rfl) (List.mem_of_getElem? (i := 39) rfl) (List.mem_of_getElem? (i := 40) rfl) (List.mem_of_getElem? (i := 3) rfl) (by decide +kernel) (by decide +kernel) (Nat.le_of_ble_eq_true rfl) (Nat.le_of_ble_eq_true rfl) rfl (by decide) h1 (fun H locs hP hS => ?_)
  refine W.eq (g2 := F0 m 324 ls [.int r]) rfl ?_
  refine lv_aload_n hx hb dL_324 rfl (lv_at hl 2 rfl) ?_
  refine lv_aload_n hx hb dL_325 rfl (lv_at hl 0 rfl) ?_
  refine lv_iload_n hx hb dL_326 rfl (lv_at hl 3 rfl) ?_
  refine lv_iconst (v := 1) hx hb dL_327 (by decide) ?_
  refine lv_iadd hx hb dL_328 ?_
  refine va_sld hx hb hX hbl hbA hS (hv 1 (by omega)) dL_329 ?_
  refine lv_aload_n hx hb dL_330 rfl (lv_at hl 0 rfl) ?_
  refine lv_iload_n hx hb dL_331 rfl (lv_at hl 3 rfl) ?_
  refine lv_iconst (v := 2) hx hb dL_332 (by decide) ?_
  refine lv_iadd hx hb dL_333 ?_
  refine va_sld hx hb hX hbl hbA hS (hv 2 (by omega)) dL_334 ?_
  refine bl_invV (M := lawMI) (Y := bl_mi 122) (idx := 43) (a := 3) (b := 11) (st := [.int (xs (nI i + 2).toNatClampNeg), .int (xs (nI i + 1).toNatClampNeg), .ref 1, .int r]) (σ := τ) (σ' := τ2) (r := some (.int r)) C hP hS hl.1 (bl_mi_in 122) lawLk_ok dL_335 (by omega) rfl rfl (List.mem_of_getElem? (i := 41) rfl) (List.mem_of_getElem? (i := 42) rfl) (List.mem_of_getElem? (i := 43) rfl) (List.mem_of_getElem? (i := 7) rfl) (by decide +kernel) (by decide +kernel) (Nat.le_of_ble_eq_true rfl) (Nat.le_of_ble_eq_true rfl) rfl (by decide) h2 (fun H locs hP hS => ?_)
  refine W.eq (g2 := F0 m 338 ls [.int r, .int r]) rfl ?_
  exact lv_icmp_eq (tgt := 1197) hx hb dL_338 (by decide) (fun _ => next τ2 H locs h3 hP hS) (fun z => absurd rfl z)
set_option maxHeartbeats 4000000 in
theorem br_way {D : va_G} {α : Nat → Nat} {cA : Nat → ClassId} {A : Nat → Prop} {p : Program} {l : Launch} {e : Env} {s : State} {m : MethodId} {b : Nat} {below : List Frame} {meth : Method} {c : Code} {L : Nat} {xs : Nat → Int32} {i : Nat} {Qf : State → Prop} {σ : bl_S} {H : Heap} {locs : List Loc} {ls : Array Slot} (C : LC D α cA A p s m b meth c L xs i) (hI : Inv σ) (hP : va_P D vwCl (bl_ws α cA σ) H) (hS : va_S A s.heap H locs) (hl : lv_has ls 4 [(0, .ref b), (1, .ref (α 0)), (2, .ref (α 1)), (3, .int (nI i))]) (next : ∀ (σ2 : bl_S) (H2 : Heap) (locs2 : List Loc), Inv σ2 → va_P D vwCl (bl_ws α cA σ2) H2 → va_S A s.heap H2 locs2 → W p l e room_1 s m #[Value.ref b] below meth c H2 locs2 600000 7302250 Qf (F0 m 1197 ls [])) : W p l e room_1 s m #[Value.ref b] below meth c H locs 600000 7302250 Qf (F0 m 343 ls []) := by
  obtain ⟨C, hX, hbl, hbA, hv⟩ := C
  have hx := C.1
  have hb : c.code = code := C.2.1
  obtain ⟨r, τ, τ2, h1, h2, h3⟩ := pr_way hI (xs (nI i + 1).toNatClampNeg) (xs (nI i + 2).toNatClampNeg)
  refine lv_aload_n hx hb dL_343 rfl (lv_at hl 1 rfl) ?_
  refine lv_aload_n hx hb dL_344 rfl (lv_at hl 0 rfl) ?_
  refine lv_iload_n hx hb dL_345 rfl (lv_at hl 3 rfl) ?_
  refine lv_iconst (v := 1) hx hb dL_346 (by decide) ?_
  refine lv_iadd hx hb dL_347 ?_
  refine va_sld hx hb hX hbl hbA hS (hv 1 (by omega)) dL_348 ?_
  refine lv_aload_n hx hb dL_349 rfl (lv_at hl 0 rfl) ?_
  refine lv_iload_n hx hb dL_350 rfl (lv_at hl 3 rfl) ?_
  refine lv_iconst (v := 2) hx hb dL_351 (by decide) ?_
  refine lv_iadd hx hb dL_352 ?_
  refine va_sld hx hb hX hbl hbA hS (hv 2 (by omega)) dL_353 ?_
  refine bl_invV (M := lawMI) (Y := bl_mi 74) (idx := 44) (a := 3) (b := 10) (st := [.int (xs (nI i + 2).toNatClampNeg), .int (xs (nI i + 1).toNatClampNeg), .ref 0]) (σ := σ) (σ' := τ) (r := some (.int r)) C hP hS hl.1 (bl_mi_in 74) lawLk_ok dL_354 (by omega) rfl rfl (List.mem_of_getElem? (i := 44) rfl) (List.mem_of_getElem? (i := 45) rfl) (List.mem_of_getElem? (i := 46) rfl) (List.mem_of_getElem? (i := 3) rfl) (by decide +kernel) (by decide +kernel) (Nat.le_of_ble_eq_true rfl) (Nat.le_of_ble_eq_true rfl) rfl (by decide) h1 (fun H locs hP hS => ?_)
  refine W.eq (g2 := F0 m 357 ls [.int r]) rfl ?_
  refine lv_aload_n hx hb dL_357 rfl (lv_at hl 2 rfl) ?_
  refine lv_aload_n hx hb dL_358 rfl (lv_at hl 0 rfl) ?_
  refine lv_iload_n hx hb dL_359 rfl (lv_at hl 3 rfl) ?_
  refine lv_iconst (v := 1) hx hb dL_360 (by decide) ?_
  refine lv_iadd hx hb dL_361 ?_
  refine va_sld hx hb hX hbl hbA hS (hv 1 (by omega)) dL_362 ?_
  refine lv_aload_n hx hb dL_363 rfl (lv_at hl 0 rfl) ?_
  refine lv_iload_n hx hb dL_364 rfl (lv_at hl 3 rfl) ?_
  refine lv_iconst (v := 2) hx hb dL_365 (by decide) ?_
  refine lv_iadd hx hb dL_366 ?_
  refine va_sld hx hb hX hbl hbA hS (hv 2 (by omega)) dL_367 ?_
  refine bl_invV (M := lawMI) (Y := bl_mi 125) (idx := 47) (a := 3) (b := 11) (st := [.int (xs (nI i + 2).toNatClampNeg), .int (xs (nI i + 1).toNatClampNeg), .ref 1, .int r]) (σ := τ) (σ' := τ2) (r := some (.int r)) C hP hS hl.1 (bl_mi_in 125) lawLk_ok dL_368 (by omega) rfl rfl (List.mem_of_getElem? (i := 47) rfl) (List.mem_of_getElem? (i := 48) rfl) (List.mem_of_getElem? (i := 49) rfl) (List.mem_of_getElem? (i := 7) rfl) (by decide +kernel) (by decide +kernel) (Nat.le_of_ble_eq_true rfl) (Nat.le_of_ble_eq_true rfl) rfl (by decide) h2 (fun H locs hP hS => ?_)
  refine W.eq (g2 := F0 m 371 ls [.int r, .int r]) rfl ?_
  exact lv_icmp_eq (tgt := 1197) hx hb dL_371 (by decide) (fun _ => next τ2 H locs h3 hP hS) (fun z => absurd rfl z)
set_option maxHeartbeats 4000000 in
theorem br_go {D : va_G} {α : Nat → Nat} {cA : Nat → ClassId} {A : Nat → Prop} {p : Program} {l : Launch} {e : Env} {s : State} {m : MethodId} {b : Nat} {below : List Frame} {meth : Method} {c : Code} {L : Nat} {xs : Nat → Int32} {i : Nat} {Qf : State → Prop} {σ : bl_S} {H : Heap} {locs : List Loc} {ls : Array Slot} (C : LC D α cA A p s m b meth c L xs i) (hI : Inv σ) (hP : va_P D vwCl (bl_ws α cA σ) H) (hS : va_S A s.heap H locs) (hl : lv_has ls 4 [(0, .ref b), (1, .ref (α 0)), (2, .ref (α 1)), (3, .int (nI i))]) (next : ∀ (σ2 : bl_S) (H2 : Heap) (locs2 : List Loc), Inv σ2 → va_P D vwCl (bl_ws α cA σ2) H2 → va_S A s.heap H2 locs2 → W p l e room_1 s m #[Value.ref b] below meth c H2 locs2 600000 7302250 Qf (F0 m 1197 ls [])) : W p l e room_1 s m #[Value.ref b] below meth c H locs 600000 7302250 Qf (F0 m 376 ls []) := by
  obtain ⟨C, hX, hbl, hbA, hv⟩ := C
  have hx := C.1
  have hb : c.code = code := C.2.1
  obtain ⟨r, τ, τ2, h1, h2, h3⟩ := pr_go hI (xs (nI i + 1).toNatClampNeg) (xs (nI i + 2).toNatClampNeg)
  refine lv_aload_n hx hb dL_376 rfl (lv_at hl 1 rfl) ?_
  refine lv_aload_n hx hb dL_377 rfl (lv_at hl 0 rfl) ?_
  refine lv_iload_n hx hb dL_378 rfl (lv_at hl 3 rfl) ?_
  refine lv_iconst (v := 1) hx hb dL_379 (by decide) ?_
  refine lv_iadd hx hb dL_380 ?_
  refine va_sld hx hb hX hbl hbA hS (hv 1 (by omega)) dL_381 ?_
  refine lv_aload_n hx hb dL_382 rfl (lv_at hl 0 rfl) ?_
  refine lv_iload_n hx hb dL_383 rfl (lv_at hl 3 rfl) ?_
  refine lv_iconst (v := 2) hx hb dL_384 (by decide) ?_
  refine lv_iadd hx hb dL_385 ?_
  refine va_sld hx hb hX hbl hbA hS (hv 2 (by omega)) dL_386 ?_
  refine bl_invV (M := lawMI) (Y := bl_mi 75) (idx := 48) (a := 3) (b := 10) (st := [.int (xs (nI i + 2).toNatClampNeg), .int (xs (nI i + 1).toNatClampNeg), .ref 0]) (σ := σ) (σ' := τ) (r := some (.int r)) C hP hS hl.1 (bl_mi_in 75) lawLk_ok dL_387 (by omega) rfl rfl (List.mem_of_getElem? (i := 50) rfl) (List.mem_of_getElem? (i := 51) rfl) (List.mem_of_getElem? (i := 52) rfl) (List.mem_of_getElem? (i := 3) rfl) (by decide +kernel) (by decide +kernel) (Nat.le_of_ble_eq_true rfl) (Nat.le_of_ble_eq_true rfl) rfl (by decide) h1 (fun H locs hP hS => ?_)
  refine W.eq (g2 := F0 m 390 ls [.int r]) rfl ?_
  refine lv_aload_n hx hb dL_390 rfl (lv_at hl 2 rfl) ?_
  refine lv_aload_n hx hb dL_391 rfl (lv_at hl 0 rfl) ?_
  refine lv_iload_n hx hb dL_392 rfl (lv_at hl 3 rfl) ?_
  refine lv_iconst (v := 1) hx hb dL_393 (by decide) ?_
  refine lv_iadd hx hb dL_394 ?_
  refine va_sld hx hb hX hbl hbA hS (hv 1 (by omega)) dL_395 ?_
  refine lv_aload_n hx hb dL_396 rfl (lv_at hl 0 rfl) ?_
  refine lv_iload_n hx hb dL_397 rfl (lv_at hl 3 rfl) ?_
  refine lv_iconst (v := 2) hx hb dL_398 (by decide) ?_
  refine lv_iadd hx hb dL_399 ?_
  refine va_sld hx hb hX hbl hbA hS (hv 2 (by omega)) dL_400 ?_
  refine bl_invV (M := lawMI) (Y := bl_mi 129) (idx := 51) (a := 3) (b := 11) (st := [.int (xs (nI i + 2).toNatClampNeg), .int (xs (nI i + 1).toNatClampNeg), .ref 1, .int r]) (σ := τ) (σ' := τ2) (r := some (.int r)) C hP hS hl.1 (bl_mi_in 129) lawLk_ok dL_401 (by omega) rfl rfl (List.mem_of_getElem? (i := 53) rfl) (List.mem_of_getElem? (i := 54) rfl) (List.mem_of_getElem? (i := 55) rfl) (List.mem_of_getElem? (i := 7) rfl) (by decide +kernel) (by decide +kernel) (Nat.le_of_ble_eq_true rfl) (Nat.le_of_ble_eq_true rfl) rfl (by decide) h2 (fun H locs hP hS => ?_)
  refine W.eq (g2 := F0 m 404 ls [.int r, .int r]) rfl ?_
  exact lv_icmp_eq (tgt := 1197) hx hb dL_404 (by decide) (fun _ => next τ2 H locs h3 hP hS) (fun z => absurd rfl z)
set_option maxHeartbeats 4000000 in
theorem br_pick {D : va_G} {α : Nat → Nat} {cA : Nat → ClassId} {A : Nat → Prop} {p : Program} {l : Launch} {e : Env} {s : State} {m : MethodId} {b : Nat} {below : List Frame} {meth : Method} {c : Code} {L : Nat} {xs : Nat → Int32} {i : Nat} {Qf : State → Prop} {σ : bl_S} {H : Heap} {locs : List Loc} {ls : Array Slot} (C : LC D α cA A p s m b meth c L xs i) (hI : Inv σ) (hP : va_P D vwCl (bl_ws α cA σ) H) (hS : va_S A s.heap H locs) (hl : lv_has ls 4 [(0, .ref b), (1, .ref (α 0)), (2, .ref (α 1)), (3, .int (nI i))]) (next : ∀ (σ2 : bl_S) (H2 : Heap) (locs2 : List Loc), Inv σ2 → va_P D vwCl (bl_ws α cA σ2) H2 → va_S A s.heap H2 locs2 → W p l e room_1 s m #[Value.ref b] below meth c H2 locs2 600000 7302250 Qf (F0 m 1197 ls [])) : W p l e room_1 s m #[Value.ref b] below meth c H locs 600000 7302250 Qf (F0 m 409 ls []) := by
  obtain ⟨C, hX, hbl, hbA, hv⟩ := C
  have hx := C.1
  have hb : c.code = code := C.2.1
  obtain ⟨r, τ, τ2, h1, h2, h3⟩ := pr_pick hI (xs (nI i + 1).toNatClampNeg) (xs (nI i + 2).toNatClampNeg) (xs (nI i + 3).toNatClampNeg)
  refine lv_aload_n hx hb dL_409 rfl (lv_at hl 1 rfl) ?_
  refine lv_aload_n hx hb dL_410 rfl (lv_at hl 0 rfl) ?_
  refine lv_iload_n hx hb dL_411 rfl (lv_at hl 3 rfl) ?_
  refine lv_iconst (v := 1) hx hb dL_412 (by decide) ?_
  refine lv_iadd hx hb dL_413 ?_
  refine va_sld hx hb hX hbl hbA hS (hv 1 (by omega)) dL_414 ?_
  refine lv_aload_n hx hb dL_415 rfl (lv_at hl 0 rfl) ?_
  refine lv_iload_n hx hb dL_416 rfl (lv_at hl 3 rfl) ?_
  refine lv_iconst (v := 2) hx hb dL_417 (by decide) ?_
  refine lv_iadd hx hb dL_418 ?_
  refine va_sld hx hb hX hbl hbA hS (hv 2 (by omega)) dL_419 ?_
  refine lv_aload_n hx hb dL_420 rfl (lv_at hl 0 rfl) ?_
  refine lv_iload_n hx hb dL_421 rfl (lv_at hl 3 rfl) ?_
  refine lv_iconst (v := 3) hx hb dL_422 (by decide) ?_
  refine lv_iadd hx hb dL_423 ?_
  refine va_sld hx hb hX hbl hbA hS (hv 3 (by omega)) dL_424 ?_
  refine bl_invV (M := lawMI) (Y := bl_mi 76) (idx := 52) (a := 4) (b := 10) (st := [.int (xs (nI i + 3).toNatClampNeg), .int (xs (nI i + 2).toNatClampNeg), .int (xs (nI i + 1).toNatClampNeg), .ref 0]) (σ := σ) (σ' := τ) (r := some (.int r)) C hP hS hl.1 (bl_mi_in 76) lawLk_ok dL_425 (by omega) rfl rfl (List.mem_of_getElem? (i := 56) rfl) (List.mem_of_getElem? (i := 57) rfl) (List.mem_of_getElem? (i := 58) rfl) (List.mem_of_getElem? (i := 3) rfl) (by decide +kernel) (by decide +kernel) (Nat.le_of_ble_eq_true rfl) (Nat.le_of_ble_eq_true rfl) rfl (by decide) h1 (fun H locs hP hS => ?_)
  refine W.eq (g2 := F0 m 428 ls [.int r]) rfl ?_
  refine lv_aload_n hx hb dL_428 rfl (lv_at hl 2 rfl) ?_
  refine lv_aload_n hx hb dL_429 rfl (lv_at hl 0 rfl) ?_
  refine lv_iload_n hx hb dL_430 rfl (lv_at hl 3 rfl) ?_
  refine lv_iconst (v := 1) hx hb dL_431 (by decide) ?_
  refine lv_iadd hx hb dL_432 ?_
  refine va_sld hx hb hX hbl hbA hS (hv 1 (by omega)) dL_433 ?_
  refine lv_aload_n hx hb dL_434 rfl (lv_at hl 0 rfl) ?_
  refine lv_iload_n hx hb dL_435 rfl (lv_at hl 3 rfl) ?_
  refine lv_iconst (v := 2) hx hb dL_436 (by decide) ?_
  refine lv_iadd hx hb dL_437 ?_
  refine va_sld hx hb hX hbl hbA hS (hv 2 (by omega)) dL_438 ?_
  refine lv_aload_n hx hb dL_439 rfl (lv_at hl 0 rfl) ?_
  refine lv_iload_n hx hb dL_440 rfl (lv_at hl 3 rfl) ?_
  refine lv_iconst (v := 3) hx hb dL_441 (by decide) ?_
  refine lv_iadd hx hb dL_442 ?_
  refine va_sld hx hb hX hbl hbA hS (hv 3 (by omega)) dL_443 ?_
  refine bl_invV (M := lawMI) (Y := bl_mi 132) (idx := 56) (a := 4) (b := 11) (st := [.int (xs (nI i + 3).toNatClampNeg), .int (xs (nI i + 2).toNatClampNeg), .int (xs (nI i + 1).toNatClampNeg), .ref 1, .int r]) (σ := τ) (σ' := τ2) (r := some (.int r)) C hP hS hl.1 (bl_mi_in 132) lawLk_ok dL_444 (by omega) rfl rfl (List.mem_of_getElem? (i := 59) rfl) (List.mem_of_getElem? (i := 60) rfl) (List.mem_of_getElem? (i := 61) rfl) (List.mem_of_getElem? (i := 7) rfl) (by decide +kernel) (by decide +kernel) (Nat.le_of_ble_eq_true rfl) (Nat.le_of_ble_eq_true rfl) rfl (by decide) h2 (fun H locs hP hS => ?_)
  refine W.eq (g2 := F0 m 447 ls [.int r, .int r]) rfl ?_
  exact lv_icmp_eq (tgt := 1197) hx hb dL_447 (by decide) (fun _ => next τ2 H locs h3 hP hS) (fun z => absurd rfl z)
set_option maxHeartbeats 4000000 in
theorem br_stick {D : va_G} {α : Nat → Nat} {cA : Nat → ClassId} {A : Nat → Prop} {p : Program} {l : Launch} {e : Env} {s : State} {m : MethodId} {b : Nat} {below : List Frame} {meth : Method} {c : Code} {L : Nat} {xs : Nat → Int32} {i : Nat} {Qf : State → Prop} {σ : bl_S} {H : Heap} {locs : List Loc} {ls : Array Slot} (C : LC D α cA A p s m b meth c L xs i) (hI : Inv σ) (hP : va_P D vwCl (bl_ws α cA σ) H) (hS : va_S A s.heap H locs) (hl : lv_has ls 4 [(0, .ref b), (1, .ref (α 0)), (2, .ref (α 1)), (3, .int (nI i))]) (next : ∀ (σ2 : bl_S) (H2 : Heap) (locs2 : List Loc), Inv σ2 → va_P D vwCl (bl_ws α cA σ2) H2 → va_S A s.heap H2 locs2 → W p l e room_1 s m #[Value.ref b] below meth c H2 locs2 600000 7302250 Qf (F0 m 1197 ls [])) : W p l e room_1 s m #[Value.ref b] below meth c H locs 600000 7302250 Qf (F0 m 452 ls []) := by
  obtain ⟨C, hX, hbl, hbA, hv⟩ := C
  have hx := C.1
  have hb : c.code = code := C.2.1
  by_cases hz : (xs (nI i + 2).toNatClampNeg) = 0
  case pos =>
    obtain ⟨r, τ, τ2, h1, h2, h3⟩ := pr_stick hI (xs (nI i + 1).toNatClampNeg) 0 (Or.inl rfl)
    refine lv_aload_n hx hb dL_452 rfl (lv_at hl 1 rfl) ?_
    refine lv_aload_n hx hb dL_453 rfl (lv_at hl 0 rfl) ?_
    refine lv_iload_n hx hb dL_454 rfl (lv_at hl 3 rfl) ?_
    refine lv_iconst (v := 1) hx hb dL_455 (by decide) ?_
    refine lv_iadd hx hb dL_456 ?_
    refine va_sld hx hb hX hbl hbA hS (hv 1 (by omega)) dL_457 ?_
    refine lv_aload_n hx hb dL_458 rfl (lv_at hl 0 rfl) ?_
    refine lv_iload_n hx hb dL_459 rfl (lv_at hl 3 rfl) ?_
    refine lv_iconst (v := 2) hx hb dL_460 (by decide) ?_
    refine lv_iadd hx hb dL_461 ?_
    refine va_sld hx hb hX hbl hbA hS (hv 2 (by omega)) dL_462 ?_
    refine lv_if_eq (tgt := 470) hx hb dL_463 (by decide) (fun _ => ?_) (fun z => absurd hz z)
    refine lv_iconst (v := 0) hx hb dL_470 (by decide) ?_
    refine bl_invV (M := lawMI) (Y := bl_mi 77) (idx := 57) (a := 3) (b := 10) (st := [.int 0, .int (xs (nI i + 1).toNatClampNeg), .ref 0]) (σ := σ) (σ' := τ) (r := some (.int r)) C hP hS hl.1 (bl_mi_in 77) lawLk_ok dL_471 (by omega) rfl rfl (List.mem_of_getElem? (i := 62) rfl) (List.mem_of_getElem? (i := 63) rfl) (List.mem_of_getElem? (i := 64) rfl) (List.mem_of_getElem? (i := 3) rfl) (by decide +kernel) (by decide +kernel) (Nat.le_of_ble_eq_true rfl) (Nat.le_of_ble_eq_true rfl) rfl (by decide) h1 (fun H locs hP hS => ?_)
    refine W.eq (g2 := F0 m 474 ls [.int r]) rfl ?_
    refine lv_aload_n hx hb dL_474 rfl (lv_at hl 2 rfl) ?_
    refine lv_aload_n hx hb dL_475 rfl (lv_at hl 0 rfl) ?_
    refine lv_iload_n hx hb dL_476 rfl (lv_at hl 3 rfl) ?_
    refine lv_iconst (v := 1) hx hb dL_477 (by decide) ?_
    refine lv_iadd hx hb dL_478 ?_
    refine va_sld hx hb hX hbl hbA hS (hv 1 (by omega)) dL_479 ?_
    refine lv_aload_n hx hb dL_480 rfl (lv_at hl 0 rfl) ?_
    refine lv_iload_n hx hb dL_481 rfl (lv_at hl 3 rfl) ?_
    refine lv_iconst (v := 2) hx hb dL_482 (by decide) ?_
    refine lv_iadd hx hb dL_483 ?_
    refine va_sld hx hb hX hbl hbA hS (hv 2 (by omega)) dL_484 ?_
    refine lv_if_eq (tgt := 492) hx hb dL_485 (by decide) (fun _ => ?_) (fun z => absurd hz z)
    refine lv_iconst (v := 0) hx hb dL_492 (by decide) ?_
    refine bl_invV (M := lawMI) (Y := bl_mi 133) (idx := 61) (a := 3) (b := 11) (st := [.int 0, .int (xs (nI i + 1).toNatClampNeg), .ref 1, .int r]) (σ := τ) (σ' := τ2) (r := some (.int r)) C hP hS hl.1 (bl_mi_in 133) lawLk_ok dL_493 (by omega) rfl rfl (List.mem_of_getElem? (i := 65) rfl) (List.mem_of_getElem? (i := 66) rfl) (List.mem_of_getElem? (i := 67) rfl) (List.mem_of_getElem? (i := 7) rfl) (by decide +kernel) (by decide +kernel) (Nat.le_of_ble_eq_true rfl) (Nat.le_of_ble_eq_true rfl) rfl (by decide) h2 (fun H locs hP hS => ?_)
    refine W.eq (g2 := F0 m 496 ls [.int r, .int r]) rfl ?_
    exact lv_icmp_eq (tgt := 1197) hx hb dL_496 (by decide) (fun _ => next τ2 H locs h3 hP hS) (fun z => absurd rfl z)
  case neg =>
    obtain ⟨r, τ, τ2, h1, h2, h3⟩ := pr_stick hI (xs (nI i + 1).toNatClampNeg) 1 (Or.inr rfl)
    refine lv_aload_n hx hb dL_452 rfl (lv_at hl 1 rfl) ?_
    refine lv_aload_n hx hb dL_453 rfl (lv_at hl 0 rfl) ?_
    refine lv_iload_n hx hb dL_454 rfl (lv_at hl 3 rfl) ?_
    refine lv_iconst (v := 1) hx hb dL_455 (by decide) ?_
    refine lv_iadd hx hb dL_456 ?_
    refine va_sld hx hb hX hbl hbA hS (hv 1 (by omega)) dL_457 ?_
    refine lv_aload_n hx hb dL_458 rfl (lv_at hl 0 rfl) ?_
    refine lv_iload_n hx hb dL_459 rfl (lv_at hl 3 rfl) ?_
    refine lv_iconst (v := 2) hx hb dL_460 (by decide) ?_
    refine lv_iadd hx hb dL_461 ?_
    refine va_sld hx hb hX hbl hbA hS (hv 2 (by omega)) dL_462 ?_
    refine lv_if_eq (tgt := 470) hx hb dL_463 (by decide) (fun z => absurd z hz) (fun _ => ?_)
    refine lv_iconst (v := 1) hx hb dL_466 (by decide) ?_
    refine lv_goto (tgt := 471) hx hb dL_467 (by decide) ?_
    refine bl_invV (M := lawMI) (Y := bl_mi 77) (idx := 57) (a := 3) (b := 10) (st := [.int 1, .int (xs (nI i + 1).toNatClampNeg), .ref 0]) (σ := σ) (σ' := τ) (r := some (.int r)) C hP hS hl.1 (bl_mi_in 77) lawLk_ok dL_471 (by omega) rfl rfl (List.mem_of_getElem? (i := 62) rfl) (List.mem_of_getElem? (i := 63) rfl) (List.mem_of_getElem? (i := 64) rfl) (List.mem_of_getElem? (i := 3) rfl) (by decide +kernel) (by decide +kernel) (Nat.le_of_ble_eq_true rfl) (Nat.le_of_ble_eq_true rfl) rfl (by decide) h1 (fun H locs hP hS => ?_)
    refine W.eq (g2 := F0 m 474 ls [.int r]) rfl ?_
    refine lv_aload_n hx hb dL_474 rfl (lv_at hl 2 rfl) ?_
    refine lv_aload_n hx hb dL_475 rfl (lv_at hl 0 rfl) ?_
    refine lv_iload_n hx hb dL_476 rfl (lv_at hl 3 rfl) ?_
    refine lv_iconst (v := 1) hx hb dL_477 (by decide) ?_
    refine lv_iadd hx hb dL_478 ?_
    refine va_sld hx hb hX hbl hbA hS (hv 1 (by omega)) dL_479 ?_
    refine lv_aload_n hx hb dL_480 rfl (lv_at hl 0 rfl) ?_
    refine lv_iload_n hx hb dL_481 rfl (lv_at hl 3 rfl) ?_
    refine lv_iconst (v := 2) hx hb dL_482 (by decide) ?_
    refine lv_iadd hx hb dL_483 ?_
    refine va_sld hx hb hX hbl hbA hS (hv 2 (by omega)) dL_484 ?_
    refine lv_if_eq (tgt := 492) hx hb dL_485 (by decide) (fun z => absurd z hz) (fun _ => ?_)
    refine lv_iconst (v := 1) hx hb dL_488 (by decide) ?_
    refine lv_goto (tgt := 493) hx hb dL_489 (by decide) ?_
    refine bl_invV (M := lawMI) (Y := bl_mi 133) (idx := 61) (a := 3) (b := 11) (st := [.int 1, .int (xs (nI i + 1).toNatClampNeg), .ref 1, .int r]) (σ := τ) (σ' := τ2) (r := some (.int r)) C hP hS hl.1 (bl_mi_in 133) lawLk_ok dL_493 (by omega) rfl rfl (List.mem_of_getElem? (i := 65) rfl) (List.mem_of_getElem? (i := 66) rfl) (List.mem_of_getElem? (i := 67) rfl) (List.mem_of_getElem? (i := 7) rfl) (by decide +kernel) (by decide +kernel) (Nat.le_of_ble_eq_true rfl) (Nat.le_of_ble_eq_true rfl) rfl (by decide) h2 (fun H locs hP hS => ?_)
    refine W.eq (g2 := F0 m 496 ls [.int r, .int r]) rfl ?_
    exact lv_icmp_eq (tgt := 1197) hx hb dL_496 (by decide) (fun _ => next τ2 H locs h3 hP hS) (fun z => absurd rfl z)
set_option maxHeartbeats 4000000 in
theorem br_pour {D : va_G} {α : Nat → Nat} {cA : Nat → ClassId} {A : Nat → Prop} {p : Program} {l : Launch} {e : Env} {s : State} {m : MethodId} {b : Nat} {below : List Frame} {meth : Method} {c : Code} {L : Nat} {xs : Nat → Int32} {i : Nat} {Qf : State → Prop} {σ : bl_S} {H : Heap} {locs : List Loc} {ls : Array Slot} (C : LC D α cA A p s m b meth c L xs i) (hI : Inv σ) (hP : va_P D vwCl (bl_ws α cA σ) H) (hS : va_S A s.heap H locs) (hl : lv_has ls 4 [(0, .ref b), (1, .ref (α 0)), (2, .ref (α 1)), (3, .int (nI i))]) (next : ∀ (σ2 : bl_S) (H2 : Heap) (locs2 : List Loc), Inv σ2 → va_P D vwCl (bl_ws α cA σ2) H2 → va_S A s.heap H2 locs2 → W p l e room_1 s m #[Value.ref b] below meth c H2 locs2 600000 7302250 Qf (F0 m 1197 ls [])) : W p l e room_1 s m #[Value.ref b] below meth c H locs 600000 7302250 Qf (F0 m 501 ls []) := by
  obtain ⟨C, hX, hbl, hbA, hv⟩ := C
  have hx := C.1
  have hb : c.code = code := C.2.1
  obtain ⟨r, τ, τ2, h1, h2, h3⟩ := pr_pour hI (xs (nI i + 1).toNatClampNeg)
  refine lv_aload_n hx hb dL_501 rfl (lv_at hl 1 rfl) ?_
  refine lv_aload_n hx hb dL_502 rfl (lv_at hl 0 rfl) ?_
  refine lv_iload_n hx hb dL_503 rfl (lv_at hl 3 rfl) ?_
  refine lv_iconst (v := 1) hx hb dL_504 (by decide) ?_
  refine lv_iadd hx hb dL_505 ?_
  refine va_sld hx hb hX hbl hbA hS (hv 1 (by omega)) dL_506 ?_
  refine bl_invV (M := lawMI) (Y := bl_mi 78) (idx := 62) (a := 2) (b := 10) (st := [.int (xs (nI i + 1).toNatClampNeg), .ref 0]) (σ := σ) (σ' := τ) (r := some (.int r)) C hP hS hl.1 (bl_mi_in 78) lawLk_ok dL_507 (by omega) rfl rfl (List.mem_of_getElem? (i := 68) rfl) (List.mem_of_getElem? (i := 69) rfl) (List.mem_of_getElem? (i := 70) rfl) (List.mem_of_getElem? (i := 3) rfl) (by decide +kernel) (by decide +kernel) (Nat.le_of_ble_eq_true rfl) (Nat.le_of_ble_eq_true rfl) rfl (by decide) h1 (fun H locs hP hS => ?_)
  refine W.eq (g2 := F0 m 510 ls [.int r]) rfl ?_
  refine lv_aload_n hx hb dL_510 rfl (lv_at hl 2 rfl) ?_
  refine lv_aload_n hx hb dL_511 rfl (lv_at hl 0 rfl) ?_
  refine lv_iload_n hx hb dL_512 rfl (lv_at hl 3 rfl) ?_
  refine lv_iconst (v := 1) hx hb dL_513 (by decide) ?_
  refine lv_iadd hx hb dL_514 ?_
  refine va_sld hx hb hX hbl hbA hS (hv 1 (by omega)) dL_515 ?_
  refine bl_invV (M := lawMI) (Y := bl_mi 134) (idx := 65) (a := 2) (b := 11) (st := [.int (xs (nI i + 1).toNatClampNeg), .ref 1, .int r]) (σ := τ) (σ' := τ2) (r := some (.int r)) C hP hS hl.1 (bl_mi_in 134) lawLk_ok dL_516 (by omega) rfl rfl (List.mem_of_getElem? (i := 71) rfl) (List.mem_of_getElem? (i := 72) rfl) (List.mem_of_getElem? (i := 73) rfl) (List.mem_of_getElem? (i := 7) rfl) (by decide +kernel) (by decide +kernel) (Nat.le_of_ble_eq_true rfl) (Nat.le_of_ble_eq_true rfl) rfl (by decide) h2 (fun H locs hP hS => ?_)
  refine W.eq (g2 := F0 m 519 ls [.int r, .int r]) rfl ?_
  exact lv_icmp_eq (tgt := 1197) hx hb dL_519 (by decide) (fun _ => next τ2 H locs h3 hP hS) (fun z => absurd rfl z)
set_option maxHeartbeats 4000000 in
theorem br_day {D : va_G} {α : Nat → Nat} {cA : Nat → ClassId} {A : Nat → Prop} {p : Program} {l : Launch} {e : Env} {s : State} {m : MethodId} {b : Nat} {below : List Frame} {meth : Method} {c : Code} {L : Nat} {xs : Nat → Int32} {i : Nat} {Qf : State → Prop} {σ : bl_S} {H : Heap} {locs : List Loc} {ls : Array Slot} (C : LC D α cA A p s m b meth c L xs i) (hI : Inv σ) (hP : va_P D vwCl (bl_ws α cA σ) H) (hS : va_S A s.heap H locs) (hl : lv_has ls 4 [(0, .ref b), (1, .ref (α 0)), (2, .ref (α 1)), (3, .int (nI i))]) (next : ∀ (σ2 : bl_S) (H2 : Heap) (locs2 : List Loc), Inv σ2 → va_P D vwCl (bl_ws α cA σ2) H2 → va_S A s.heap H2 locs2 → W p l e room_1 s m #[Value.ref b] below meth c H2 locs2 600000 7302250 Qf (F0 m 1197 ls [])) : W p l e room_1 s m #[Value.ref b] below meth c H locs 600000 7302250 Qf (F0 m 524 ls []) := by
  obtain ⟨C, hX, hbl, hbA, hv⟩ := C
  have hx := C.1
  have hb : c.code = code := C.2.1
  by_cases hz : (xs (nI i + 2).toNatClampNeg) = 0
  case pos =>
    obtain ⟨r, τ, τ2, h1, h2, h3⟩ := pr_day hI (xs (nI i + 1).toNatClampNeg) 0
    refine lv_aload_n hx hb dL_524 rfl (lv_at hl 1 rfl) ?_
    refine lv_aload_n hx hb dL_525 rfl (lv_at hl 0 rfl) ?_
    refine lv_iload_n hx hb dL_526 rfl (lv_at hl 3 rfl) ?_
    refine lv_iconst (v := 1) hx hb dL_527 (by decide) ?_
    refine lv_iadd hx hb dL_528 ?_
    refine va_sld hx hb hX hbl hbA hS (hv 1 (by omega)) dL_529 ?_
    refine lv_aload_n hx hb dL_530 rfl (lv_at hl 0 rfl) ?_
    refine lv_iload_n hx hb dL_531 rfl (lv_at hl 3 rfl) ?_
    refine lv_iconst (v := 2) hx hb dL_532 (by decide) ?_
    refine lv_iadd hx hb dL_533 ?_
    refine va_sld hx hb hX hbl hbA hS (hv 2 (by omega)) dL_534 ?_
    refine lv_if_eq (tgt := 542) hx hb dL_535 (by decide) (fun _ => ?_) (fun z => absurd hz z)
    refine lv_iconst (v := 0) hx hb dL_542 (by decide) ?_
    refine bl_invV (M := lawMI) (Y := bl_mi 79) (idx := 66) (a := 3) (b := 10) (st := [.int 0, .int (xs (nI i + 1).toNatClampNeg), .ref 0]) (σ := σ) (σ' := τ) (r := some (.int r)) C hP hS hl.1 (bl_mi_in 79) lawLk_ok dL_543 (by omega) rfl rfl (List.mem_of_getElem? (i := 74) rfl) (List.mem_of_getElem? (i := 75) rfl) (List.mem_of_getElem? (i := 76) rfl) (List.mem_of_getElem? (i := 3) rfl) (by decide +kernel) (by decide +kernel) (Nat.le_of_ble_eq_true rfl) (Nat.le_of_ble_eq_true rfl) rfl (by decide) h1 (fun H locs hP hS => ?_)
    refine W.eq (g2 := F0 m 546 ls [.int r]) rfl ?_
    refine lv_aload_n hx hb dL_546 rfl (lv_at hl 2 rfl) ?_
    refine lv_aload_n hx hb dL_547 rfl (lv_at hl 0 rfl) ?_
    refine lv_iload_n hx hb dL_548 rfl (lv_at hl 3 rfl) ?_
    refine lv_iconst (v := 1) hx hb dL_549 (by decide) ?_
    refine lv_iadd hx hb dL_550 ?_
    refine va_sld hx hb hX hbl hbA hS (hv 1 (by omega)) dL_551 ?_
    refine lv_aload_n hx hb dL_552 rfl (lv_at hl 0 rfl) ?_
    refine lv_iload_n hx hb dL_553 rfl (lv_at hl 3 rfl) ?_
    refine lv_iconst (v := 2) hx hb dL_554 (by decide) ?_
    refine lv_iadd hx hb dL_555 ?_
    refine va_sld hx hb hX hbl hbA hS (hv 2 (by omega)) dL_556 ?_
    refine lv_if_eq (tgt := 564) hx hb dL_557 (by decide) (fun _ => ?_) (fun z => absurd hz z)
    refine lv_iconst (v := 0) hx hb dL_564 (by decide) ?_
    refine bl_invV (M := lawMI) (Y := bl_mi 137) (idx := 69) (a := 3) (b := 11) (st := [.int 0, .int (xs (nI i + 1).toNatClampNeg), .ref 1, .int r]) (σ := τ) (σ' := τ2) (r := some (.int r)) C hP hS hl.1 (bl_mi_in 137) lawLk_ok dL_565 (by omega) rfl rfl (List.mem_of_getElem? (i := 77) rfl) (List.mem_of_getElem? (i := 78) rfl) (List.mem_of_getElem? (i := 79) rfl) (List.mem_of_getElem? (i := 7) rfl) (by decide +kernel) (by decide +kernel) (Nat.le_of_ble_eq_true rfl) (Nat.le_of_ble_eq_true rfl) rfl (by decide) h2 (fun H locs hP hS => ?_)
    refine W.eq (g2 := F0 m 568 ls [.int r, .int r]) rfl ?_
    exact lv_icmp_eq (tgt := 1197) hx hb dL_568 (by decide) (fun _ => next τ2 H locs h3 hP hS) (fun z => absurd rfl z)
  case neg =>
    obtain ⟨r, τ, τ2, h1, h2, h3⟩ := pr_day hI (xs (nI i + 1).toNatClampNeg) 1
    refine lv_aload_n hx hb dL_524 rfl (lv_at hl 1 rfl) ?_
    refine lv_aload_n hx hb dL_525 rfl (lv_at hl 0 rfl) ?_
    refine lv_iload_n hx hb dL_526 rfl (lv_at hl 3 rfl) ?_
    refine lv_iconst (v := 1) hx hb dL_527 (by decide) ?_
    refine lv_iadd hx hb dL_528 ?_
    refine va_sld hx hb hX hbl hbA hS (hv 1 (by omega)) dL_529 ?_
    refine lv_aload_n hx hb dL_530 rfl (lv_at hl 0 rfl) ?_
    refine lv_iload_n hx hb dL_531 rfl (lv_at hl 3 rfl) ?_
    refine lv_iconst (v := 2) hx hb dL_532 (by decide) ?_
    refine lv_iadd hx hb dL_533 ?_
    refine va_sld hx hb hX hbl hbA hS (hv 2 (by omega)) dL_534 ?_
    refine lv_if_eq (tgt := 542) hx hb dL_535 (by decide) (fun z => absurd z hz) (fun _ => ?_)
    refine lv_iconst (v := 1) hx hb dL_538 (by decide) ?_
    refine lv_goto (tgt := 543) hx hb dL_539 (by decide) ?_
    refine bl_invV (M := lawMI) (Y := bl_mi 79) (idx := 66) (a := 3) (b := 10) (st := [.int 1, .int (xs (nI i + 1).toNatClampNeg), .ref 0]) (σ := σ) (σ' := τ) (r := some (.int r)) C hP hS hl.1 (bl_mi_in 79) lawLk_ok dL_543 (by omega) rfl rfl (List.mem_of_getElem? (i := 74) rfl) (List.mem_of_getElem? (i := 75) rfl) (List.mem_of_getElem? (i := 76) rfl) (List.mem_of_getElem? (i := 3) rfl) (by decide +kernel) (by decide +kernel) (Nat.le_of_ble_eq_true rfl) (Nat.le_of_ble_eq_true rfl) rfl (by decide) h1 (fun H locs hP hS => ?_)
    refine W.eq (g2 := F0 m 546 ls [.int r]) rfl ?_
    refine lv_aload_n hx hb dL_546 rfl (lv_at hl 2 rfl) ?_
    refine lv_aload_n hx hb dL_547 rfl (lv_at hl 0 rfl) ?_
    refine lv_iload_n hx hb dL_548 rfl (lv_at hl 3 rfl) ?_
    refine lv_iconst (v := 1) hx hb dL_549 (by decide) ?_
    refine lv_iadd hx hb dL_550 ?_
    refine va_sld hx hb hX hbl hbA hS (hv 1 (by omega)) dL_551 ?_
    refine lv_aload_n hx hb dL_552 rfl (lv_at hl 0 rfl) ?_
    refine lv_iload_n hx hb dL_553 rfl (lv_at hl 3 rfl) ?_
    refine lv_iconst (v := 2) hx hb dL_554 (by decide) ?_
    refine lv_iadd hx hb dL_555 ?_
    refine va_sld hx hb hX hbl hbA hS (hv 2 (by omega)) dL_556 ?_
    refine lv_if_eq (tgt := 564) hx hb dL_557 (by decide) (fun z => absurd z hz) (fun _ => ?_)
    refine lv_iconst (v := 1) hx hb dL_560 (by decide) ?_
    refine lv_goto (tgt := 565) hx hb dL_561 (by decide) ?_
    refine bl_invV (M := lawMI) (Y := bl_mi 137) (idx := 69) (a := 3) (b := 11) (st := [.int 1, .int (xs (nI i + 1).toNatClampNeg), .ref 1, .int r]) (σ := τ) (σ' := τ2) (r := some (.int r)) C hP hS hl.1 (bl_mi_in 137) lawLk_ok dL_565 (by omega) rfl rfl (List.mem_of_getElem? (i := 77) rfl) (List.mem_of_getElem? (i := 78) rfl) (List.mem_of_getElem? (i := 79) rfl) (List.mem_of_getElem? (i := 7) rfl) (by decide +kernel) (by decide +kernel) (Nat.le_of_ble_eq_true rfl) (Nat.le_of_ble_eq_true rfl) rfl (by decide) h2 (fun H locs hP hS => ?_)
    refine W.eq (g2 := F0 m 568 ls [.int r, .int r]) rfl ?_
    exact lv_icmp_eq (tgt := 1197) hx hb dL_568 (by decide) (fun _ => next τ2 H locs h3 hP hS) (fun z => absurd rfl z)
set_option maxHeartbeats 4000000 in
theorem br_drift {D : va_G} {α : Nat → Nat} {cA : Nat → ClassId} {A : Nat → Prop} {p : Program} {l : Launch} {e : Env} {s : State} {m : MethodId} {b : Nat} {below : List Frame} {meth : Method} {c : Code} {L : Nat} {xs : Nat → Int32} {i : Nat} {Qf : State → Prop} {σ : bl_S} {H : Heap} {locs : List Loc} {ls : Array Slot} (C : LC D α cA A p s m b meth c L xs i) (hI : Inv σ) (hP : va_P D vwCl (bl_ws α cA σ) H) (hS : va_S A s.heap H locs) (hl : lv_has ls 4 [(0, .ref b), (1, .ref (α 0)), (2, .ref (α 1)), (3, .int (nI i))]) (next : ∀ (σ2 : bl_S) (H2 : Heap) (locs2 : List Loc), Inv σ2 → va_P D vwCl (bl_ws α cA σ2) H2 → va_S A s.heap H2 locs2 → W p l e room_1 s m #[Value.ref b] below meth c H2 locs2 600000 7302250 Qf (F0 m 1197 ls [])) : W p l e room_1 s m #[Value.ref b] below meth c H locs 600000 7302250 Qf (F0 m 573 ls []) := by
  obtain ⟨C, hX, hbl, hbA, hv⟩ := C
  have hx := C.1
  have hb : c.code = code := C.2.1
  obtain ⟨r, τ, τ2, h1, h2, h3⟩ := pr_drift hI (xs (nI i + 1).toNatClampNeg)
  refine lv_aload_n hx hb dL_573 rfl (lv_at hl 1 rfl) ?_
  refine lv_aload_n hx hb dL_574 rfl (lv_at hl 0 rfl) ?_
  refine lv_iload_n hx hb dL_575 rfl (lv_at hl 3 rfl) ?_
  refine lv_iconst (v := 1) hx hb dL_576 (by decide) ?_
  refine lv_iadd hx hb dL_577 ?_
  refine va_sld hx hb hX hbl hbA hS (hv 1 (by omega)) dL_578 ?_
  refine bl_invV (M := lawMI) (Y := bl_mi 80) (idx := 70) (a := 2) (b := 10) (st := [.int (xs (nI i + 1).toNatClampNeg), .ref 0]) (σ := σ) (σ' := τ) (r := some (.int r)) C hP hS hl.1 (bl_mi_in 80) lawLk_ok dL_579 (by omega) rfl rfl (List.mem_of_getElem? (i := 80) rfl) (List.mem_of_getElem? (i := 81) rfl) (List.mem_of_getElem? (i := 82) rfl) (List.mem_of_getElem? (i := 3) rfl) (by decide +kernel) (by decide +kernel) (Nat.le_of_ble_eq_true rfl) (Nat.le_of_ble_eq_true rfl) rfl (by decide) h1 (fun H locs hP hS => ?_)
  refine W.eq (g2 := F0 m 582 ls [.int r]) rfl ?_
  refine lv_aload_n hx hb dL_582 rfl (lv_at hl 2 rfl) ?_
  refine lv_aload_n hx hb dL_583 rfl (lv_at hl 0 rfl) ?_
  refine lv_iload_n hx hb dL_584 rfl (lv_at hl 3 rfl) ?_
  refine lv_iconst (v := 1) hx hb dL_585 (by decide) ?_
  refine lv_iadd hx hb dL_586 ?_
  refine va_sld hx hb hX hbl hbA hS (hv 1 (by omega)) dL_587 ?_
  refine bl_invV (M := lawMI) (Y := bl_mi 139) (idx := 73) (a := 2) (b := 11) (st := [.int (xs (nI i + 1).toNatClampNeg), .ref 1, .int r]) (σ := τ) (σ' := τ2) (r := some (.int r)) C hP hS hl.1 (bl_mi_in 139) lawLk_ok dL_588 (by omega) rfl rfl (List.mem_of_getElem? (i := 83) rfl) (List.mem_of_getElem? (i := 84) rfl) (List.mem_of_getElem? (i := 85) rfl) (List.mem_of_getElem? (i := 7) rfl) (by decide +kernel) (by decide +kernel) (Nat.le_of_ble_eq_true rfl) (Nat.le_of_ble_eq_true rfl) rfl (by decide) h2 (fun H locs hP hS => ?_)
  refine W.eq (g2 := F0 m 591 ls [.int r, .int r]) rfl ?_
  exact lv_icmp_eq (tgt := 1197) hx hb dL_591 (by decide) (fun _ => next τ2 H locs h3 hP hS) (fun z => absurd rfl z)
set_option maxHeartbeats 4000000 in
theorem br_length {D : va_G} {α : Nat → Nat} {cA : Nat → ClassId} {A : Nat → Prop} {p : Program} {l : Launch} {e : Env} {s : State} {m : MethodId} {b : Nat} {below : List Frame} {meth : Method} {c : Code} {L : Nat} {xs : Nat → Int32} {i : Nat} {Qf : State → Prop} {σ : bl_S} {H : Heap} {locs : List Loc} {ls : Array Slot} (C : LC D α cA A p s m b meth c L xs i) (hI : Inv σ) (hP : va_P D vwCl (bl_ws α cA σ) H) (hS : va_S A s.heap H locs) (hl : lv_has ls 4 [(0, .ref b), (1, .ref (α 0)), (2, .ref (α 1)), (3, .int (nI i))]) (next : ∀ (σ2 : bl_S) (H2 : Heap) (locs2 : List Loc), Inv σ2 → va_P D vwCl (bl_ws α cA σ2) H2 → va_S A s.heap H2 locs2 → W p l e room_1 s m #[Value.ref b] below meth c H2 locs2 600000 7302250 Qf (F0 m 1197 ls [])) : W p l e room_1 s m #[Value.ref b] below meth c H locs 600000 7302250 Qf (F0 m 596 ls []) := by
  obtain ⟨C, hX, hbl, hbA, hv⟩ := C
  have hx := C.1
  have hb : c.code = code := C.2.1
  obtain ⟨r, τ, τ2, h1, h2, h3⟩ := pr_length hI (xs (nI i + 1).toNatClampNeg) (xs (nI i + 2).toNatClampNeg) (xs (nI i + 3).toNatClampNeg)
  refine lv_aload_n hx hb dL_596 rfl (lv_at hl 1 rfl) ?_
  refine lv_aload_n hx hb dL_597 rfl (lv_at hl 0 rfl) ?_
  refine lv_iload_n hx hb dL_598 rfl (lv_at hl 3 rfl) ?_
  refine lv_iconst (v := 1) hx hb dL_599 (by decide) ?_
  refine lv_iadd hx hb dL_600 ?_
  refine va_sld hx hb hX hbl hbA hS (hv 1 (by omega)) dL_601 ?_
  refine lv_aload_n hx hb dL_602 rfl (lv_at hl 0 rfl) ?_
  refine lv_iload_n hx hb dL_603 rfl (lv_at hl 3 rfl) ?_
  refine lv_iconst (v := 2) hx hb dL_604 (by decide) ?_
  refine lv_iadd hx hb dL_605 ?_
  refine va_sld hx hb hX hbl hbA hS (hv 2 (by omega)) dL_606 ?_
  refine lv_aload_n hx hb dL_607 rfl (lv_at hl 0 rfl) ?_
  refine lv_iload_n hx hb dL_608 rfl (lv_at hl 3 rfl) ?_
  refine lv_iconst (v := 3) hx hb dL_609 (by decide) ?_
  refine lv_iadd hx hb dL_610 ?_
  refine va_sld hx hb hX hbl hbA hS (hv 3 (by omega)) dL_611 ?_
  refine bl_invV (M := lawMI) (Y := bl_mi 81) (idx := 74) (a := 4) (b := 10) (st := [.int (xs (nI i + 3).toNatClampNeg), .int (xs (nI i + 2).toNatClampNeg), .int (xs (nI i + 1).toNatClampNeg), .ref 0]) (σ := σ) (σ' := τ) (r := some (.int r)) C hP hS hl.1 (bl_mi_in 81) lawLk_ok dL_612 (by omega) rfl rfl (List.mem_of_getElem? (i := 86) rfl) (List.mem_of_getElem? (i := 87) rfl) (List.mem_of_getElem? (i := 88) rfl) (List.mem_of_getElem? (i := 3) rfl) (by decide +kernel) (by decide +kernel) (Nat.le_of_ble_eq_true rfl) (Nat.le_of_ble_eq_true rfl) rfl (by decide) h1 (fun H locs hP hS => ?_)
  refine W.eq (g2 := F0 m 615 ls [.int r]) rfl ?_
  refine lv_aload_n hx hb dL_615 rfl (lv_at hl 2 rfl) ?_
  refine lv_aload_n hx hb dL_616 rfl (lv_at hl 0 rfl) ?_
  refine lv_iload_n hx hb dL_617 rfl (lv_at hl 3 rfl) ?_
  refine lv_iconst (v := 1) hx hb dL_618 (by decide) ?_
  refine lv_iadd hx hb dL_619 ?_
  refine va_sld hx hb hX hbl hbA hS (hv 1 (by omega)) dL_620 ?_
  refine lv_aload_n hx hb dL_621 rfl (lv_at hl 0 rfl) ?_
  refine lv_iload_n hx hb dL_622 rfl (lv_at hl 3 rfl) ?_
  refine lv_iconst (v := 2) hx hb dL_623 (by decide) ?_
  refine lv_iadd hx hb dL_624 ?_
  refine va_sld hx hb hX hbl hbA hS (hv 2 (by omega)) dL_625 ?_
  refine lv_aload_n hx hb dL_626 rfl (lv_at hl 0 rfl) ?_
  refine lv_iload_n hx hb dL_627 rfl (lv_at hl 3 rfl) ?_
  refine lv_iconst (v := 3) hx hb dL_628 (by decide) ?_
  refine lv_iadd hx hb dL_629 ?_
  refine va_sld hx hb hX hbl hbA hS (hv 3 (by omega)) dL_630 ?_
  refine bl_invV (M := lawMI) (Y := bl_mi 143) (idx := 77) (a := 4) (b := 11) (st := [.int (xs (nI i + 3).toNatClampNeg), .int (xs (nI i + 2).toNatClampNeg), .int (xs (nI i + 1).toNatClampNeg), .ref 1, .int r]) (σ := τ) (σ' := τ2) (r := some (.int r)) C hP hS hl.1 (bl_mi_in 143) lawLk_ok dL_631 (by omega) rfl rfl (List.mem_of_getElem? (i := 89) rfl) (List.mem_of_getElem? (i := 90) rfl) (List.mem_of_getElem? (i := 91) rfl) (List.mem_of_getElem? (i := 7) rfl) (by decide +kernel) (by decide +kernel) (Nat.le_of_ble_eq_true rfl) (Nat.le_of_ble_eq_true rfl) rfl (by decide) h2 (fun H locs hP hS => ?_)
  refine W.eq (g2 := F0 m 634 ls [.int r, .int r]) rfl ?_
  exact lv_icmp_eq (tgt := 1197) hx hb dL_634 (by decide) (fun _ => next τ2 H locs h3 hP hS) (fun z => absurd rfl z)
set_option maxHeartbeats 4000000 in
theorem br_best {D : va_G} {α : Nat → Nat} {cA : Nat → ClassId} {A : Nat → Prop} {p : Program} {l : Launch} {e : Env} {s : State} {m : MethodId} {b : Nat} {below : List Frame} {meth : Method} {c : Code} {L : Nat} {xs : Nat → Int32} {i : Nat} {Qf : State → Prop} {σ : bl_S} {H : Heap} {locs : List Loc} {ls : Array Slot} (C : LC D α cA A p s m b meth c L xs i) (hI : Inv σ) (hP : va_P D vwCl (bl_ws α cA σ) H) (hS : va_S A s.heap H locs) (hl : lv_has ls 4 [(0, .ref b), (1, .ref (α 0)), (2, .ref (α 1)), (3, .int (nI i))]) (next : ∀ (σ2 : bl_S) (H2 : Heap) (locs2 : List Loc), Inv σ2 → va_P D vwCl (bl_ws α cA σ2) H2 → va_S A s.heap H2 locs2 → W p l e room_1 s m #[Value.ref b] below meth c H2 locs2 600000 7302250 Qf (F0 m 1197 ls [])) : W p l e room_1 s m #[Value.ref b] below meth c H locs 600000 7302250 Qf (F0 m 639 ls []) := by
  obtain ⟨C, hX, hbl, hbA, hv⟩ := C
  have hx := C.1
  have hb : c.code = code := C.2.1
  obtain ⟨r, τ, τ2, h1, h2, h3⟩ := pr_best hI (xs (nI i + 1).toNatClampNeg) (xs (nI i + 2).toNatClampNeg) (xs (nI i + 3).toNatClampNeg) (xs (nI i + 4).toNatClampNeg)
  refine lv_aload_n hx hb dL_639 rfl (lv_at hl 1 rfl) ?_
  refine lv_aload_n hx hb dL_640 rfl (lv_at hl 0 rfl) ?_
  refine lv_iload_n hx hb dL_641 rfl (lv_at hl 3 rfl) ?_
  refine lv_iconst (v := 1) hx hb dL_642 (by decide) ?_
  refine lv_iadd hx hb dL_643 ?_
  refine va_sld hx hb hX hbl hbA hS (hv 1 (by omega)) dL_644 ?_
  refine lv_aload_n hx hb dL_645 rfl (lv_at hl 0 rfl) ?_
  refine lv_iload_n hx hb dL_646 rfl (lv_at hl 3 rfl) ?_
  refine lv_iconst (v := 2) hx hb dL_647 (by decide) ?_
  refine lv_iadd hx hb dL_648 ?_
  refine va_sld hx hb hX hbl hbA hS (hv 2 (by omega)) dL_649 ?_
  refine lv_aload_n hx hb dL_650 rfl (lv_at hl 0 rfl) ?_
  refine lv_iload_n hx hb dL_651 rfl (lv_at hl 3 rfl) ?_
  refine lv_iconst (v := 3) hx hb dL_652 (by decide) ?_
  refine lv_iadd hx hb dL_653 ?_
  refine va_sld hx hb hX hbl hbA hS (hv 3 (by omega)) dL_654 ?_
  refine lv_aload_n hx hb dL_655 rfl (lv_at hl 0 rfl) ?_
  refine lv_iload_n hx hb dL_656 rfl (lv_at hl 3 rfl) ?_
  refine lv_iconst (v := 4) hx hb dL_657 (by decide) ?_
  refine lv_iadd hx hb dL_658 ?_
  refine va_sld hx hb hX hbl hbA hS (hv 4 (by omega)) dL_659 ?_
  refine bl_invV (M := lawMI) (Y := bl_mi 82) (idx := 78) (a := 5) (b := 10) (st := [.int (xs (nI i + 4).toNatClampNeg), .int (xs (nI i + 3).toNatClampNeg), .int (xs (nI i + 2).toNatClampNeg), .int (xs (nI i + 1).toNatClampNeg), .ref 0]) (σ := σ) (σ' := τ) (r := some (.int r)) C hP hS hl.1 (bl_mi_in 82) lawLk_ok dL_660 (by omega) rfl rfl (List.mem_of_getElem? (i := 92) rfl) (List.mem_of_getElem? (i := 93) rfl) (List.mem_of_getElem? (i := 94) rfl) (List.mem_of_getElem? (i := 3) rfl) (by decide +kernel) (by decide +kernel) (Nat.le_of_ble_eq_true rfl) (Nat.le_of_ble_eq_true rfl) rfl (by decide) h1 (fun H locs hP hS => ?_)
  refine W.eq (g2 := F0 m 663 ls [.int r]) rfl ?_
  refine lv_aload_n hx hb dL_663 rfl (lv_at hl 2 rfl) ?_
  refine lv_aload_n hx hb dL_664 rfl (lv_at hl 0 rfl) ?_
  refine lv_iload_n hx hb dL_665 rfl (lv_at hl 3 rfl) ?_
  refine lv_iconst (v := 1) hx hb dL_666 (by decide) ?_
  refine lv_iadd hx hb dL_667 ?_
  refine va_sld hx hb hX hbl hbA hS (hv 1 (by omega)) dL_668 ?_
  refine lv_aload_n hx hb dL_669 rfl (lv_at hl 0 rfl) ?_
  refine lv_iload_n hx hb dL_670 rfl (lv_at hl 3 rfl) ?_
  refine lv_iconst (v := 2) hx hb dL_671 (by decide) ?_
  refine lv_iadd hx hb dL_672 ?_
  refine va_sld hx hb hX hbl hbA hS (hv 2 (by omega)) dL_673 ?_
  refine lv_aload_n hx hb dL_674 rfl (lv_at hl 0 rfl) ?_
  refine lv_iload_n hx hb dL_675 rfl (lv_at hl 3 rfl) ?_
  refine lv_iconst (v := 3) hx hb dL_676 (by decide) ?_
  refine lv_iadd hx hb dL_677 ?_
  refine va_sld hx hb hX hbl hbA hS (hv 3 (by omega)) dL_678 ?_
  refine lv_aload_n hx hb dL_679 rfl (lv_at hl 0 rfl) ?_
  refine lv_iload_n hx hb dL_680 rfl (lv_at hl 3 rfl) ?_
  refine lv_iconst (v := 4) hx hb dL_681 (by decide) ?_
  refine lv_iadd hx hb dL_682 ?_
  refine va_sld hx hb hX hbl hbA hS (hv 4 (by omega)) dL_683 ?_
  refine bl_invV (M := lawMI) (Y := bl_mi 149) (idx := 82) (a := 5) (b := 11) (st := [.int (xs (nI i + 4).toNatClampNeg), .int (xs (nI i + 3).toNatClampNeg), .int (xs (nI i + 2).toNatClampNeg), .int (xs (nI i + 1).toNatClampNeg), .ref 1, .int r]) (σ := τ) (σ' := τ2) (r := some (.int r)) C hP hS hl.1 (bl_mi_in 149) lawLk_ok dL_684 (by omega) rfl rfl (List.mem_of_getElem? (i := 95) rfl) (List.mem_of_getElem? (i := 96) rfl) (List.mem_of_getElem? (i := 97) rfl) (List.mem_of_getElem? (i := 7) rfl) (by decide +kernel) (by decide +kernel) (Nat.le_of_ble_eq_true rfl) (Nat.le_of_ble_eq_true rfl) rfl (by decide) h2 (fun H locs hP hS => ?_)
  refine W.eq (g2 := F0 m 687 ls [.int r, .int r]) rfl ?_
  exact lv_icmp_eq (tgt := 1197) hx hb dL_687 (by decide) (fun _ => next τ2 H locs h3 hP hS) (fun z => absurd rfl z)
set_option maxHeartbeats 4000000 in
theorem br_where {D : va_G} {α : Nat → Nat} {cA : Nat → ClassId} {A : Nat → Prop} {p : Program} {l : Launch} {e : Env} {s : State} {m : MethodId} {b : Nat} {below : List Frame} {meth : Method} {c : Code} {L : Nat} {xs : Nat → Int32} {i : Nat} {Qf : State → Prop} {σ : bl_S} {H : Heap} {locs : List Loc} {ls : Array Slot} (C : LC D α cA A p s m b meth c L xs i) (hI : Inv σ) (hP : va_P D vwCl (bl_ws α cA σ) H) (hS : va_S A s.heap H locs) (hl : lv_has ls 4 [(0, .ref b), (1, .ref (α 0)), (2, .ref (α 1)), (3, .int (nI i))]) (next : ∀ (σ2 : bl_S) (H2 : Heap) (locs2 : List Loc), Inv σ2 → va_P D vwCl (bl_ws α cA σ2) H2 → va_S A s.heap H2 locs2 → W p l e room_1 s m #[Value.ref b] below meth c H2 locs2 600000 7302250 Qf (F0 m 1197 ls [])) : W p l e room_1 s m #[Value.ref b] below meth c H locs 600000 7302250 Qf (F0 m 692 ls []) := by
  obtain ⟨C, hX, hbl, hbA, hv⟩ := C
  have hx := C.1
  have hb : c.code = code := C.2.1
  obtain ⟨r, τ, τ2, h1, h2, h3⟩ := pr_where hI (xs (nI i + 1).toNatClampNeg) (xs (nI i + 2).toNatClampNeg)
  refine lv_aload_n hx hb dL_692 rfl (lv_at hl 1 rfl) ?_
  refine lv_aload_n hx hb dL_693 rfl (lv_at hl 0 rfl) ?_
  refine lv_iload_n hx hb dL_694 rfl (lv_at hl 3 rfl) ?_
  refine lv_iconst (v := 1) hx hb dL_695 (by decide) ?_
  refine lv_iadd hx hb dL_696 ?_
  refine va_sld hx hb hX hbl hbA hS (hv 1 (by omega)) dL_697 ?_
  refine lv_aload_n hx hb dL_698 rfl (lv_at hl 0 rfl) ?_
  refine lv_iload_n hx hb dL_699 rfl (lv_at hl 3 rfl) ?_
  refine lv_iconst (v := 2) hx hb dL_700 (by decide) ?_
  refine lv_iadd hx hb dL_701 ?_
  refine va_sld hx hb hX hbl hbA hS (hv 2 (by omega)) dL_702 ?_
  refine bl_invV (M := lawMI) (Y := bl_mi 83) (idx := 83) (a := 3) (b := 10) (st := [.int (xs (nI i + 2).toNatClampNeg), .int (xs (nI i + 1).toNatClampNeg), .ref 0]) (σ := σ) (σ' := τ) (r := some (.int r)) C hP hS hl.1 (bl_mi_in 83) lawLk_ok dL_703 (by omega) rfl rfl (List.mem_of_getElem? (i := 98) rfl) (List.mem_of_getElem? (i := 99) rfl) (List.mem_of_getElem? (i := 100) rfl) (List.mem_of_getElem? (i := 3) rfl) (by decide +kernel) (by decide +kernel) (Nat.le_of_ble_eq_true rfl) (Nat.le_of_ble_eq_true rfl) rfl (by decide) h1 (fun H locs hP hS => ?_)
  refine W.eq (g2 := F0 m 706 ls [.int r]) rfl ?_
  refine lv_aload_n hx hb dL_706 rfl (lv_at hl 2 rfl) ?_
  refine lv_aload_n hx hb dL_707 rfl (lv_at hl 0 rfl) ?_
  refine lv_iload_n hx hb dL_708 rfl (lv_at hl 3 rfl) ?_
  refine lv_iconst (v := 1) hx hb dL_709 (by decide) ?_
  refine lv_iadd hx hb dL_710 ?_
  refine va_sld hx hb hX hbl hbA hS (hv 1 (by omega)) dL_711 ?_
  refine lv_aload_n hx hb dL_712 rfl (lv_at hl 0 rfl) ?_
  refine lv_iload_n hx hb dL_713 rfl (lv_at hl 3 rfl) ?_
  refine lv_iconst (v := 2) hx hb dL_714 (by decide) ?_
  refine lv_iadd hx hb dL_715 ?_
  refine va_sld hx hb hX hbl hbA hS (hv 2 (by omega)) dL_716 ?_
  refine bl_invV (M := lawMI) (Y := bl_mi 153) (idx := 86) (a := 3) (b := 11) (st := [.int (xs (nI i + 2).toNatClampNeg), .int (xs (nI i + 1).toNatClampNeg), .ref 1, .int r]) (σ := τ) (σ' := τ2) (r := some (.int r)) C hP hS hl.1 (bl_mi_in 153) lawLk_ok dL_717 (by omega) rfl rfl (List.mem_of_getElem? (i := 101) rfl) (List.mem_of_getElem? (i := 102) rfl) (List.mem_of_getElem? (i := 103) rfl) (List.mem_of_getElem? (i := 7) rfl) (by decide +kernel) (by decide +kernel) (Nat.le_of_ble_eq_true rfl) (Nat.le_of_ble_eq_true rfl) rfl (by decide) h2 (fun H locs hP hS => ?_)
  refine W.eq (g2 := F0 m 720 ls [.int r, .int r]) rfl ?_
  exact lv_icmp_eq (tgt := 1197) hx hb dL_720 (by decide) (fun _ => next τ2 H locs h3 hP hS) (fun z => absurd rfl z)
set_option maxHeartbeats 4000000 in
theorem br_rivals {D : va_G} {α : Nat → Nat} {cA : Nat → ClassId} {A : Nat → Prop} {p : Program} {l : Launch} {e : Env} {s : State} {m : MethodId} {b : Nat} {below : List Frame} {meth : Method} {c : Code} {L : Nat} {xs : Nat → Int32} {i : Nat} {Qf : State → Prop} {σ : bl_S} {H : Heap} {locs : List Loc} {ls : Array Slot} (C : LC D α cA A p s m b meth c L xs i) (hI : Inv σ) (hP : va_P D vwCl (bl_ws α cA σ) H) (hS : va_S A s.heap H locs) (hl : lv_has ls 4 [(0, .ref b), (1, .ref (α 0)), (2, .ref (α 1)), (3, .int (nI i))]) (next : ∀ (σ2 : bl_S) (H2 : Heap) (locs2 : List Loc), Inv σ2 → va_P D vwCl (bl_ws α cA σ2) H2 → va_S A s.heap H2 locs2 → W p l e room_1 s m #[Value.ref b] below meth c H2 locs2 600000 7302250 Qf (F0 m 1197 ls [])) : W p l e room_1 s m #[Value.ref b] below meth c H locs 600000 7302250 Qf (F0 m 725 ls []) := by
  obtain ⟨C, hX, hbl, hbA, hv⟩ := C
  have hx := C.1
  have hb : c.code = code := C.2.1
  obtain ⟨r, τ, τ2, h1, h2, h3⟩ := pr_rivals hI (xs (nI i + 1).toNatClampNeg) (xs (nI i + 2).toNatClampNeg) (xs (nI i + 3).toNatClampNeg) (xs (nI i + 4).toNatClampNeg)
  refine lv_aload_n hx hb dL_725 rfl (lv_at hl 1 rfl) ?_
  refine lv_aload_n hx hb dL_726 rfl (lv_at hl 0 rfl) ?_
  refine lv_iload_n hx hb dL_727 rfl (lv_at hl 3 rfl) ?_
  refine lv_iconst (v := 1) hx hb dL_728 (by decide) ?_
  refine lv_iadd hx hb dL_729 ?_
  refine va_sld hx hb hX hbl hbA hS (hv 1 (by omega)) dL_730 ?_
  refine lv_aload_n hx hb dL_731 rfl (lv_at hl 0 rfl) ?_
  refine lv_iload_n hx hb dL_732 rfl (lv_at hl 3 rfl) ?_
  refine lv_iconst (v := 2) hx hb dL_733 (by decide) ?_
  refine lv_iadd hx hb dL_734 ?_
  refine va_sld hx hb hX hbl hbA hS (hv 2 (by omega)) dL_735 ?_
  refine lv_aload_n hx hb dL_736 rfl (lv_at hl 0 rfl) ?_
  refine lv_iload_n hx hb dL_737 rfl (lv_at hl 3 rfl) ?_
  refine lv_iconst (v := 3) hx hb dL_738 (by decide) ?_
  refine lv_iadd hx hb dL_739 ?_
  refine va_sld hx hb hX hbl hbA hS (hv 3 (by omega)) dL_740 ?_
  refine lv_aload_n hx hb dL_741 rfl (lv_at hl 0 rfl) ?_
  refine lv_iload_n hx hb dL_742 rfl (lv_at hl 3 rfl) ?_
  refine lv_iconst (v := 4) hx hb dL_743 (by decide) ?_
  refine lv_iadd hx hb dL_744 ?_
  refine va_sld hx hb hX hbl hbA hS (hv 4 (by omega)) dL_745 ?_
  refine bl_invV (M := lawMI) (Y := bl_mi 84) (idx := 87) (a := 5) (b := 10) (st := [.int (xs (nI i + 4).toNatClampNeg), .int (xs (nI i + 3).toNatClampNeg), .int (xs (nI i + 2).toNatClampNeg), .int (xs (nI i + 1).toNatClampNeg), .ref 0]) (σ := σ) (σ' := τ) (r := some (.int r)) C hP hS hl.1 (bl_mi_in 84) lawLk_ok dL_746 (by omega) rfl rfl (List.mem_of_getElem? (i := 104) rfl) (List.mem_of_getElem? (i := 105) rfl) (List.mem_of_getElem? (i := 106) rfl) (List.mem_of_getElem? (i := 3) rfl) (by decide +kernel) (by decide +kernel) (Nat.le_of_ble_eq_true rfl) (Nat.le_of_ble_eq_true rfl) rfl (by decide) h1 (fun H locs hP hS => ?_)
  refine W.eq (g2 := F0 m 749 ls [.int r]) rfl ?_
  refine lv_aload_n hx hb dL_749 rfl (lv_at hl 2 rfl) ?_
  refine lv_aload_n hx hb dL_750 rfl (lv_at hl 0 rfl) ?_
  refine lv_iload_n hx hb dL_751 rfl (lv_at hl 3 rfl) ?_
  refine lv_iconst (v := 1) hx hb dL_752 (by decide) ?_
  refine lv_iadd hx hb dL_753 ?_
  refine va_sld hx hb hX hbl hbA hS (hv 1 (by omega)) dL_754 ?_
  refine lv_aload_n hx hb dL_755 rfl (lv_at hl 0 rfl) ?_
  refine lv_iload_n hx hb dL_756 rfl (lv_at hl 3 rfl) ?_
  refine lv_iconst (v := 2) hx hb dL_757 (by decide) ?_
  refine lv_iadd hx hb dL_758 ?_
  refine va_sld hx hb hX hbl hbA hS (hv 2 (by omega)) dL_759 ?_
  refine lv_aload_n hx hb dL_760 rfl (lv_at hl 0 rfl) ?_
  refine lv_iload_n hx hb dL_761 rfl (lv_at hl 3 rfl) ?_
  refine lv_iconst (v := 3) hx hb dL_762 (by decide) ?_
  refine lv_iadd hx hb dL_763 ?_
  refine va_sld hx hb hX hbl hbA hS (hv 3 (by omega)) dL_764 ?_
  refine lv_aload_n hx hb dL_765 rfl (lv_at hl 0 rfl) ?_
  refine lv_iload_n hx hb dL_766 rfl (lv_at hl 3 rfl) ?_
  refine lv_iconst (v := 4) hx hb dL_767 (by decide) ?_
  refine lv_iadd hx hb dL_768 ?_
  refine va_sld hx hb hX hbl hbA hS (hv 4 (by omega)) dL_769 ?_
  refine bl_invV (M := lawMI) (Y := bl_mi 156) (idx := 90) (a := 5) (b := 11) (st := [.int (xs (nI i + 4).toNatClampNeg), .int (xs (nI i + 3).toNatClampNeg), .int (xs (nI i + 2).toNatClampNeg), .int (xs (nI i + 1).toNatClampNeg), .ref 1, .int r]) (σ := τ) (σ' := τ2) (r := some (.int r)) C hP hS hl.1 (bl_mi_in 156) lawLk_ok dL_770 (by omega) rfl rfl (List.mem_of_getElem? (i := 107) rfl) (List.mem_of_getElem? (i := 108) rfl) (List.mem_of_getElem? (i := 109) rfl) (List.mem_of_getElem? (i := 7) rfl) (by decide +kernel) (by decide +kernel) (Nat.le_of_ble_eq_true rfl) (Nat.le_of_ble_eq_true rfl) rfl (by decide) h2 (fun H locs hP hS => ?_)
  refine W.eq (g2 := F0 m 773 ls [.int r, .int r]) rfl ?_
  exact lv_icmp_eq (tgt := 1197) hx hb dL_773 (by decide) (fun _ => next τ2 H locs h3 hP hS) (fun z => absurd rfl z)
set_option maxHeartbeats 4000000 in
theorem br_again {D : va_G} {α : Nat → Nat} {cA : Nat → ClassId} {A : Nat → Prop} {p : Program} {l : Launch} {e : Env} {s : State} {m : MethodId} {b : Nat} {below : List Frame} {meth : Method} {c : Code} {L : Nat} {xs : Nat → Int32} {i : Nat} {Qf : State → Prop} {σ : bl_S} {H : Heap} {locs : List Loc} {ls : Array Slot} (C : LC D α cA A p s m b meth c L xs i) (hI : Inv σ) (hP : va_P D vwCl (bl_ws α cA σ) H) (hS : va_S A s.heap H locs) (hl : lv_has ls 4 [(0, .ref b), (1, .ref (α 0)), (2, .ref (α 1)), (3, .int (nI i))]) (next : ∀ (σ2 : bl_S) (H2 : Heap) (locs2 : List Loc), Inv σ2 → va_P D vwCl (bl_ws α cA σ2) H2 → va_S A s.heap H2 locs2 → W p l e room_1 s m #[Value.ref b] below meth c H2 locs2 600000 7302250 Qf (F0 m 1197 ls [])) : W p l e room_1 s m #[Value.ref b] below meth c H locs 600000 7302250 Qf (F0 m 778 ls []) := by
  obtain ⟨C, hX, hbl, hbA, hv⟩ := C
  have hx := C.1
  have hb : c.code = code := C.2.1
  obtain ⟨r, τ, τ2, h1, h2, h3⟩ := pr_again hI (xs (nI i + 1).toNatClampNeg) (xs (nI i + 2).toNatClampNeg) (xs (nI i + 3).toNatClampNeg)
  refine lv_aload_n hx hb dL_778 rfl (lv_at hl 1 rfl) ?_
  refine lv_aload_n hx hb dL_779 rfl (lv_at hl 0 rfl) ?_
  refine lv_iload_n hx hb dL_780 rfl (lv_at hl 3 rfl) ?_
  refine lv_iconst (v := 1) hx hb dL_781 (by decide) ?_
  refine lv_iadd hx hb dL_782 ?_
  refine va_sld hx hb hX hbl hbA hS (hv 1 (by omega)) dL_783 ?_
  refine lv_aload_n hx hb dL_784 rfl (lv_at hl 0 rfl) ?_
  refine lv_iload_n hx hb dL_785 rfl (lv_at hl 3 rfl) ?_
  refine lv_iconst (v := 2) hx hb dL_786 (by decide) ?_
  refine lv_iadd hx hb dL_787 ?_
  refine va_sld hx hb hX hbl hbA hS (hv 2 (by omega)) dL_788 ?_
  refine lv_aload_n hx hb dL_789 rfl (lv_at hl 0 rfl) ?_
  refine lv_iload_n hx hb dL_790 rfl (lv_at hl 3 rfl) ?_
  refine lv_iconst (v := 3) hx hb dL_791 (by decide) ?_
  refine lv_iadd hx hb dL_792 ?_
  refine va_sld hx hb hX hbl hbA hS (hv 3 (by omega)) dL_793 ?_
  refine bl_invV (M := lawMI) (Y := bl_mi 85) (idx := 91) (a := 4) (b := 10) (st := [.int (xs (nI i + 3).toNatClampNeg), .int (xs (nI i + 2).toNatClampNeg), .int (xs (nI i + 1).toNatClampNeg), .ref 0]) (σ := σ) (σ' := τ) (r := some (.int r)) C hP hS hl.1 (bl_mi_in 85) lawLk_ok dL_794 (by omega) rfl rfl (List.mem_of_getElem? (i := 110) rfl) (List.mem_of_getElem? (i := 111) rfl) (List.mem_of_getElem? (i := 112) rfl) (List.mem_of_getElem? (i := 3) rfl) (by decide +kernel) (by decide +kernel) (Nat.le_of_ble_eq_true rfl) (Nat.le_of_ble_eq_true rfl) rfl (by decide) h1 (fun H locs hP hS => ?_)
  refine W.eq (g2 := F0 m 797 ls [.int r]) rfl ?_
  refine lv_aload_n hx hb dL_797 rfl (lv_at hl 2 rfl) ?_
  refine lv_aload_n hx hb dL_798 rfl (lv_at hl 0 rfl) ?_
  refine lv_iload_n hx hb dL_799 rfl (lv_at hl 3 rfl) ?_
  refine lv_iconst (v := 1) hx hb dL_800 (by decide) ?_
  refine lv_iadd hx hb dL_801 ?_
  refine va_sld hx hb hX hbl hbA hS (hv 1 (by omega)) dL_802 ?_
  refine lv_aload_n hx hb dL_803 rfl (lv_at hl 0 rfl) ?_
  refine lv_iload_n hx hb dL_804 rfl (lv_at hl 3 rfl) ?_
  refine lv_iconst (v := 2) hx hb dL_805 (by decide) ?_
  refine lv_iadd hx hb dL_806 ?_
  refine va_sld hx hb hX hbl hbA hS (hv 2 (by omega)) dL_807 ?_
  refine lv_aload_n hx hb dL_808 rfl (lv_at hl 0 rfl) ?_
  refine lv_iload_n hx hb dL_809 rfl (lv_at hl 3 rfl) ?_
  refine lv_iconst (v := 3) hx hb dL_810 (by decide) ?_
  refine lv_iadd hx hb dL_811 ?_
  refine va_sld hx hb hX hbl hbA hS (hv 3 (by omega)) dL_812 ?_
  refine bl_invV (M := lawMI) (Y := bl_mi 157) (idx := 94) (a := 4) (b := 11) (st := [.int (xs (nI i + 3).toNatClampNeg), .int (xs (nI i + 2).toNatClampNeg), .int (xs (nI i + 1).toNatClampNeg), .ref 1, .int r]) (σ := τ) (σ' := τ2) (r := some (.int r)) C hP hS hl.1 (bl_mi_in 157) lawLk_ok dL_813 (by omega) rfl rfl (List.mem_of_getElem? (i := 113) rfl) (List.mem_of_getElem? (i := 114) rfl) (List.mem_of_getElem? (i := 115) rfl) (List.mem_of_getElem? (i := 7) rfl) (by decide +kernel) (by decide +kernel) (Nat.le_of_ble_eq_true rfl) (Nat.le_of_ble_eq_true rfl) rfl (by decide) h2 (fun H locs hP hS => ?_)
  refine W.eq (g2 := F0 m 816 ls [.int r, .int r]) rfl ?_
  exact lv_icmp_eq (tgt := 1197) hx hb dL_816 (by decide) (fun _ => next τ2 H locs h3 hP hS) (fun z => absurd rfl z)
set_option maxHeartbeats 4000000 in
theorem br_odds {D : va_G} {α : Nat → Nat} {cA : Nat → ClassId} {A : Nat → Prop} {p : Program} {l : Launch} {e : Env} {s : State} {m : MethodId} {b : Nat} {below : List Frame} {meth : Method} {c : Code} {L : Nat} {xs : Nat → Int32} {i : Nat} {Qf : State → Prop} {σ : bl_S} {H : Heap} {locs : List Loc} {ls : Array Slot} (C : LC D α cA A p s m b meth c L xs i) (hI : Inv σ) (hP : va_P D vwCl (bl_ws α cA σ) H) (hS : va_S A s.heap H locs) (hl : lv_has ls 4 [(0, .ref b), (1, .ref (α 0)), (2, .ref (α 1)), (3, .int (nI i))]) (next : ∀ (σ2 : bl_S) (H2 : Heap) (locs2 : List Loc), Inv σ2 → va_P D vwCl (bl_ws α cA σ2) H2 → va_S A s.heap H2 locs2 → W p l e room_1 s m #[Value.ref b] below meth c H2 locs2 600000 7302250 Qf (F0 m 1197 ls [])) : W p l e room_1 s m #[Value.ref b] below meth c H locs 600000 7302250 Qf (F0 m 821 ls []) := by
  obtain ⟨C, hX, hbl, hbA, hv⟩ := C
  have hx := C.1
  have hb : c.code = code := C.2.1
  obtain ⟨r, τ, τ2, h1, h2, h3⟩ := pr_odds hI (xs (nI i + 1).toNatClampNeg) (xs (nI i + 2).toNatClampNeg) (xs (nI i + 3).toNatClampNeg) (xs (nI i + 4).toNatClampNeg)
  refine lv_aload_n hx hb dL_821 rfl (lv_at hl 1 rfl) ?_
  refine lv_aload_n hx hb dL_822 rfl (lv_at hl 0 rfl) ?_
  refine lv_iload_n hx hb dL_823 rfl (lv_at hl 3 rfl) ?_
  refine lv_iconst (v := 1) hx hb dL_824 (by decide) ?_
  refine lv_iadd hx hb dL_825 ?_
  refine va_sld hx hb hX hbl hbA hS (hv 1 (by omega)) dL_826 ?_
  refine lv_aload_n hx hb dL_827 rfl (lv_at hl 0 rfl) ?_
  refine lv_iload_n hx hb dL_828 rfl (lv_at hl 3 rfl) ?_
  refine lv_iconst (v := 2) hx hb dL_829 (by decide) ?_
  refine lv_iadd hx hb dL_830 ?_
  refine va_sld hx hb hX hbl hbA hS (hv 2 (by omega)) dL_831 ?_
  refine lv_aload_n hx hb dL_832 rfl (lv_at hl 0 rfl) ?_
  refine lv_iload_n hx hb dL_833 rfl (lv_at hl 3 rfl) ?_
  refine lv_iconst (v := 3) hx hb dL_834 (by decide) ?_
  refine lv_iadd hx hb dL_835 ?_
  refine va_sld hx hb hX hbl hbA hS (hv 3 (by omega)) dL_836 ?_
  refine lv_aload_n hx hb dL_837 rfl (lv_at hl 0 rfl) ?_
  refine lv_iload_n hx hb dL_838 rfl (lv_at hl 3 rfl) ?_
  refine lv_iconst (v := 4) hx hb dL_839 (by decide) ?_
  refine lv_iadd hx hb dL_840 ?_
  refine va_sld hx hb hX hbl hbA hS (hv 4 (by omega)) dL_841 ?_
  refine bl_invV (M := lawMI) (Y := bl_mi 88) (idx := 95) (a := 5) (b := 10) (st := [.int (xs (nI i + 4).toNatClampNeg), .int (xs (nI i + 3).toNatClampNeg), .int (xs (nI i + 2).toNatClampNeg), .int (xs (nI i + 1).toNatClampNeg), .ref 0]) (σ := σ) (σ' := τ) (r := some (.int r)) C hP hS hl.1 (bl_mi_in 88) lawLk_ok dL_842 (by omega) rfl rfl (List.mem_of_getElem? (i := 116) rfl) (List.mem_of_getElem? (i := 117) rfl) (List.mem_of_getElem? (i := 118) rfl) (List.mem_of_getElem? (i := 3) rfl) (by decide +kernel) (by decide +kernel) (Nat.le_of_ble_eq_true rfl) (Nat.le_of_ble_eq_true rfl) rfl (by decide) h1 (fun H locs hP hS => ?_)
  refine W.eq (g2 := F0 m 845 ls [.int r]) rfl ?_
  refine lv_aload_n hx hb dL_845 rfl (lv_at hl 2 rfl) ?_
  refine lv_aload_n hx hb dL_846 rfl (lv_at hl 0 rfl) ?_
  refine lv_iload_n hx hb dL_847 rfl (lv_at hl 3 rfl) ?_
  refine lv_iconst (v := 1) hx hb dL_848 (by decide) ?_
  refine lv_iadd hx hb dL_849 ?_
  refine va_sld hx hb hX hbl hbA hS (hv 1 (by omega)) dL_850 ?_
  refine lv_aload_n hx hb dL_851 rfl (lv_at hl 0 rfl) ?_
  refine lv_iload_n hx hb dL_852 rfl (lv_at hl 3 rfl) ?_
  refine lv_iconst (v := 2) hx hb dL_853 (by decide) ?_
  refine lv_iadd hx hb dL_854 ?_
  refine va_sld hx hb hX hbl hbA hS (hv 2 (by omega)) dL_855 ?_
  refine lv_aload_n hx hb dL_856 rfl (lv_at hl 0 rfl) ?_
  refine lv_iload_n hx hb dL_857 rfl (lv_at hl 3 rfl) ?_
  refine lv_iconst (v := 3) hx hb dL_858 (by decide) ?_
  refine lv_iadd hx hb dL_859 ?_
  refine va_sld hx hb hX hbl hbA hS (hv 3 (by omega)) dL_860 ?_
  refine lv_aload_n hx hb dL_861 rfl (lv_at hl 0 rfl) ?_
  refine lv_iload_n hx hb dL_862 rfl (lv_at hl 3 rfl) ?_
  refine lv_iconst (v := 4) hx hb dL_863 (by decide) ?_
  refine lv_iadd hx hb dL_864 ?_
  refine va_sld hx hb hX hbl hbA hS (hv 4 (by omega)) dL_865 ?_
  refine bl_invV (M := lawMI) (Y := bl_mi 158) (idx := 98) (a := 5) (b := 11) (st := [.int (xs (nI i + 4).toNatClampNeg), .int (xs (nI i + 3).toNatClampNeg), .int (xs (nI i + 2).toNatClampNeg), .int (xs (nI i + 1).toNatClampNeg), .ref 1, .int r]) (σ := τ) (σ' := τ2) (r := some (.int r)) C hP hS hl.1 (bl_mi_in 158) lawLk_ok dL_866 (by omega) rfl rfl (List.mem_of_getElem? (i := 119) rfl) (List.mem_of_getElem? (i := 120) rfl) (List.mem_of_getElem? (i := 121) rfl) (List.mem_of_getElem? (i := 7) rfl) (by decide +kernel) (by decide +kernel) (Nat.le_of_ble_eq_true rfl) (Nat.le_of_ble_eq_true rfl) rfl (by decide) h2 (fun H locs hP hS => ?_)
  refine W.eq (g2 := F0 m 869 ls [.int r, .int r]) rfl ?_
  exact lv_icmp_eq (tgt := 1197) hx hb dL_869 (by decide) (fun _ => next τ2 H locs h3 hP hS) (fun z => absurd rfl z)
set_option maxHeartbeats 4000000 in
theorem br_whom {D : va_G} {α : Nat → Nat} {cA : Nat → ClassId} {A : Nat → Prop} {p : Program} {l : Launch} {e : Env} {s : State} {m : MethodId} {b : Nat} {below : List Frame} {meth : Method} {c : Code} {L : Nat} {xs : Nat → Int32} {i : Nat} {Qf : State → Prop} {σ : bl_S} {H : Heap} {locs : List Loc} {ls : Array Slot} (C : LC D α cA A p s m b meth c L xs i) (hI : Inv σ) (hP : va_P D vwCl (bl_ws α cA σ) H) (hS : va_S A s.heap H locs) (hl : lv_has ls 4 [(0, .ref b), (1, .ref (α 0)), (2, .ref (α 1)), (3, .int (nI i))]) (next : ∀ (σ2 : bl_S) (H2 : Heap) (locs2 : List Loc), Inv σ2 → va_P D vwCl (bl_ws α cA σ2) H2 → va_S A s.heap H2 locs2 → W p l e room_1 s m #[Value.ref b] below meth c H2 locs2 600000 7302250 Qf (F0 m 1197 ls [])) : W p l e room_1 s m #[Value.ref b] below meth c H locs 600000 7302250 Qf (F0 m 874 ls []) := by
  obtain ⟨C, hX, hbl, hbA, hv⟩ := C
  have hx := C.1
  have hb : c.code = code := C.2.1
  obtain ⟨r, τ, τ2, h1, h2, h3⟩ := pr_whom hI (xs (nI i + 1).toNatClampNeg) (xs (nI i + 2).toNatClampNeg)
  refine lv_aload_n hx hb dL_874 rfl (lv_at hl 1 rfl) ?_
  refine lv_aload_n hx hb dL_875 rfl (lv_at hl 0 rfl) ?_
  refine lv_iload_n hx hb dL_876 rfl (lv_at hl 3 rfl) ?_
  refine lv_iconst (v := 1) hx hb dL_877 (by decide) ?_
  refine lv_iadd hx hb dL_878 ?_
  refine va_sld hx hb hX hbl hbA hS (hv 1 (by omega)) dL_879 ?_
  refine lv_aload_n hx hb dL_880 rfl (lv_at hl 0 rfl) ?_
  refine lv_iload_n hx hb dL_881 rfl (lv_at hl 3 rfl) ?_
  refine lv_iconst (v := 2) hx hb dL_882 (by decide) ?_
  refine lv_iadd hx hb dL_883 ?_
  refine va_sld hx hb hX hbl hbA hS (hv 2 (by omega)) dL_884 ?_
  refine bl_invV (M := lawMI) (Y := bl_mi 90) (idx := 99) (a := 3) (b := 10) (st := [.int (xs (nI i + 2).toNatClampNeg), .int (xs (nI i + 1).toNatClampNeg), .ref 0]) (σ := σ) (σ' := τ) (r := some (.int r)) C hP hS hl.1 (bl_mi_in 90) lawLk_ok dL_885 (by omega) rfl rfl (List.mem_of_getElem? (i := 122) rfl) (List.mem_of_getElem? (i := 123) rfl) (List.mem_of_getElem? (i := 124) rfl) (List.mem_of_getElem? (i := 3) rfl) (by decide +kernel) (by decide +kernel) (Nat.le_of_ble_eq_true rfl) (Nat.le_of_ble_eq_true rfl) rfl (by decide) h1 (fun H locs hP hS => ?_)
  refine W.eq (g2 := F0 m 888 ls [.int r]) rfl ?_
  refine lv_aload_n hx hb dL_888 rfl (lv_at hl 2 rfl) ?_
  refine lv_aload_n hx hb dL_889 rfl (lv_at hl 0 rfl) ?_
  refine lv_iload_n hx hb dL_890 rfl (lv_at hl 3 rfl) ?_
  refine lv_iconst (v := 1) hx hb dL_891 (by decide) ?_
  refine lv_iadd hx hb dL_892 ?_
  refine va_sld hx hb hX hbl hbA hS (hv 1 (by omega)) dL_893 ?_
  refine lv_aload_n hx hb dL_894 rfl (lv_at hl 0 rfl) ?_
  refine lv_iload_n hx hb dL_895 rfl (lv_at hl 3 rfl) ?_
  refine lv_iconst (v := 2) hx hb dL_896 (by decide) ?_
  refine lv_iadd hx hb dL_897 ?_
  refine va_sld hx hb hX hbl hbA hS (hv 2 (by omega)) dL_898 ?_
  refine bl_invV (M := lawMI) (Y := bl_mi 160) (idx := 102) (a := 3) (b := 11) (st := [.int (xs (nI i + 2).toNatClampNeg), .int (xs (nI i + 1).toNatClampNeg), .ref 1, .int r]) (σ := τ) (σ' := τ2) (r := some (.int r)) C hP hS hl.1 (bl_mi_in 160) lawLk_ok dL_899 (by omega) rfl rfl (List.mem_of_getElem? (i := 125) rfl) (List.mem_of_getElem? (i := 126) rfl) (List.mem_of_getElem? (i := 127) rfl) (List.mem_of_getElem? (i := 7) rfl) (by decide +kernel) (by decide +kernel) (Nat.le_of_ble_eq_true rfl) (Nat.le_of_ble_eq_true rfl) rfl (by decide) h2 (fun H locs hP hS => ?_)
  refine W.eq (g2 := F0 m 902 ls [.int r, .int r]) rfl ?_
  exact lv_icmp_eq (tgt := 1197) hx hb dL_902 (by decide) (fun _ => next τ2 H locs h3 hP hS) (fun z => absurd rfl z)
set_option maxHeartbeats 4000000 in
theorem br_left {D : va_G} {α : Nat → Nat} {cA : Nat → ClassId} {A : Nat → Prop} {p : Program} {l : Launch} {e : Env} {s : State} {m : MethodId} {b : Nat} {below : List Frame} {meth : Method} {c : Code} {L : Nat} {xs : Nat → Int32} {i : Nat} {Qf : State → Prop} {σ : bl_S} {H : Heap} {locs : List Loc} {ls : Array Slot} (C : LC D α cA A p s m b meth c L xs i) (hI : Inv σ) (hP : va_P D vwCl (bl_ws α cA σ) H) (hS : va_S A s.heap H locs) (hl : lv_has ls 4 [(0, .ref b), (1, .ref (α 0)), (2, .ref (α 1)), (3, .int (nI i))]) (next : ∀ (σ2 : bl_S) (H2 : Heap) (locs2 : List Loc), Inv σ2 → va_P D vwCl (bl_ws α cA σ2) H2 → va_S A s.heap H2 locs2 → W p l e room_1 s m #[Value.ref b] below meth c H2 locs2 600000 7302250 Qf (F0 m 1197 ls [])) : W p l e room_1 s m #[Value.ref b] below meth c H locs 600000 7302250 Qf (F0 m 907 ls []) := by
  obtain ⟨C, hX, hbl, hbA, hv⟩ := C
  have hx := C.1
  have hb : c.code = code := C.2.1
  obtain ⟨r, τ, τ2, h1, h2, h3⟩ := pr_left hI (xs (nI i + 1).toNatClampNeg) (xs (nI i + 2).toNatClampNeg) (xs (nI i + 3).toNatClampNeg)
  refine lv_aload_n hx hb dL_907 rfl (lv_at hl 1 rfl) ?_
  refine lv_aload_n hx hb dL_908 rfl (lv_at hl 0 rfl) ?_
  refine lv_iload_n hx hb dL_909 rfl (lv_at hl 3 rfl) ?_
  refine lv_iconst (v := 1) hx hb dL_910 (by decide) ?_
  refine lv_iadd hx hb dL_911 ?_
  refine va_sld hx hb hX hbl hbA hS (hv 1 (by omega)) dL_912 ?_
  refine lv_aload_n hx hb dL_913 rfl (lv_at hl 0 rfl) ?_
  refine lv_iload_n hx hb dL_914 rfl (lv_at hl 3 rfl) ?_
  refine lv_iconst (v := 2) hx hb dL_915 (by decide) ?_
  refine lv_iadd hx hb dL_916 ?_
  refine va_sld hx hb hX hbl hbA hS (hv 2 (by omega)) dL_917 ?_
  refine lv_aload_n hx hb dL_918 rfl (lv_at hl 0 rfl) ?_
  refine lv_iload_n hx hb dL_919 rfl (lv_at hl 3 rfl) ?_
  refine lv_iconst (v := 3) hx hb dL_920 (by decide) ?_
  refine lv_iadd hx hb dL_921 ?_
  refine va_sld hx hb hX hbl hbA hS (hv 3 (by omega)) dL_922 ?_
  refine bl_invV (M := lawMI) (Y := bl_mi 91) (idx := 103) (a := 4) (b := 10) (st := [.int (xs (nI i + 3).toNatClampNeg), .int (xs (nI i + 2).toNatClampNeg), .int (xs (nI i + 1).toNatClampNeg), .ref 0]) (σ := σ) (σ' := τ) (r := some (.int r)) C hP hS hl.1 (bl_mi_in 91) lawLk_ok dL_923 (by omega) rfl rfl (List.mem_of_getElem? (i := 128) rfl) (List.mem_of_getElem? (i := 129) rfl) (List.mem_of_getElem? (i := 130) rfl) (List.mem_of_getElem? (i := 3) rfl) (by decide +kernel) (by decide +kernel) (Nat.le_of_ble_eq_true rfl) (Nat.le_of_ble_eq_true rfl) rfl (by decide) h1 (fun H locs hP hS => ?_)
  refine W.eq (g2 := F0 m 926 ls [.int r]) rfl ?_
  refine lv_aload_n hx hb dL_926 rfl (lv_at hl 2 rfl) ?_
  refine lv_aload_n hx hb dL_927 rfl (lv_at hl 0 rfl) ?_
  refine lv_iload_n hx hb dL_928 rfl (lv_at hl 3 rfl) ?_
  refine lv_iconst (v := 1) hx hb dL_929 (by decide) ?_
  refine lv_iadd hx hb dL_930 ?_
  refine va_sld hx hb hX hbl hbA hS (hv 1 (by omega)) dL_931 ?_
  refine lv_aload_n hx hb dL_932 rfl (lv_at hl 0 rfl) ?_
  refine lv_iload_n hx hb dL_933 rfl (lv_at hl 3 rfl) ?_
  refine lv_iconst (v := 2) hx hb dL_934 (by decide) ?_
  refine lv_iadd hx hb dL_935 ?_
  refine va_sld hx hb hX hbl hbA hS (hv 2 (by omega)) dL_936 ?_
  refine lv_aload_n hx hb dL_937 rfl (lv_at hl 0 rfl) ?_
  refine lv_iload_n hx hb dL_938 rfl (lv_at hl 3 rfl) ?_
  refine lv_iconst (v := 3) hx hb dL_939 (by decide) ?_
  refine lv_iadd hx hb dL_940 ?_
  refine va_sld hx hb hX hbl hbA hS (hv 3 (by omega)) dL_941 ?_
  refine bl_invV (M := lawMI) (Y := bl_mi 161) (idx := 106) (a := 4) (b := 11) (st := [.int (xs (nI i + 3).toNatClampNeg), .int (xs (nI i + 2).toNatClampNeg), .int (xs (nI i + 1).toNatClampNeg), .ref 1, .int r]) (σ := τ) (σ' := τ2) (r := some (.int r)) C hP hS hl.1 (bl_mi_in 161) lawLk_ok dL_942 (by omega) rfl rfl (List.mem_of_getElem? (i := 131) rfl) (List.mem_of_getElem? (i := 132) rfl) (List.mem_of_getElem? (i := 133) rfl) (List.mem_of_getElem? (i := 7) rfl) (by decide +kernel) (by decide +kernel) (Nat.le_of_ble_eq_true rfl) (Nat.le_of_ble_eq_true rfl) rfl (by decide) h2 (fun H locs hP hS => ?_)
  refine W.eq (g2 := F0 m 945 ls [.int r, .int r]) rfl ?_
  exact lv_icmp_eq (tgt := 1197) hx hb dL_945 (by decide) (fun _ => next τ2 H locs h3 hP hS) (fun z => absurd rfl z)
set_option maxHeartbeats 4000000 in
theorem br_visited {D : va_G} {α : Nat → Nat} {cA : Nat → ClassId} {A : Nat → Prop} {p : Program} {l : Launch} {e : Env} {s : State} {m : MethodId} {b : Nat} {below : List Frame} {meth : Method} {c : Code} {L : Nat} {xs : Nat → Int32} {i : Nat} {Qf : State → Prop} {σ : bl_S} {H : Heap} {locs : List Loc} {ls : Array Slot} (C : LC D α cA A p s m b meth c L xs i) (hI : Inv σ) (hP : va_P D vwCl (bl_ws α cA σ) H) (hS : va_S A s.heap H locs) (hl : lv_has ls 4 [(0, .ref b), (1, .ref (α 0)), (2, .ref (α 1)), (3, .int (nI i))]) (next : ∀ (σ2 : bl_S) (H2 : Heap) (locs2 : List Loc), Inv σ2 → va_P D vwCl (bl_ws α cA σ2) H2 → va_S A s.heap H2 locs2 → W p l e room_1 s m #[Value.ref b] below meth c H2 locs2 600000 7302250 Qf (F0 m 1197 ls [])) : W p l e room_1 s m #[Value.ref b] below meth c H locs 600000 7302250 Qf (F0 m 950 ls []) := by
  obtain ⟨C, hX, hbl, hbA, hv⟩ := C
  have hx := C.1
  have hb : c.code = code := C.2.1
  obtain ⟨r, τ, τ2, h1, h2, h3⟩ := pr_visited hI (xs (nI i + 1).toNatClampNeg) (xs (nI i + 2).toNatClampNeg)
  refine lv_aload_n hx hb dL_950 rfl (lv_at hl 1 rfl) ?_
  refine lv_aload_n hx hb dL_951 rfl (lv_at hl 0 rfl) ?_
  refine lv_iload_n hx hb dL_952 rfl (lv_at hl 3 rfl) ?_
  refine lv_iconst (v := 1) hx hb dL_953 (by decide) ?_
  refine lv_iadd hx hb dL_954 ?_
  refine va_sld hx hb hX hbl hbA hS (hv 1 (by omega)) dL_955 ?_
  refine lv_aload_n hx hb dL_956 rfl (lv_at hl 0 rfl) ?_
  refine lv_iload_n hx hb dL_957 rfl (lv_at hl 3 rfl) ?_
  refine lv_iconst (v := 2) hx hb dL_958 (by decide) ?_
  refine lv_iadd hx hb dL_959 ?_
  refine va_sld hx hb hX hbl hbA hS (hv 2 (by omega)) dL_960 ?_
  refine bl_invV (M := lawMI) (Y := bl_mi 92) (idx := 107) (a := 3) (b := 10) (st := [.int (xs (nI i + 2).toNatClampNeg), .int (xs (nI i + 1).toNatClampNeg), .ref 0]) (σ := σ) (σ' := τ) (r := some (.int r)) C hP hS hl.1 (bl_mi_in 92) lawLk_ok dL_961 (by omega) rfl rfl (List.mem_of_getElem? (i := 134) rfl) (List.mem_of_getElem? (i := 135) rfl) (List.mem_of_getElem? (i := 136) rfl) (List.mem_of_getElem? (i := 3) rfl) (by decide +kernel) (by decide +kernel) (Nat.le_of_ble_eq_true rfl) (Nat.le_of_ble_eq_true rfl) rfl (by decide) h1 (fun H locs hP hS => ?_)
  refine W.eq (g2 := F0 m 964 ls [.int r]) rfl ?_
  refine lv_aload_n hx hb dL_964 rfl (lv_at hl 2 rfl) ?_
  refine lv_aload_n hx hb dL_965 rfl (lv_at hl 0 rfl) ?_
  refine lv_iload_n hx hb dL_966 rfl (lv_at hl 3 rfl) ?_
  refine lv_iconst (v := 1) hx hb dL_967 (by decide) ?_
  refine lv_iadd hx hb dL_968 ?_
  refine va_sld hx hb hX hbl hbA hS (hv 1 (by omega)) dL_969 ?_
  refine lv_aload_n hx hb dL_970 rfl (lv_at hl 0 rfl) ?_
  refine lv_iload_n hx hb dL_971 rfl (lv_at hl 3 rfl) ?_
  refine lv_iconst (v := 2) hx hb dL_972 (by decide) ?_
  refine lv_iadd hx hb dL_973 ?_
  refine va_sld hx hb hX hbl hbA hS (hv 2 (by omega)) dL_974 ?_
  refine bl_invV (M := lawMI) (Y := bl_mi 164) (idx := 110) (a := 3) (b := 11) (st := [.int (xs (nI i + 2).toNatClampNeg), .int (xs (nI i + 1).toNatClampNeg), .ref 1, .int r]) (σ := τ) (σ' := τ2) (r := some (.int r)) C hP hS hl.1 (bl_mi_in 164) lawLk_ok dL_975 (by omega) rfl rfl (List.mem_of_getElem? (i := 137) rfl) (List.mem_of_getElem? (i := 138) rfl) (List.mem_of_getElem? (i := 139) rfl) (List.mem_of_getElem? (i := 7) rfl) (by decide +kernel) (by decide +kernel) (Nat.le_of_ble_eq_true rfl) (Nat.le_of_ble_eq_true rfl) rfl (by decide) h2 (fun H locs hP hS => ?_)
  refine W.eq (g2 := F0 m 978 ls [.int r, .int r]) rfl ?_
  exact lv_icmp_eq (tgt := 1197) hx hb dL_978 (by decide) (fun _ => next τ2 H locs h3 hP hS) (fun z => absurd rfl z)
set_option maxHeartbeats 4000000 in
theorem br_can {D : va_G} {α : Nat → Nat} {cA : Nat → ClassId} {A : Nat → Prop} {p : Program} {l : Launch} {e : Env} {s : State} {m : MethodId} {b : Nat} {below : List Frame} {meth : Method} {c : Code} {L : Nat} {xs : Nat → Int32} {i : Nat} {Qf : State → Prop} {σ : bl_S} {H : Heap} {locs : List Loc} {ls : Array Slot} (C : LC D α cA A p s m b meth c L xs i) (hI : Inv σ) (hP : va_P D vwCl (bl_ws α cA σ) H) (hS : va_S A s.heap H locs) (hl : lv_has ls 4 [(0, .ref b), (1, .ref (α 0)), (2, .ref (α 1)), (3, .int (nI i))]) (next : ∀ (σ2 : bl_S) (H2 : Heap) (locs2 : List Loc), Inv σ2 → va_P D vwCl (bl_ws α cA σ2) H2 → va_S A s.heap H2 locs2 → W p l e room_1 s m #[Value.ref b] below meth c H2 locs2 600000 7302250 Qf (F0 m 1197 ls [])) : W p l e room_1 s m #[Value.ref b] below meth c H locs 600000 7302250 Qf (F0 m 983 ls []) := by
  obtain ⟨C, hX, hbl, hbA, hv⟩ := C
  have hx := C.1
  have hb : c.code = code := C.2.1
  obtain ⟨r, τ, τ2, h1, h2, h3⟩ := pr_can hI (xs (nI i + 1).toNatClampNeg) (xs (nI i + 2).toNatClampNeg) (xs (nI i + 3).toNatClampNeg) (xs (nI i + 4).toNatClampNeg)
  refine lv_aload_n hx hb dL_983 rfl (lv_at hl 1 rfl) ?_
  refine lv_aload_n hx hb dL_984 rfl (lv_at hl 0 rfl) ?_
  refine lv_iload_n hx hb dL_985 rfl (lv_at hl 3 rfl) ?_
  refine lv_iconst (v := 1) hx hb dL_986 (by decide) ?_
  refine lv_iadd hx hb dL_987 ?_
  refine va_sld hx hb hX hbl hbA hS (hv 1 (by omega)) dL_988 ?_
  refine lv_aload_n hx hb dL_989 rfl (lv_at hl 0 rfl) ?_
  refine lv_iload_n hx hb dL_990 rfl (lv_at hl 3 rfl) ?_
  refine lv_iconst (v := 2) hx hb dL_991 (by decide) ?_
  refine lv_iadd hx hb dL_992 ?_
  refine va_sld hx hb hX hbl hbA hS (hv 2 (by omega)) dL_993 ?_
  refine lv_aload_n hx hb dL_994 rfl (lv_at hl 0 rfl) ?_
  refine lv_iload_n hx hb dL_995 rfl (lv_at hl 3 rfl) ?_
  refine lv_iconst (v := 3) hx hb dL_996 (by decide) ?_
  refine lv_iadd hx hb dL_997 ?_
  refine va_sld hx hb hX hbl hbA hS (hv 3 (by omega)) dL_998 ?_
  refine lv_aload_n hx hb dL_999 rfl (lv_at hl 0 rfl) ?_
  refine lv_iload_n hx hb dL_1000 rfl (lv_at hl 3 rfl) ?_
  refine lv_iconst (v := 4) hx hb dL_1001 (by decide) ?_
  refine lv_iadd hx hb dL_1002 ?_
  refine va_sld hx hb hX hbl hbA hS (hv 4 (by omega)) dL_1003 ?_
  refine bl_invV (M := lawMI) (Y := bl_mi 93) (idx := 111) (a := 5) (b := 10) (st := [.int (xs (nI i + 4).toNatClampNeg), .int (xs (nI i + 3).toNatClampNeg), .int (xs (nI i + 2).toNatClampNeg), .int (xs (nI i + 1).toNatClampNeg), .ref 0]) (σ := σ) (σ' := τ) (r := some (.int r)) C hP hS hl.1 (bl_mi_in 93) lawLk_ok dL_1004 (by omega) rfl rfl (List.mem_of_getElem? (i := 140) rfl) (List.mem_of_getElem? (i := 141) rfl) (List.mem_of_getElem? (i := 142) rfl) (List.mem_of_getElem? (i := 3) rfl) (by decide +kernel) (by decide +kernel) (Nat.le_of_ble_eq_true rfl) (Nat.le_of_ble_eq_true rfl) rfl (by decide) h1 (fun H locs hP hS => ?_)
  refine W.eq (g2 := F0 m 1007 ls [.int r]) rfl ?_
  refine lv_aload_n hx hb dL_1007 rfl (lv_at hl 2 rfl) ?_
  refine lv_aload_n hx hb dL_1008 rfl (lv_at hl 0 rfl) ?_
  refine lv_iload_n hx hb dL_1009 rfl (lv_at hl 3 rfl) ?_
  refine lv_iconst (v := 1) hx hb dL_1010 (by decide) ?_
  refine lv_iadd hx hb dL_1011 ?_
  refine va_sld hx hb hX hbl hbA hS (hv 1 (by omega)) dL_1012 ?_
  refine lv_aload_n hx hb dL_1013 rfl (lv_at hl 0 rfl) ?_
  refine lv_iload_n hx hb dL_1014 rfl (lv_at hl 3 rfl) ?_
  refine lv_iconst (v := 2) hx hb dL_1015 (by decide) ?_
  refine lv_iadd hx hb dL_1016 ?_
  refine va_sld hx hb hX hbl hbA hS (hv 2 (by omega)) dL_1017 ?_
  refine lv_aload_n hx hb dL_1018 rfl (lv_at hl 0 rfl) ?_
  refine lv_iload_n hx hb dL_1019 rfl (lv_at hl 3 rfl) ?_
  refine lv_iconst (v := 3) hx hb dL_1020 (by decide) ?_
  refine lv_iadd hx hb dL_1021 ?_
  refine va_sld hx hb hX hbl hbA hS (hv 3 (by omega)) dL_1022 ?_
  refine lv_aload_n hx hb dL_1023 rfl (lv_at hl 0 rfl) ?_
  refine lv_iload_n hx hb dL_1024 rfl (lv_at hl 3 rfl) ?_
  refine lv_iconst (v := 4) hx hb dL_1025 (by decide) ?_
  refine lv_iadd hx hb dL_1026 ?_
  refine va_sld hx hb hX hbl hbA hS (hv 4 (by omega)) dL_1027 ?_
  refine bl_invV (M := lawMI) (Y := bl_mi 165) (idx := 114) (a := 5) (b := 11) (st := [.int (xs (nI i + 4).toNatClampNeg), .int (xs (nI i + 3).toNatClampNeg), .int (xs (nI i + 2).toNatClampNeg), .int (xs (nI i + 1).toNatClampNeg), .ref 1, .int r]) (σ := τ) (σ' := τ2) (r := some (.int r)) C hP hS hl.1 (bl_mi_in 165) lawLk_ok dL_1028 (by omega) rfl rfl (List.mem_of_getElem? (i := 143) rfl) (List.mem_of_getElem? (i := 144) rfl) (List.mem_of_getElem? (i := 145) rfl) (List.mem_of_getElem? (i := 7) rfl) (by decide +kernel) (by decide +kernel) (Nat.le_of_ble_eq_true rfl) (Nat.le_of_ble_eq_true rfl) rfl (by decide) h2 (fun H locs hP hS => ?_)
  refine W.eq (g2 := F0 m 1031 ls [.int r, .int r]) rfl ?_
  exact lv_icmp_eq (tgt := 1197) hx hb dL_1031 (by decide) (fun _ => next τ2 H locs h3 hP hS) (fun z => absurd rfl z)
set_option maxHeartbeats 4000000 in
theorem br_eats {D : va_G} {α : Nat → Nat} {cA : Nat → ClassId} {A : Nat → Prop} {p : Program} {l : Launch} {e : Env} {s : State} {m : MethodId} {b : Nat} {below : List Frame} {meth : Method} {c : Code} {L : Nat} {xs : Nat → Int32} {i : Nat} {Qf : State → Prop} {σ : bl_S} {H : Heap} {locs : List Loc} {ls : Array Slot} (C : LC D α cA A p s m b meth c L xs i) (hI : Inv σ) (hP : va_P D vwCl (bl_ws α cA σ) H) (hS : va_S A s.heap H locs) (hl : lv_has ls 4 [(0, .ref b), (1, .ref (α 0)), (2, .ref (α 1)), (3, .int (nI i))]) (next : ∀ (σ2 : bl_S) (H2 : Heap) (locs2 : List Loc), Inv σ2 → va_P D vwCl (bl_ws α cA σ2) H2 → va_S A s.heap H2 locs2 → W p l e room_1 s m #[Value.ref b] below meth c H2 locs2 600000 7302250 Qf (F0 m 1197 ls [])) : W p l e room_1 s m #[Value.ref b] below meth c H locs 600000 7302250 Qf (F0 m 1036 ls []) := by
  obtain ⟨C, hX, hbl, hbA, hv⟩ := C
  have hx := C.1
  have hb : c.code = code := C.2.1
  obtain ⟨r, τ, τ2, h1, h2, h3⟩ := pr_eats hI (xs (nI i + 1).toNatClampNeg)
  refine lv_aload_n hx hb dL_1036 rfl (lv_at hl 1 rfl) ?_
  refine lv_aload_n hx hb dL_1037 rfl (lv_at hl 0 rfl) ?_
  refine lv_iload_n hx hb dL_1038 rfl (lv_at hl 3 rfl) ?_
  refine lv_iconst (v := 1) hx hb dL_1039 (by decide) ?_
  refine lv_iadd hx hb dL_1040 ?_
  refine va_sld hx hb hX hbl hbA hS (hv 1 (by omega)) dL_1041 ?_
  refine bl_invV (M := lawMI) (Y := bl_mi 94) (idx := 115) (a := 2) (b := 10) (st := [.int (xs (nI i + 1).toNatClampNeg), .ref 0]) (σ := σ) (σ' := τ) (r := some (.int r)) C hP hS hl.1 (bl_mi_in 94) lawLk_ok dL_1042 (by omega) rfl rfl (List.mem_of_getElem? (i := 146) rfl) (List.mem_of_getElem? (i := 147) rfl) (List.mem_of_getElem? (i := 148) rfl) (List.mem_of_getElem? (i := 3) rfl) (by decide +kernel) (by decide +kernel) (Nat.le_of_ble_eq_true rfl) (Nat.le_of_ble_eq_true rfl) rfl (by decide) h1 (fun H locs hP hS => ?_)
  refine W.eq (g2 := F0 m 1045 ls [.int r]) rfl ?_
  refine lv_aload_n hx hb dL_1045 rfl (lv_at hl 2 rfl) ?_
  refine lv_aload_n hx hb dL_1046 rfl (lv_at hl 0 rfl) ?_
  refine lv_iload_n hx hb dL_1047 rfl (lv_at hl 3 rfl) ?_
  refine lv_iconst (v := 1) hx hb dL_1048 (by decide) ?_
  refine lv_iadd hx hb dL_1049 ?_
  refine va_sld hx hb hX hbl hbA hS (hv 1 (by omega)) dL_1050 ?_
  refine bl_invV (M := lawMI) (Y := bl_mi 167) (idx := 118) (a := 2) (b := 11) (st := [.int (xs (nI i + 1).toNatClampNeg), .ref 1, .int r]) (σ := τ) (σ' := τ2) (r := some (.int r)) C hP hS hl.1 (bl_mi_in 167) lawLk_ok dL_1051 (by omega) rfl rfl (List.mem_of_getElem? (i := 149) rfl) (List.mem_of_getElem? (i := 150) rfl) (List.mem_of_getElem? (i := 151) rfl) (List.mem_of_getElem? (i := 7) rfl) (by decide +kernel) (by decide +kernel) (Nat.le_of_ble_eq_true rfl) (Nat.le_of_ble_eq_true rfl) rfl (by decide) h2 (fun H locs hP hS => ?_)
  refine W.eq (g2 := F0 m 1054 ls [.int r, .int r]) rfl ?_
  exact lv_icmp_eq (tgt := 1197) hx hb dL_1054 (by decide) (fun _ => next τ2 H locs h3 hP hS) (fun z => absurd rfl z)
set_option maxHeartbeats 4000000 in
theorem br_write {D : va_G} {α : Nat → Nat} {cA : Nat → ClassId} {A : Nat → Prop} {p : Program} {l : Launch} {e : Env} {s : State} {m : MethodId} {b : Nat} {below : List Frame} {meth : Method} {c : Code} {L : Nat} {xs : Nat → Int32} {i : Nat} {Qf : State → Prop} {σ : bl_S} {H : Heap} {locs : List Loc} {ls : Array Slot} (C : LC D α cA A p s m b meth c L xs i) (hI : Inv σ) (hP : va_P D vwCl (bl_ws α cA σ) H) (hS : va_S A s.heap H locs) (hl : lv_has ls 4 [(0, .ref b), (1, .ref (α 0)), (2, .ref (α 1)), (3, .int (nI i))]) (next : ∀ (σ2 : bl_S) (H2 : Heap) (locs2 : List Loc), Inv σ2 → va_P D vwCl (bl_ws α cA σ2) H2 → va_S A s.heap H2 locs2 → W p l e room_1 s m #[Value.ref b] below meth c H2 locs2 600000 7302250 Qf (F0 m 1197 ls [])) : W p l e room_1 s m #[Value.ref b] below meth c H locs 600000 7302250 Qf (F0 m 1059 ls []) := by
  obtain ⟨C, hX, hbl, hbA, hv⟩ := C
  have hx := C.1
  have hb : c.code = code := C.2.1
  obtain ⟨r, τ, τ2, h1, h2, h3⟩ := pr_write hI (xs (nI i + 1).toNatClampNeg) (xs (nI i + 2).toNatClampNeg) (xs (nI i + 3).toNatClampNeg)
  refine lv_aload_n hx hb dL_1059 rfl (lv_at hl 1 rfl) ?_
  refine lv_aload_n hx hb dL_1060 rfl (lv_at hl 0 rfl) ?_
  refine lv_iload_n hx hb dL_1061 rfl (lv_at hl 3 rfl) ?_
  refine lv_iconst (v := 1) hx hb dL_1062 (by decide) ?_
  refine lv_iadd hx hb dL_1063 ?_
  refine va_sld hx hb hX hbl hbA hS (hv 1 (by omega)) dL_1064 ?_
  refine lv_aload_n hx hb dL_1065 rfl (lv_at hl 0 rfl) ?_
  refine lv_iload_n hx hb dL_1066 rfl (lv_at hl 3 rfl) ?_
  refine lv_iconst (v := 2) hx hb dL_1067 (by decide) ?_
  refine lv_iadd hx hb dL_1068 ?_
  refine va_sld hx hb hX hbl hbA hS (hv 2 (by omega)) dL_1069 ?_
  refine lv_aload_n hx hb dL_1070 rfl (lv_at hl 0 rfl) ?_
  refine lv_iload_n hx hb dL_1071 rfl (lv_at hl 3 rfl) ?_
  refine lv_iconst (v := 3) hx hb dL_1072 (by decide) ?_
  refine lv_iadd hx hb dL_1073 ?_
  refine va_sld hx hb hX hbl hbA hS (hv 3 (by omega)) dL_1074 ?_
  refine bl_invV (M := lawMI) (Y := bl_mi 95) (idx := 119) (a := 4) (b := 10) (st := [.int (xs (nI i + 3).toNatClampNeg), .int (xs (nI i + 2).toNatClampNeg), .int (xs (nI i + 1).toNatClampNeg), .ref 0]) (σ := σ) (σ' := τ) (r := some (.int r)) C hP hS hl.1 (bl_mi_in 95) lawLk_ok dL_1075 (by omega) rfl rfl (List.mem_of_getElem? (i := 152) rfl) (List.mem_of_getElem? (i := 153) rfl) (List.mem_of_getElem? (i := 154) rfl) (List.mem_of_getElem? (i := 3) rfl) (by decide +kernel) (by decide +kernel) (Nat.le_of_ble_eq_true rfl) (Nat.le_of_ble_eq_true rfl) rfl (by decide) h1 (fun H locs hP hS => ?_)
  refine W.eq (g2 := F0 m 1078 ls [.int r]) rfl ?_
  refine lv_aload_n hx hb dL_1078 rfl (lv_at hl 2 rfl) ?_
  refine lv_aload_n hx hb dL_1079 rfl (lv_at hl 0 rfl) ?_
  refine lv_iload_n hx hb dL_1080 rfl (lv_at hl 3 rfl) ?_
  refine lv_iconst (v := 1) hx hb dL_1081 (by decide) ?_
  refine lv_iadd hx hb dL_1082 ?_
  refine va_sld hx hb hX hbl hbA hS (hv 1 (by omega)) dL_1083 ?_
  refine lv_aload_n hx hb dL_1084 rfl (lv_at hl 0 rfl) ?_
  refine lv_iload_n hx hb dL_1085 rfl (lv_at hl 3 rfl) ?_
  refine lv_iconst (v := 2) hx hb dL_1086 (by decide) ?_
  refine lv_iadd hx hb dL_1087 ?_
  refine va_sld hx hb hX hbl hbA hS (hv 2 (by omega)) dL_1088 ?_
  refine lv_aload_n hx hb dL_1089 rfl (lv_at hl 0 rfl) ?_
  refine lv_iload_n hx hb dL_1090 rfl (lv_at hl 3 rfl) ?_
  refine lv_iconst (v := 3) hx hb dL_1091 (by decide) ?_
  refine lv_iadd hx hb dL_1092 ?_
  refine va_sld hx hb hX hbl hbA hS (hv 3 (by omega)) dL_1093 ?_
  refine bl_invV (M := lawMI) (Y := bl_mi 168) (idx := 122) (a := 4) (b := 11) (st := [.int (xs (nI i + 3).toNatClampNeg), .int (xs (nI i + 2).toNatClampNeg), .int (xs (nI i + 1).toNatClampNeg), .ref 1, .int r]) (σ := τ) (σ' := τ2) (r := some (.int r)) C hP hS hl.1 (bl_mi_in 168) lawLk_ok dL_1094 (by omega) rfl rfl (List.mem_of_getElem? (i := 155) rfl) (List.mem_of_getElem? (i := 156) rfl) (List.mem_of_getElem? (i := 157) rfl) (List.mem_of_getElem? (i := 7) rfl) (by decide +kernel) (by decide +kernel) (Nat.le_of_ble_eq_true rfl) (Nat.le_of_ble_eq_true rfl) rfl (by decide) h2 (fun H locs hP hS => ?_)
  refine W.eq (g2 := F0 m 1097 ls [.int r, .int r]) rfl ?_
  exact lv_icmp_eq (tgt := 1197) hx hb dL_1097 (by decide) (fun _ => next τ2 H locs h3 hP hS) (fun z => absurd rfl z)
set_option maxHeartbeats 4000000 in
theorem br_judge {D : va_G} {α : Nat → Nat} {cA : Nat → ClassId} {A : Nat → Prop} {p : Program} {l : Launch} {e : Env} {s : State} {m : MethodId} {b : Nat} {below : List Frame} {meth : Method} {c : Code} {L : Nat} {xs : Nat → Int32} {i : Nat} {Qf : State → Prop} {σ : bl_S} {H : Heap} {locs : List Loc} {ls : Array Slot} (C : LC D α cA A p s m b meth c L xs i) (hI : Inv σ) (hP : va_P D vwCl (bl_ws α cA σ) H) (hS : va_S A s.heap H locs) (hl : lv_has ls 4 [(0, .ref b), (1, .ref (α 0)), (2, .ref (α 1)), (3, .int (nI i))]) (next : ∀ (σ2 : bl_S) (H2 : Heap) (locs2 : List Loc), Inv σ2 → va_P D vwCl (bl_ws α cA σ2) H2 → va_S A s.heap H2 locs2 → W p l e room_1 s m #[Value.ref b] below meth c H2 locs2 600000 7302250 Qf (F0 m 1197 ls [])) : W p l e room_1 s m #[Value.ref b] below meth c H locs 600000 7302250 Qf (F0 m 1102 ls []) := by
  obtain ⟨C, hX, hbl, hbA, hv⟩ := C
  have hx := C.1
  have hb : c.code = code := C.2.1
  obtain ⟨r, τ, τ2, h1, h2, h3⟩ := pr_judge hI
  refine lv_aload_n hx hb dL_1102 rfl (lv_at hl 1 rfl) ?_
  refine bl_invV (M := lawMI) (Y := bl_mi 96) (idx := 123) (a := 1) (b := 10) (st := [.ref 0]) (σ := σ) (σ' := τ) (r := some (.int r)) C hP hS hl.1 (bl_mi_in 96) lawLk_ok dL_1103 (by omega) rfl rfl (List.mem_of_getElem? (i := 158) rfl) (List.mem_of_getElem? (i := 159) rfl) (List.mem_of_getElem? (i := 160) rfl) (List.mem_of_getElem? (i := 3) rfl) (by decide +kernel) (by decide +kernel) (Nat.le_of_ble_eq_true rfl) (Nat.le_of_ble_eq_true rfl) rfl (by decide) h1 (fun H locs hP hS => ?_)
  refine W.eq (g2 := F0 m 1106 ls [.int r]) rfl ?_
  refine lv_aload_n hx hb dL_1106 rfl (lv_at hl 2 rfl) ?_
  refine bl_invV (M := lawMI) (Y := bl_mi 169) (idx := 126) (a := 1) (b := 11) (st := [.ref 1, .int r]) (σ := τ) (σ' := τ2) (r := some (.int r)) C hP hS hl.1 (bl_mi_in 169) lawLk_ok dL_1107 (by omega) rfl rfl (List.mem_of_getElem? (i := 161) rfl) (List.mem_of_getElem? (i := 162) rfl) (List.mem_of_getElem? (i := 163) rfl) (List.mem_of_getElem? (i := 7) rfl) (by decide +kernel) (by decide +kernel) (Nat.le_of_ble_eq_true rfl) (Nat.le_of_ble_eq_true rfl) rfl (by decide) h2 (fun H locs hP hS => ?_)
  refine W.eq (g2 := F0 m 1110 ls [.int r, .int r]) rfl ?_
  exact lv_icmp_eq (tgt := 1197) hx hb dL_1110 (by decide) (fun _ => next τ2 H locs h3 hP hS) (fun z => absurd rfl z)
set_option maxHeartbeats 4000000 in
theorem br_tear {D : va_G} {α : Nat → Nat} {cA : Nat → ClassId} {A : Nat → Prop} {p : Program} {l : Launch} {e : Env} {s : State} {m : MethodId} {b : Nat} {below : List Frame} {meth : Method} {c : Code} {L : Nat} {xs : Nat → Int32} {i : Nat} {Qf : State → Prop} {σ : bl_S} {H : Heap} {locs : List Loc} {ls : Array Slot} (C : LC D α cA A p s m b meth c L xs i) (hI : Inv σ) (hP : va_P D vwCl (bl_ws α cA σ) H) (hS : va_S A s.heap H locs) (hl : lv_has ls 4 [(0, .ref b), (1, .ref (α 0)), (2, .ref (α 1)), (3, .int (nI i))]) (next : ∀ (σ2 : bl_S) (H2 : Heap) (locs2 : List Loc), Inv σ2 → va_P D vwCl (bl_ws α cA σ2) H2 → va_S A s.heap H2 locs2 → W p l e room_1 s m #[Value.ref b] below meth c H2 locs2 600000 7302250 Qf (F0 m 1197 ls [])) : W p l e room_1 s m #[Value.ref b] below meth c H locs 600000 7302250 Qf (F0 m 1115 ls []) := by
  obtain ⟨C, hX, hbl, hbA, hv⟩ := C
  have hx := C.1
  have hb : c.code = code := C.2.1
  obtain ⟨r, τ, τ2, h1, h2, h3⟩ := pr_tear hI
  refine lv_aload_n hx hb dL_1115 rfl (lv_at hl 1 rfl) ?_
  refine bl_invV (M := lawMI) (Y := bl_mi 97) (idx := 127) (a := 1) (b := 10) (st := [.ref 0]) (σ := σ) (σ' := τ) (r := some (.int r)) C hP hS hl.1 (bl_mi_in 97) lawLk_ok dL_1116 (by omega) rfl rfl (List.mem_of_getElem? (i := 164) rfl) (List.mem_of_getElem? (i := 165) rfl) (List.mem_of_getElem? (i := 166) rfl) (List.mem_of_getElem? (i := 3) rfl) (by decide +kernel) (by decide +kernel) (Nat.le_of_ble_eq_true rfl) (Nat.le_of_ble_eq_true rfl) rfl (by decide) h1 (fun H locs hP hS => ?_)
  refine W.eq (g2 := F0 m 1119 ls [.int r]) rfl ?_
  refine lv_aload_n hx hb dL_1119 rfl (lv_at hl 2 rfl) ?_
  refine bl_invV (M := lawMI) (Y := bl_mi 170) (idx := 130) (a := 1) (b := 11) (st := [.ref 1, .int r]) (σ := τ) (σ' := τ2) (r := some (.int r)) C hP hS hl.1 (bl_mi_in 170) lawLk_ok dL_1120 (by omega) rfl rfl (List.mem_of_getElem? (i := 167) rfl) (List.mem_of_getElem? (i := 168) rfl) (List.mem_of_getElem? (i := 169) rfl) (List.mem_of_getElem? (i := 7) rfl) (by decide +kernel) (by decide +kernel) (Nat.le_of_ble_eq_true rfl) (Nat.le_of_ble_eq_true rfl) rfl (by decide) h2 (fun H locs hP hS => ?_)
  refine W.eq (g2 := F0 m 1123 ls [.int r, .int r]) rfl ?_
  exact lv_icmp_eq (tgt := 1197) hx hb dL_1123 (by decide) (fun _ => next τ2 H locs h3 hP hS) (fun z => absurd rfl z)
set_option maxHeartbeats 4000000 in
theorem br_seed {D : va_G} {α : Nat → Nat} {cA : Nat → ClassId} {A : Nat → Prop} {p : Program} {l : Launch} {e : Env} {s : State} {m : MethodId} {b : Nat} {below : List Frame} {meth : Method} {c : Code} {L : Nat} {xs : Nat → Int32} {i : Nat} {Qf : State → Prop} {σ : bl_S} {H : Heap} {locs : List Loc} {ls : Array Slot} (C : LC D α cA A p s m b meth c L xs i) (hI : Inv σ) (hP : va_P D vwCl (bl_ws α cA σ) H) (hS : va_S A s.heap H locs) (hl : lv_has ls 4 [(0, .ref b), (1, .ref (α 0)), (2, .ref (α 1)), (3, .int (nI i))]) (next : ∀ (σ2 : bl_S) (H2 : Heap) (locs2 : List Loc), Inv σ2 → va_P D vwCl (bl_ws α cA σ2) H2 → va_S A s.heap H2 locs2 → W p l e room_1 s m #[Value.ref b] below meth c H2 locs2 600000 7302250 Qf (F0 m 1197 ls [])) : W p l e room_1 s m #[Value.ref b] below meth c H locs 600000 7302250 Qf (F0 m 1128 ls []) := by
  obtain ⟨C, hX, hbl, hbA, hv⟩ := C
  have hx := C.1
  have hb : c.code = code := C.2.1
  obtain ⟨r, τ, τ2, h1, h2, h3⟩ := pr_seed hI (xs (nI i + 1).toNatClampNeg)
  refine lv_aload_n hx hb dL_1128 rfl (lv_at hl 1 rfl) ?_
  refine lv_aload_n hx hb dL_1129 rfl (lv_at hl 0 rfl) ?_
  refine lv_iload_n hx hb dL_1130 rfl (lv_at hl 3 rfl) ?_
  refine lv_iconst (v := 1) hx hb dL_1131 (by decide) ?_
  refine lv_iadd hx hb dL_1132 ?_
  refine va_sld hx hb hX hbl hbA hS (hv 1 (by omega)) dL_1133 ?_
  refine bl_invV (M := lawMI) (Y := bl_mi 98) (idx := 131) (a := 2) (b := 10) (st := [.int (xs (nI i + 1).toNatClampNeg), .ref 0]) (σ := σ) (σ' := τ) (r := some (.int r)) C hP hS hl.1 (bl_mi_in 98) lawLk_ok dL_1134 (by omega) rfl rfl (List.mem_of_getElem? (i := 170) rfl) (List.mem_of_getElem? (i := 171) rfl) (List.mem_of_getElem? (i := 172) rfl) (List.mem_of_getElem? (i := 3) rfl) (by decide +kernel) (by decide +kernel) (Nat.le_of_ble_eq_true rfl) (Nat.le_of_ble_eq_true rfl) rfl (by decide) h1 (fun H locs hP hS => ?_)
  refine W.eq (g2 := F0 m 1137 ls [.int r]) rfl ?_
  refine lv_aload_n hx hb dL_1137 rfl (lv_at hl 2 rfl) ?_
  refine lv_aload_n hx hb dL_1138 rfl (lv_at hl 0 rfl) ?_
  refine lv_iload_n hx hb dL_1139 rfl (lv_at hl 3 rfl) ?_
  refine lv_iconst (v := 1) hx hb dL_1140 (by decide) ?_
  refine lv_iadd hx hb dL_1141 ?_
  refine va_sld hx hb hX hbl hbA hS (hv 1 (by omega)) dL_1142 ?_
  refine bl_invV (M := lawMI) (Y := bl_mi 171) (idx := 134) (a := 2) (b := 11) (st := [.int (xs (nI i + 1).toNatClampNeg), .ref 1, .int r]) (σ := τ) (σ' := τ2) (r := some (.int r)) C hP hS hl.1 (bl_mi_in 171) lawLk_ok dL_1143 (by omega) rfl rfl (List.mem_of_getElem? (i := 173) rfl) (List.mem_of_getElem? (i := 174) rfl) (List.mem_of_getElem? (i := 175) rfl) (List.mem_of_getElem? (i := 7) rfl) (by decide +kernel) (by decide +kernel) (Nat.le_of_ble_eq_true rfl) (Nat.le_of_ble_eq_true rfl) rfl (by decide) h2 (fun H locs hP hS => ?_)
  refine W.eq (g2 := F0 m 1146 ls [.int r, .int r]) rfl ?_
  exact lv_icmp_eq (tgt := 1197) hx hb dL_1146 (by decide) (fun _ => next τ2 H locs h3 hP hS) (fun z => absurd rfl z)
set_option maxHeartbeats 4000000 in
theorem br_keep {D : va_G} {α : Nat → Nat} {cA : Nat → ClassId} {A : Nat → Prop} {p : Program} {l : Launch} {e : Env} {s : State} {m : MethodId} {b : Nat} {below : List Frame} {meth : Method} {c : Code} {L : Nat} {xs : Nat → Int32} {i : Nat} {Qf : State → Prop} {σ : bl_S} {H : Heap} {locs : List Loc} {ls : Array Slot} (C : LC D α cA A p s m b meth c L xs i) (hI : Inv σ) (hP : va_P D vwCl (bl_ws α cA σ) H) (hS : va_S A s.heap H locs) (hl : lv_has ls 4 [(0, .ref b), (1, .ref (α 0)), (2, .ref (α 1)), (3, .int (nI i))]) (next : ∀ (σ2 : bl_S) (H2 : Heap) (locs2 : List Loc), Inv σ2 → va_P D vwCl (bl_ws α cA σ2) H2 → va_S A s.heap H2 locs2 → W p l e room_1 s m #[Value.ref b] below meth c H2 locs2 600000 7302250 Qf (F0 m 1197 ls [])) : W p l e room_1 s m #[Value.ref b] below meth c H locs 600000 7302250 Qf (F0 m 1151 ls []) := by
  obtain ⟨C, hX, hbl, hbA, hv⟩ := C
  have hx := C.1
  have hb : c.code = code := C.2.1
  obtain ⟨r, τ, τ2, h1, h2, h3⟩ := pr_keep hI (xs (nI i + 1).toNatClampNeg)
  refine lv_aload_n hx hb dL_1151 rfl (lv_at hl 1 rfl) ?_
  refine lv_aload_n hx hb dL_1152 rfl (lv_at hl 0 rfl) ?_
  refine lv_iload_n hx hb dL_1153 rfl (lv_at hl 3 rfl) ?_
  refine lv_iconst (v := 1) hx hb dL_1154 (by decide) ?_
  refine lv_iadd hx hb dL_1155 ?_
  refine va_sld hx hb hX hbl hbA hS (hv 1 (by omega)) dL_1156 ?_
  refine bl_invV (M := lawMI) (Y := bl_mi 99) (idx := 135) (a := 2) (b := 10) (st := [.int (xs (nI i + 1).toNatClampNeg), .ref 0]) (σ := σ) (σ' := τ) (r := some (.int r)) C hP hS hl.1 (bl_mi_in 99) lawLk_ok dL_1157 (by omega) rfl rfl (List.mem_of_getElem? (i := 176) rfl) (List.mem_of_getElem? (i := 177) rfl) (List.mem_of_getElem? (i := 178) rfl) (List.mem_of_getElem? (i := 3) rfl) (by decide +kernel) (by decide +kernel) (Nat.le_of_ble_eq_true rfl) (Nat.le_of_ble_eq_true rfl) rfl (by decide) h1 (fun H locs hP hS => ?_)
  refine W.eq (g2 := F0 m 1160 ls [.int r]) rfl ?_
  refine lv_aload_n hx hb dL_1160 rfl (lv_at hl 2 rfl) ?_
  refine lv_aload_n hx hb dL_1161 rfl (lv_at hl 0 rfl) ?_
  refine lv_iload_n hx hb dL_1162 rfl (lv_at hl 3 rfl) ?_
  refine lv_iconst (v := 1) hx hb dL_1163 (by decide) ?_
  refine lv_iadd hx hb dL_1164 ?_
  refine va_sld hx hb hX hbl hbA hS (hv 1 (by omega)) dL_1165 ?_
  refine bl_invV (M := lawMI) (Y := bl_mi 172) (idx := 138) (a := 2) (b := 11) (st := [.int (xs (nI i + 1).toNatClampNeg), .ref 1, .int r]) (σ := τ) (σ' := τ2) (r := some (.int r)) C hP hS hl.1 (bl_mi_in 172) lawLk_ok dL_1166 (by omega) rfl rfl (List.mem_of_getElem? (i := 179) rfl) (List.mem_of_getElem? (i := 180) rfl) (List.mem_of_getElem? (i := 181) rfl) (List.mem_of_getElem? (i := 7) rfl) (by decide +kernel) (by decide +kernel) (Nat.le_of_ble_eq_true rfl) (Nat.le_of_ble_eq_true rfl) rfl (by decide) h2 (fun H locs hP hS => ?_)
  refine W.eq (g2 := F0 m 1169 ls [.int r, .int r]) rfl ?_
  exact lv_icmp_eq (tgt := 1197) hx hb dL_1169 (by decide) (fun _ => next τ2 H locs h3 hP hS) (fun z => absurd rfl z)
set_option maxHeartbeats 4000000 in
theorem br_goBack {D : va_G} {α : Nat → Nat} {cA : Nat → ClassId} {A : Nat → Prop} {p : Program} {l : Launch} {e : Env} {s : State} {m : MethodId} {b : Nat} {below : List Frame} {meth : Method} {c : Code} {L : Nat} {xs : Nat → Int32} {i : Nat} {Qf : State → Prop} {σ : bl_S} {H : Heap} {locs : List Loc} {ls : Array Slot} (C : LC D α cA A p s m b meth c L xs i) (hI : Inv σ) (hP : va_P D vwCl (bl_ws α cA σ) H) (hS : va_S A s.heap H locs) (hl : lv_has ls 4 [(0, .ref b), (1, .ref (α 0)), (2, .ref (α 1)), (3, .int (nI i))]) (next : ∀ (σ2 : bl_S) (H2 : Heap) (locs2 : List Loc), Inv σ2 → va_P D vwCl (bl_ws α cA σ2) H2 → va_S A s.heap H2 locs2 → W p l e room_1 s m #[Value.ref b] below meth c H2 locs2 600000 7302250 Qf (F0 m 1197 ls [])) : W p l e room_1 s m #[Value.ref b] below meth c H locs 600000 7302250 Qf (F0 m 1174 ls []) := by
  obtain ⟨C, hX, hbl, hbA, hv⟩ := C
  have hx := C.1
  have hb : c.code = code := C.2.1
  obtain ⟨r, τ, τ2, h1, h2, h3⟩ := pr_goBack hI (xs (nI i + 1).toNatClampNeg)
  refine lv_aload_n hx hb dL_1174 rfl (lv_at hl 1 rfl) ?_
  refine lv_aload_n hx hb dL_1175 rfl (lv_at hl 0 rfl) ?_
  refine lv_iload_n hx hb dL_1176 rfl (lv_at hl 3 rfl) ?_
  refine lv_iconst (v := 1) hx hb dL_1177 (by decide) ?_
  refine lv_iadd hx hb dL_1178 ?_
  refine va_sld hx hb hX hbl hbA hS (hv 1 (by omega)) dL_1179 ?_
  refine bl_invV (M := lawMI) (Y := bl_mi 100) (idx := 139) (a := 2) (b := 10) (st := [.int (xs (nI i + 1).toNatClampNeg), .ref 0]) (σ := σ) (σ' := τ) (r := some (.int r)) C hP hS hl.1 (bl_mi_in 100) lawLk_ok dL_1180 (by omega) rfl rfl (List.mem_of_getElem? (i := 182) rfl) (List.mem_of_getElem? (i := 183) rfl) (List.mem_of_getElem? (i := 184) rfl) (List.mem_of_getElem? (i := 3) rfl) (by decide +kernel) (by decide +kernel) (Nat.le_of_ble_eq_true rfl) (Nat.le_of_ble_eq_true rfl) rfl (by decide) h1 (fun H locs hP hS => ?_)
  refine W.eq (g2 := F0 m 1183 ls [.int r]) rfl ?_
  refine lv_aload_n hx hb dL_1183 rfl (lv_at hl 2 rfl) ?_
  refine lv_aload_n hx hb dL_1184 rfl (lv_at hl 0 rfl) ?_
  refine lv_iload_n hx hb dL_1185 rfl (lv_at hl 3 rfl) ?_
  refine lv_iconst (v := 1) hx hb dL_1186 (by decide) ?_
  refine lv_iadd hx hb dL_1187 ?_
  refine va_sld hx hb hX hbl hbA hS (hv 1 (by omega)) dL_1188 ?_
  refine bl_invV (M := lawMI) (Y := bl_mi 173) (idx := 142) (a := 2) (b := 11) (st := [.int (xs (nI i + 1).toNatClampNeg), .ref 1, .int r]) (σ := τ) (σ' := τ2) (r := some (.int r)) C hP hS hl.1 (bl_mi_in 173) lawLk_ok dL_1189 (by omega) rfl rfl (List.mem_of_getElem? (i := 185) rfl) (List.mem_of_getElem? (i := 186) rfl) (List.mem_of_getElem? (i := 187) rfl) (List.mem_of_getElem? (i := 7) rfl) (by decide +kernel) (by decide +kernel) (Nat.le_of_ble_eq_true rfl) (Nat.le_of_ble_eq_true rfl) rfl (by decide) h2 (fun H locs hP hS => ?_)
  refine W.eq (g2 := F0 m 1192 ls [.int r, .int r]) rfl ?_
  exact lv_icmp_eq (tgt := 1197) hx hb dL_1192 (by decide) (fun _ => next τ2 H locs h3 hP hS) (fun z => absurd rfl z)
