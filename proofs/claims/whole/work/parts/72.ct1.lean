abbrev SX1 : Type := (Nat → Nat) × (Nat → ClassId)
abbrev gX1 (h0 : Nat) (u : SX1) : va_W := [(h0, .inr (1, [.int 0, .int 0, .int 0, .int 0, .int 0, .int 0]))]
abbrev tX1 (u : SX1) : List (ClassId × FieldType) := []
set_option maxHeartbeats 8000000 in
set_option maxRecDepth 100000 in
theorem k_X1 (l : Launch) (D : va_G) (h0 sz : Nat) : Met l yX1_init (ct_ws yX1_init cX1_init 1) ({ frames := 1, cells := 0, slots := 0, locals := 12 }) (ctPre D [.ref h0] [(h0, .inr (1, [.int 0, .int 0, .int 0, .int 0, .int 0, .int 0]))] sz) (ctPost D [(h0, .inr (1, [.int 0, .int 0, .int 0, .int 0, .int 0, .int 0]))] sz (fun u : SX1 => gX1 h0 u) (fun u => tX1 u)) 0 0 (va_A [(h0, .inr (1, [.int 0, .int 0, .int 0, .int 0, .int 0, .int 0]))] sz) := by
  refine Met.ofW (cc := cX1_init) (maxL := 1) (ret := none) (by decide) rfl ?_
  intro p e s m args below meth c s₁ B hml hv
  obtain ⟨rfl, hsz, hP, hK, hD0, hZ⟩ := hv
  have hx := B.exec
  have hb := B.bytes
  have hr := B.returns
  have hts0 := atoms_spec (ws := ct_ws yX1_init cX1_init 1) B.pre
  have hts : ∀ w ∈ bl_gt, w.before ([.ref h0] : List Value).toArray s = true := fun w hw => hts0 w (List.mem_cons_of_mem _ hw)
  have hown : s.vm.findClass RX1 = some m.cls := findClass_of_methodNamed B.named
  have hin : meth.name = "<init>" := (name_of_methodNamed B.named B.method).1
  subst hsz
  have hD := hD0.self (sz := s.heap.size)
  unfold ctPost
  generalize hAe : va_A [(h0, .inr (1, [.int 0, .int 0, .int 0, .int 0, .int 0, .int 0]))] s.heap.size = A at hD ⊢
  have hA : ∀ q : Nat, s.heap.size ≤ q → A q := fun q h => by rw [← hAe]; exact Or.inr h
  have hS : va_S A s.heap s.heap [] := va_S.rf
  have hP : va_P D vwCl [(h0, .inr (1, [.int 0, .int 0, .int 0, .int 0, .int 0, .int 0]))] s.heap := hP
  have hl := lv_entry ([.ref h0]) (n := 1) (Nat.le_of_ble_eq_true rfl)
  rw [lg_entry_eq]
  generalize (lg_sl ([.ref h0]) ++ List.replicate (1 - (lg_sl ([.ref h0])).length) Slot.unset).toArray = ls at hl ⊢
  have hl : lv_has ls 1 [(0, .ref h0)] := hl
  refine lv_aload_n hx hb dX1_init_0 rfl (lv_at hl 0 rfl) ?_
  refine W.objInit hx hb hown (hts _ cg_0) (hts _ cg_1) (hts _ cg_2) rfl (by rw [hml]; exact hl.1) rfl dX1_init_1 (Nat.le_of_ble_eq_true rfl) (Nat.le_of_ble_eq_true rfl) ?_
  refine W.eq (g2 := F0 m 4 ls []) rfl ?_
  exact W.vret hx hb hr (fun t ht hW => ⟨⟨(fun _ => 0, fun _ => 0), rfl, trivial, by rw [ht]; exact hP, va_K.moved hW.alike hK, hD⟩, hS.F ht⟩) hS.2.2 dX1_init_4
abbrev SX5 : Type := (Nat → Nat) × (Nat → ClassId)
abbrev gX5 (h0 : Nat) (u : SX5) : va_W := [(h0, .inr (5, [.int 0, .int 0, .int 0, .int 0, .int 0, .int 0, .int 0, .int 0]))]
abbrev tX5 (u : SX5) : List (ClassId × FieldType) := []
set_option maxHeartbeats 8000000 in
set_option maxRecDepth 100000 in
theorem k_X5 (l : Launch) (D : va_G) (h0 sz : Nat) : Met l yX5_init (ct_ws yX5_init cX5_init 1) ({ frames := 1, cells := 0, slots := 0, locals := 12 }) (ctPre D [.ref h0] [(h0, .inr (5, [.int 0, .int 0, .int 0, .int 0, .int 0, .int 0, .int 0, .int 0]))] sz) (ctPost D [(h0, .inr (5, [.int 0, .int 0, .int 0, .int 0, .int 0, .int 0, .int 0, .int 0]))] sz (fun u : SX5 => gX5 h0 u) (fun u => tX5 u)) 0 0 (va_A [(h0, .inr (5, [.int 0, .int 0, .int 0, .int 0, .int 0, .int 0, .int 0, .int 0]))] sz) := by
  refine Met.ofW (cc := cX5_init) (maxL := 1) (ret := none) (by decide) rfl ?_
  intro p e s m args below meth c s₁ B hml hv
  obtain ⟨rfl, hsz, hP, hK, hD0, hZ⟩ := hv
  have hx := B.exec
  have hb := B.bytes
  have hr := B.returns
  have hts0 := atoms_spec (ws := ct_ws yX5_init cX5_init 1) B.pre
  have hts : ∀ w ∈ bl_gt, w.before ([.ref h0] : List Value).toArray s = true := fun w hw => hts0 w (List.mem_cons_of_mem _ hw)
  have hown : s.vm.findClass RX5 = some m.cls := findClass_of_methodNamed B.named
  have hin : meth.name = "<init>" := (name_of_methodNamed B.named B.method).1
  subst hsz
  have hD := hD0.self (sz := s.heap.size)
  unfold ctPost
  generalize hAe : va_A [(h0, .inr (5, [.int 0, .int 0, .int 0, .int 0, .int 0, .int 0, .int 0, .int 0]))] s.heap.size = A at hD ⊢
  have hA : ∀ q : Nat, s.heap.size ≤ q → A q := fun q h => by rw [← hAe]; exact Or.inr h
  have hS : va_S A s.heap s.heap [] := va_S.rf
  have hP : va_P D vwCl [(h0, .inr (5, [.int 0, .int 0, .int 0, .int 0, .int 0, .int 0, .int 0, .int 0]))] s.heap := hP
  have hl := lv_entry ([.ref h0]) (n := 1) (Nat.le_of_ble_eq_true rfl)
  rw [lg_entry_eq]
  generalize (lg_sl ([.ref h0]) ++ List.replicate (1 - (lg_sl ([.ref h0])).length) Slot.unset).toArray = ls at hl ⊢
  have hl : lv_has ls 1 [(0, .ref h0)] := hl
  refine lv_aload_n hx hb dX5_init_0 rfl (lv_at hl 0 rfl) ?_
  refine W.objInit hx hb hown (hts _ cg_3) (hts _ cg_1) (hts _ cg_2) rfl (by rw [hml]; exact hl.1) rfl dX5_init_1 (Nat.le_of_ble_eq_true rfl) (Nat.le_of_ble_eq_true rfl) ?_
  refine W.eq (g2 := F0 m 4 ls []) rfl ?_
  exact W.vret hx hb hr (fun t ht hW => ⟨⟨(fun _ => 0, fun _ => 0), rfl, trivial, by rw [ht]; exact hP, va_K.moved hW.alike hK, hD⟩, hS.F ht⟩) hS.2.2 dX5_init_4
abbrev SX4 : Type := (Nat → Nat) × (Nat → ClassId)
abbrev gX4 (h0 : Nat) (u : SX4) : va_W := [(h0, .inr (4, [.int 0, .int 0, .int 0, .int 999]))]
abbrev tX4 (u : SX4) : List (ClassId × FieldType) := []
set_option maxHeartbeats 8000000 in
set_option maxRecDepth 100000 in
theorem k_X4 (l : Launch) (D : va_G) (h0 sz : Nat) : Met l yX4_init (ct_ws yX4_init cX4_init 1) ({ frames := 1, cells := 0, slots := 0, locals := 12 }) (ctPre D [.ref h0] [(h0, .inr (4, [.int 0, .int 0, .int 0, .int 0]))] sz) (ctPost D [(h0, .inr (4, [.int 0, .int 0, .int 0, .int 0]))] sz (fun u : SX4 => gX4 h0 u) (fun u => tX4 u)) 0 0 (va_A [(h0, .inr (4, [.int 0, .int 0, .int 0, .int 0]))] sz) := by
  refine Met.ofW (cc := cX4_init) (maxL := 1) (ret := none) (by decide) rfl ?_
  intro p e s m args below meth c s₁ B hml hv
  obtain ⟨rfl, hsz, hP, hK, hD0, hZ⟩ := hv
  have hx := B.exec
  have hb := B.bytes
  have hr := B.returns
  have hts0 := atoms_spec (ws := ct_ws yX4_init cX4_init 1) B.pre
  have hts : ∀ w ∈ bl_gt, w.before ([.ref h0] : List Value).toArray s = true := fun w hw => hts0 w (List.mem_cons_of_mem _ hw)
  have hown : s.vm.findClass RX4 = some m.cls := findClass_of_methodNamed B.named
  have hin : meth.name = "<init>" := (name_of_methodNamed B.named B.method).1
  subst hsz
  have hD := hD0.self (sz := s.heap.size)
  unfold ctPost
  generalize hAe : va_A [(h0, .inr (4, [.int 0, .int 0, .int 0, .int 0]))] s.heap.size = A at hD ⊢
  have hA : ∀ q : Nat, s.heap.size ≤ q → A q := fun q h => by rw [← hAe]; exact Or.inr h
  have hS : va_S A s.heap s.heap [] := va_S.rf
  have hP : va_P D vwCl [(h0, .inr (4, [.int 0, .int 0, .int 0, .int 0]))] s.heap := hP
  have hl := lv_entry ([.ref h0]) (n := 1) (Nat.le_of_ble_eq_true rfl)
  rw [lg_entry_eq]
  generalize (lg_sl ([.ref h0]) ++ List.replicate (1 - (lg_sl ([.ref h0])).length) Slot.unset).toArray = ls at hl ⊢
  have hl : lv_has ls 1 [(0, .ref h0)] := hl
  refine lv_aload_n hx hb dX4_init_0 rfl (lv_at hl 0 rfl) ?_
  refine W.objInit hx hb hown (hts _ cg_4) (hts _ cg_1) (hts _ cg_2) rfl (by rw [hml]; exact hl.1) rfl dX4_init_1 (Nat.le_of_ble_eq_true rfl) (Nat.le_of_ble_eq_true rfl) ?_
  refine W.eq (g2 := F0 m 4 ls []) rfl ?_
  refine lv_aload_n hx hb dX4_init_4 rfl (lv_at hl 0 rfl) ?_
  refine lv_sipush (v := 999) hx hb dX4_init_5 (by decide) ?_
  refine va_put (D := D) (ci := 4) (v := .int 999) (ty := .int) (C := RX4) (T := TX4) (N := 4) hx hb hts (bl_cls_ws 4 RX4 TX4 4 rfl) tyX4 tyX4_ok nmX4 hown hK hP hD hS 0 rfl rfl 3 (by decide) (hts _ cg_5) (fun _ h9 => h9) rfl (by decide +kernel) rfl rfl (Nat.le_of_ble_eq_true rfl) dX4_init_8 (fun H locs hP hD hS => ?_)
  have hP : va_P D vwCl [(h0, .inr (4, [.int 0, .int 0, .int 0, .int 999]))] H := hP
  have hD : va_D A [(h0, .inr (4, [.int 0, .int 0, .int 0, .int 999]))] := hD
  exact W.vret hx hb hr (fun t ht hW => ⟨⟨(fun _ => 0, fun _ => 0), rfl, trivial, by rw [ht]; exact hP, va_K.moved hW.alike hK, hD⟩, hS.F ht⟩) hS.2.2 dX4_init_11
abbrev SX3 : Type := (Nat → Nat) × (Nat → ClassId)
abbrev gX3 (h0 : Nat) (u : SX3) : va_W := [(h0, .inr (3, [.ref (u.1 0), .ref (u.1 1), .ref (u.1 2), .int 0, .int 0, .int 0, .int 0])), ((u.1 0), .inr (4, [.int 0, .int 0, .int 0, .int 999])), ((u.1 1), .inl ((u.2 0), 6, .inr (.inr (.inr (.inr (va_up (va_up (va_up (va_up (va_up (va_up (fun _ => none) 0 (some (u.1 3))) 1 (some (u.1 4))) 2 (some (u.1 5))) 3 (some (u.1 6))) 4 (some (u.1 7))) 5 (some (u.1 8)))))))), ((u.1 2), .inl ((u.2 1), 4, .inr (.inr (.inr (.inr (va_up (va_up (va_up (va_up (fun _ => none) 0 (some (u.1 9))) 1 (some (u.1 10))) 2 (some (u.1 11))) 3 (some (u.1 12)))))))), ((u.1 3), .inr (1, [.int 0, .int 0, .int 0, .int 0, .int 0, .int 0])), ((u.1 4), .inr (1, [.int 0, .int 0, .int 0, .int 0, .int 0, .int 0])), ((u.1 5), .inr (1, [.int 0, .int 0, .int 0, .int 0, .int 0, .int 0])), ((u.1 6), .inr (1, [.int 0, .int 0, .int 0, .int 0, .int 0, .int 0])), ((u.1 7), .inr (1, [.int 0, .int 0, .int 0, .int 0, .int 0, .int 0])), ((u.1 8), .inr (1, [.int 0, .int 0, .int 0, .int 0, .int 0, .int 0])), ((u.1 9), .inr (5, [.int 0, .int 0, .int 0, .int 0, .int 0, .int 0, .int 0, .int 0])), ((u.1 10), .inr (5, [.int 0, .int 0, .int 0, .int 0, .int 0, .int 0, .int 0, .int 0])), ((u.1 11), .inr (5, [.int 0, .int 0, .int 0, .int 0, .int 0, .int 0, .int 0, .int 0])), ((u.1 12), .inr (5, [.int 0, .int 0, .int 0, .int 0, .int 0, .int 0, .int 0, .int 0]))]
abbrev tX3 (u : SX3) : List (ClassId × FieldType) := [((u.2 0), .object RX1), ((u.2 1), .object RX5)]
set_option maxHeartbeats 8000000 in
set_option maxRecDepth 100000 in
theorem k_X3 (l : Launch) (D : va_G) (h0 sz : Nat) : Met l yX3_init (ct_ws yX3_init cX3_init 2) ({ frames := 2, cells := 13, slots := 82, locals := 32 }) (ctPre D [.ref h0] [(h0, .inr (3, [.null, .null, .null, .int 0, .int 0, .int 0, .int 0]))] sz) (ctPost D [(h0, .inr (3, [.null, .null, .null, .int 0, .int 0, .int 0, .int 0]))] sz (fun u : SX3 => gX3 h0 u) (fun u => tX3 u)) 13 82 (va_A [(h0, .inr (3, [.null, .null, .null, .int 0, .int 0, .int 0, .int 0]))] sz) := by
  refine Met.ofW (cc := cX3_init) (maxL := 2) (ret := none) (by decide) rfl ?_
  intro p e s m args below meth c s₁ B hml hv
  obtain ⟨rfl, hsz, hP, hK, hD0, hZ⟩ := hv
  have hx := B.exec
  have hb := B.bytes
  have hr := B.returns
  have hts0 := atoms_spec (ws := ct_ws yX3_init cX3_init 2) B.pre
  have hts : ∀ w ∈ bl_gt, w.before ([.ref h0] : List Value).toArray s = true := fun w hw => hts0 w (List.mem_cons_of_mem _ hw)
  have hown : s.vm.findClass RX3 = some m.cls := findClass_of_methodNamed B.named
  have hin : meth.name = "<init>" := (name_of_methodNamed B.named B.method).1
  subst hsz
  have hD := hD0.self (sz := s.heap.size)
  unfold ctPost
  generalize hAe : va_A [(h0, .inr (3, [.null, .null, .null, .int 0, .int 0, .int 0, .int 0]))] s.heap.size = A at hD ⊢
  have hA : ∀ q : Nat, s.heap.size ≤ q → A q := fun q h => by rw [← hAe]; exact Or.inr h
  have hS : va_S A s.heap s.heap [] := va_S.rf
  have hP : va_P D vwCl [(h0, .inr (3, [.null, .null, .null, .int 0, .int 0, .int 0, .int 0]))] s.heap := hP
  have hl := lv_entry ([.ref h0]) (n := 2) (Nat.le_of_ble_eq_true rfl)
  rw [lg_entry_eq]
  generalize (lg_sl ([.ref h0]) ++ List.replicate (2 - (lg_sl ([.ref h0])).length) Slot.unset).toArray = ls at hl ⊢
  have hl : lv_has ls 2 [(0, .ref h0)] := hl
  refine lv_aload_n hx hb dX3_init_0 rfl (lv_at hl 0 rfl) ?_
  refine W.objInit hx hb hown (hts _ cg_6) (hts _ cg_1) (hts _ cg_2) rfl (by rw [hml]; exact hl.1) rfl dX3_init_1 (Nat.le_of_ble_eq_true rfl) (Nat.le_of_ble_eq_true rfl) ?_
  refine W.eq (g2 := F0 m 4 ls []) rfl ?_
  refine lv_aload_n hx hb dX3_init_4 rfl (lv_at hl 0 rfl) ?_
  refine va_new (ci := 4) (fs := [.int 0, .int 0, .int 0, .int 0]) (C := RX4) (T := TX4) (N := 4) hx hb hts (bl_cls_ws 4 RX4 TX4 4 rfl) tyX4 tyX4_ok hown (hts _ cg_7) (hts _ cg_8) (hts _ cg_9) hK hP hD hS hA rfl (by decide +kernel) (Nat.le_of_ble_eq_true rfl) (Nat.le_of_ble_eq_true rfl) dX3_init_5 (fun q1 H hP hD hS => ?_)
  have hP : va_P D vwCl [(h0, .inr (3, [.null, .null, .null, .int 0, .int 0, .int 0, .int 0])), (q1, .inr (4, [.int 0, .int 0, .int 0, .int 0]))] H := hP
  have hD : va_D A [(h0, .inr (3, [.null, .null, .null, .int 0, .int 0, .int 0, .int 0])), (q1, .inr (4, [.int 0, .int 0, .int 0, .int 0]))] := hD
  refine W.widen (k := 1) (n := 4) (Nat.le_of_ble_eq_true rfl) (Nat.le_of_ble_eq_true rfl) ?_
  refine lv_dup hx hb dX3_init_8 rfl ?_
  have hPc := hP.sub (ws' := [(q1, .inr (4, [.int 0, .int 0, .int 0, .int 0]))]) [1] rfl
  have hDc := hD.sub (ws' := [(q1, .inr (4, [.int 0, .int 0, .int 0, .int 0]))]) [1] (by decide) rfl
  have hKc := hK.sub (tys' := []) [] rfl
  have hFc := va_free (wc := [(q1, .inr (4, [.int 0, .int 0, .int 0, .int 0]))]) hD hS hA [1] rfl
  refine va_callv (va_runIN (As := []) (rest := [.ref q1, .ref h0]) ⟨hx, hb, hml, hown, hts⟩ (k_X4 l D q1 H.size) ⟨va_cnB 0 hts (ct_good cg_10) rfl rfl rfl (hZ.1 _ (List.mem_of_getElem? (i := 1) rfl)) (hts _ cg_9) (by decide +kernel) ⟨Nat.le_of_ble_eq_true rfl, Nat.le_of_ble_eq_true rfl⟩, rfl, hts _ cg_11⟩ ⟨ct_blind, fun U hU hW => ⟨rfl, by rw [hU], by rw [hU]; exact hPc, va_K.moved hW.alike hKc, hDc.weaken (fun _ _ _ _ => trivial), hZ.warm hW⟩⟩ rfl rfl hl.1 rfl (lv_room (Nat.le_of_ble_eq_true rfl)) dX3_init_9 ⟨Nat.le_of_ble_eq_true rfl, Nat.le_of_ble_eq_true rfl⟩) hS (fun q _ h => hFc q h) hFc (fun u_q1 t H1 locs ht hvm hw hB hz1 hk1 hS => ?_)
  obtain ⟨hP1, hK1, hD1⟩ := hB
  rw [ht] at hP1
  have hK1 := va_K.moved hvm.symm hK1
  obtain ⟨hP, hD⟩ := va_join (wr := [(h0, .inr (3, [.null, .null, .null, .int 0, .int 0, .int 0, .int 0]))]) (w1 := (gX4 q1 u_q1)) hP hD [1] [0] rfl rfl (by decide +kernel) (by decide +kernel) hk1 hFc hP1 hD1
  have hK := (hK.sub (tys' := []) [] rfl).app hK1
  generalize H1 = H at hP hS ⊢
  have hP : va_P D vwCl [(h0, .inr (3, [.null, .null, .null, .int 0, .int 0, .int 0, .int 0])), (q1, .inr (4, [.int 0, .int 0, .int 0, .int 999]))] H := hP
  have hD : va_D A [(h0, .inr (3, [.null, .null, .null, .int 0, .int 0, .int 0, .int 0])), (q1, .inr (4, [.int 0, .int 0, .int 0, .int 999]))] := hD
  have hK : va_K D vwCl [] s := hK
  refine W.widen (k := 1) (n := 4) (Nat.le_of_ble_eq_true rfl) (Nat.le_of_ble_eq_true rfl) ?_
  refine va_putF (D := D) (ci := 3) (v := .ref q1) (ty := (.object "BerryLane$Law")) (C := RX3) (T := TX3) (N := 7) hx hb hts (bl_cls_ws 3 RX3 TX3 7 rfl) tyX3 tyX3_ok nmX3 hown hK hP hD hS 0 rfl rfl 0 (by decide) (hts _ cg_12) (fun _ h9 => h9) rfl hin rfl (by decide +kernel) rfl rfl (Nat.le_of_ble_eq_true rfl) dX3_init_12 (fun H locs hP hD hS => ?_)
  have hP : va_P D vwCl [(h0, .inr (3, [.ref q1, .null, .null, .int 0, .int 0, .int 0, .int 0])), (q1, .inr (4, [.int 0, .int 0, .int 0, .int 999]))] H := hP
  have hD : va_D A [(h0, .inr (3, [.ref q1, .null, .null, .int 0, .int 0, .int 0, .int 0])), (q1, .inr (4, [.int 0, .int 0, .int 0, .int 999]))] := hD
  refine lv_aload_n hx hb dX3_init_15 rfl (lv_at hl 0 rfl) ?_
  refine lv_bipush (v := 6) hx hb dX3_init_16 (by decide) ?_
  refine va_newq (C := RX1) (N' := 6) hx hb hown (hts _ cg_13) hZ.2.1 hK hP hD hS hA (by decide) (by decide) (by decide) (Nat.le_of_ble_eq_true rfl) (Nat.le_of_ble_eq_true rfl) dX3_init_18 (fun q2 c2 H hK hP hD hS => ?_)
  have hP : va_P D vwCl [(h0, .inr (3, [.ref q1, .null, .null, .int 0, .int 0, .int 0, .int 0])), (q1, .inr (4, [.int 0, .int 0, .int 0, .int 999])), (q2, .inl (c2, 6, .inr (.inr (.inr (.inr (fun _ => none))))))] H := hP
  have hD : va_D A [(h0, .inr (3, [.ref q1, .null, .null, .int 0, .int 0, .int 0, .int 0])), (q1, .inr (4, [.int 0, .int 0, .int 0, .int 999])), (q2, .inl (c2, 6, .inr (.inr (.inr (.inr (fun _ => none))))))] := hD
  have hK : va_K D vwCl [(c2, .object RX1)] s := hK
  refine W.widen (k := 2) (n := 10) (Nat.le_of_ble_eq_true rfl) (Nat.le_of_ble_eq_true rfl) ?_
  refine va_putF (D := D) (ci := 3) (v := .ref q2) (ty := (.array (.object "BerryLane$Bush"))) (C := RX3) (T := TX3) (N := 7) hx hb hts (bl_cls_ws 3 RX3 TX3 7 rfl) tyX3 tyX3_ok nmX3 hown hK hP hD hS 0 rfl rfl 1 (by decide) (hts _ cg_14) (fun _ h9 => h9) rfl hin rfl (by decide +kernel) rfl rfl (Nat.le_of_ble_eq_true rfl) dX3_init_21 (fun H locs hP hD hS => ?_)
  have hP : va_P D vwCl [(h0, .inr (3, [.ref q1, .ref q2, .null, .int 0, .int 0, .int 0, .int 0])), (q1, .inr (4, [.int 0, .int 0, .int 0, .int 999])), (q2, .inl (c2, 6, .inr (.inr (.inr (.inr (fun _ => none))))))] H := hP
  have hD : va_D A [(h0, .inr (3, [.ref q1, .ref q2, .null, .int 0, .int 0, .int 0, .int 0])), (q1, .inr (4, [.int 0, .int 0, .int 0, .int 999])), (q2, .inl (c2, 6, .inr (.inr (.inr (.inr (fun _ => none))))))] := hD
  refine lv_aload_n hx hb dX3_init_24 rfl (lv_at hl 0 rfl) ?_
  refine lv_iconst (v := 4) hx hb dX3_init_25 (by decide) ?_
  refine va_newq (C := RX5) (N' := 4) hx hb hown (hts _ cg_15) hZ.2.2.1 hK hP hD hS hA (by decide) (by decide) (by decide) (Nat.le_of_ble_eq_true rfl) (Nat.le_of_ble_eq_true rfl) dX3_init_26 (fun q3 c3 H hK hP hD hS => ?_)
  have hP : va_P D vwCl [(h0, .inr (3, [.ref q1, .ref q2, .null, .int 0, .int 0, .int 0, .int 0])), (q1, .inr (4, [.int 0, .int 0, .int 0, .int 999])), (q2, .inl (c2, 6, .inr (.inr (.inr (.inr (fun _ => none)))))), (q3, .inl (c3, 4, .inr (.inr (.inr (.inr (fun _ => none))))))] H := hP
  have hD : va_D A [(h0, .inr (3, [.ref q1, .ref q2, .null, .int 0, .int 0, .int 0, .int 0])), (q1, .inr (4, [.int 0, .int 0, .int 0, .int 999])), (q2, .inl (c2, 6, .inr (.inr (.inr (.inr (fun _ => none)))))), (q3, .inl (c3, 4, .inr (.inr (.inr (.inr (fun _ => none))))))] := hD
  have hK : va_K D vwCl [(c2, .object RX1), (c3, .object RX5)] s := hK
  refine W.widen (k := 3) (n := 14) (Nat.le_of_ble_eq_true rfl) (Nat.le_of_ble_eq_true rfl) ?_
  refine va_putF (D := D) (ci := 3) (v := .ref q3) (ty := (.array (.object "BerryLane$Picker"))) (C := RX3) (T := TX3) (N := 7) hx hb hts (bl_cls_ws 3 RX3 TX3 7 rfl) tyX3 tyX3_ok nmX3 hown hK hP hD hS 0 rfl rfl 2 (by decide) (hts _ cg_16) (fun _ h9 => h9) rfl hin rfl (by decide +kernel) rfl rfl (Nat.le_of_ble_eq_true rfl) dX3_init_29 (fun H locs hP hD hS => ?_)
  have hP : va_P D vwCl [(h0, .inr (3, [.ref q1, .ref q2, .ref q3, .int 0, .int 0, .int 0, .int 0])), (q1, .inr (4, [.int 0, .int 0, .int 0, .int 999])), (q2, .inl (c2, 6, .inr (.inr (.inr (.inr (fun _ => none)))))), (q3, .inl (c3, 4, .inr (.inr (.inr (.inr (fun _ => none))))))] H := hP
  have hD : va_D A [(h0, .inr (3, [.ref q1, .ref q2, .ref q3, .int 0, .int 0, .int 0, .int 0])), (q1, .inr (4, [.int 0, .int 0, .int 0, .int 999])), (q2, .inl (c2, 6, .inr (.inr (.inr (.inr (fun _ => none)))))), (q3, .inl (c3, 4, .inr (.inr (.inr (.inr (fun _ => none))))))] := hD
  refine lv_iconst (v := 0) hx hb dX3_init_32 (by decide) ?_
  refine lv_istore_n (lv' := [(1, .int 0), (0, .ref h0)]) hx hb dX3_init_33 rfl hl (by decide) rfl (fun ls hl => ?_)
  refine lv_iload_n hx hb dX3_init_34 rfl (lv_at hl 0 rfl) ?_
  refine lv_bipush (v := 6) hx hb dX3_init_35 (by decide) ?_
  refine lv_icmp_ge (tgt := 59) hx hb dX3_init_37 (by decide) (fun z => absurd z (by decide)) (fun _ => ?_)
  refine lv_aload_n hx hb dX3_init_40 rfl (lv_at hl 1 rfl) ?_
  refine va_get (D := D) (ci := 3) (v := .ref q2) (C := RX3) (T := TX3) (N := 7) hx hb hts (bl_cls_ws 3 RX3 TX3 7 rfl) hown hK hP 0 rfl rfl 1 (by decide) (hts _ cg_14) (fun _ h9 => h9) rfl dX3_init_41 ?_
  refine lv_iload_n hx hb dX3_init_44 rfl (lv_at hl 0 rfl) ?_
  refine va_new (ci := 1) (fs := [.int 0, .int 0, .int 0, .int 0, .int 0, .int 0]) (C := RX1) (T := TX1) (N := 6) hx hb hts (bl_cls_ws 1 RX1 TX1 6 rfl) tyX1 tyX1_ok hown (hts _ cg_13) (hts _ cg_17) (hts _ cg_18) hK hP hD hS hA rfl (by decide +kernel) (Nat.le_of_ble_eq_true rfl) (Nat.le_of_ble_eq_true rfl) dX3_init_45 (fun q4 H hP hD hS => ?_)
  have hP : va_P D vwCl [(h0, .inr (3, [.ref q1, .ref q2, .ref q3, .int 0, .int 0, .int 0, .int 0])), (q1, .inr (4, [.int 0, .int 0, .int 0, .int 999])), (q2, .inl (c2, 6, .inr (.inr (.inr (.inr (fun _ => none)))))), (q3, .inl (c3, 4, .inr (.inr (.inr (.inr (fun _ => none)))))), (q4, .inr (1, [.int 0, .int 0, .int 0, .int 0, .int 0, .int 0]))] H := hP
  have hD : va_D A [(h0, .inr (3, [.ref q1, .ref q2, .ref q3, .int 0, .int 0, .int 0, .int 0])), (q1, .inr (4, [.int 0, .int 0, .int 0, .int 999])), (q2, .inl (c2, 6, .inr (.inr (.inr (.inr (fun _ => none)))))), (q3, .inl (c3, 4, .inr (.inr (.inr (.inr (fun _ => none)))))), (q4, .inr (1, [.int 0, .int 0, .int 0, .int 0, .int 0, .int 0]))] := hD
  refine W.widen (k := 4) (n := 20) (Nat.le_of_ble_eq_true rfl) (Nat.le_of_ble_eq_true rfl) ?_
  refine lv_dup hx hb dX3_init_48 rfl ?_
  have hPc := hP.sub (ws' := [(q4, .inr (1, [.int 0, .int 0, .int 0, .int 0, .int 0, .int 0]))]) [4] rfl
  have hDc := hD.sub (ws' := [(q4, .inr (1, [.int 0, .int 0, .int 0, .int 0, .int 0, .int 0]))]) [4] (by decide) rfl
  have hKc := hK.sub (tys' := []) [] rfl
  have hFc := va_free (wc := [(q4, .inr (1, [.int 0, .int 0, .int 0, .int 0, .int 0, .int 0]))]) hD hS hA [4] rfl
  refine va_callv (va_runIN (As := []) (rest := [.ref q4, .int 0, .ref q2]) ⟨hx, hb, hml, hown, hts⟩ (k_X1 l D q4 H.size) ⟨va_cnB 0 hts (ct_good cg_19) rfl rfl rfl (hZ.1 _ (List.mem_of_getElem? (i := 2) rfl)) (hts _ cg_18) (by decide +kernel) ⟨Nat.le_of_ble_eq_true rfl, Nat.le_of_ble_eq_true rfl⟩, rfl, hts _ cg_20⟩ ⟨ct_blind, fun U hU hW => ⟨rfl, by rw [hU], by rw [hU]; exact hPc, va_K.moved hW.alike hKc, hDc.weaken (fun _ _ _ _ => trivial), hZ.warm hW⟩⟩ rfl rfl hl.1 rfl (lv_room (Nat.le_of_ble_eq_true rfl)) dX3_init_49 ⟨Nat.le_of_ble_eq_true rfl, Nat.le_of_ble_eq_true rfl⟩) hS (fun q _ h => hFc q h) hFc (fun u_q4 t H1 locs ht hvm hw hB hz1 hk1 hS => ?_)
  obtain ⟨hP1, hK1, hD1⟩ := hB
  rw [ht] at hP1
  have hK1 := va_K.moved hvm.symm hK1
  obtain ⟨hP, hD⟩ := va_join (wr := [(h0, .inr (3, [.ref q1, .ref q2, .ref q3, .int 0, .int 0, .int 0, .int 0])), (q1, .inr (4, [.int 0, .int 0, .int 0, .int 999])), (q2, .inl (c2, 6, .inr (.inr (.inr (.inr (fun _ => none)))))), (q3, .inl (c3, 4, .inr (.inr (.inr (.inr (fun _ => none))))))]) (w1 := (gX1 q4 u_q4)) hP hD [4] [0, 1, 2, 3] rfl rfl (by decide +kernel) (by decide +kernel) hk1 hFc hP1 hD1
  have hK := (hK.sub (tys' := [(c2, .object RX1), (c3, .object RX5)]) [0, 1] rfl).app hK1
  generalize H1 = H at hP hS ⊢
  have hP : va_P D vwCl [(h0, .inr (3, [.ref q1, .ref q2, .ref q3, .int 0, .int 0, .int 0, .int 0])), (q1, .inr (4, [.int 0, .int 0, .int 0, .int 999])), (q2, .inl (c2, 6, .inr (.inr (.inr (.inr (fun _ => none)))))), (q3, .inl (c3, 4, .inr (.inr (.inr (.inr (fun _ => none)))))), (q4, .inr (1, [.int 0, .int 0, .int 0, .int 0, .int 0, .int 0]))] H := hP
  have hD : va_D A [(h0, .inr (3, [.ref q1, .ref q2, .ref q3, .int 0, .int 0, .int 0, .int 0])), (q1, .inr (4, [.int 0, .int 0, .int 0, .int 999])), (q2, .inl (c2, 6, .inr (.inr (.inr (.inr (fun _ => none)))))), (q3, .inl (c3, 4, .inr (.inr (.inr (.inr (fun _ => none)))))), (q4, .inr (1, [.int 0, .int 0, .int 0, .int 0, .int 0, .int 0]))] := hD
  have hK : va_K D vwCl [(c2, .object RX1), (c3, .object RX5)] s := hK
  refine W.widen (k := 4) (n := 20) (Nat.le_of_ble_eq_true rfl) (Nat.le_of_ble_eq_true rfl) ?_
  refine va_astq hx hb hK hP hD hS 2 0 4 1 (r := (RX1, TX1, 6)) rfl rfl rfl rfl (vp_in_nI (n := 0) (by omega) (by omega)) dX3_init_52 (fun H locs hP hD hS => ?_)
  have hP : va_P D vwCl [(h0, .inr (3, [.ref q1, .ref q2, .ref q3, .int 0, .int 0, .int 0, .int 0])), (q1, .inr (4, [.int 0, .int 0, .int 0, .int 999])), (q2, .inl (c2, 6, .inr (.inr (.inr (.inr (va_up (fun _ => none) 0 (some q4))))))), (q3, .inl (c3, 4, .inr (.inr (.inr (.inr (fun _ => none)))))), (q4, .inr (1, [.int 0, .int 0, .int 0, .int 0, .int 0, .int 0]))] H := hP
  have hD : va_D A [(h0, .inr (3, [.ref q1, .ref q2, .ref q3, .int 0, .int 0, .int 0, .int 0])), (q1, .inr (4, [.int 0, .int 0, .int 0, .int 999])), (q2, .inl (c2, 6, .inr (.inr (.inr (.inr (va_up (fun _ => none) 0 (some q4))))))), (q3, .inl (c3, 4, .inr (.inr (.inr (.inr (fun _ => none)))))), (q4, .inr (1, [.int 0, .int 0, .int 0, .int 0, .int 0, .int 0]))] := hD
  refine lv_iinc (v := 1) (lv' := [(1, .int 1), (0, .ref h0)]) hx hb dX3_init_53 hl (k := 0) rfl (by decide) (by decide) rfl (fun ls hl => ?_)
  refine lv_goto (tgt := 34) hx hb dX3_init_56 (by decide) ?_
  refine lv_iload_n hx hb dX3_init_34 rfl (lv_at hl 0 rfl) ?_
  refine lv_bipush (v := 6) hx hb dX3_init_35 (by decide) ?_
  refine lv_icmp_ge (tgt := 59) hx hb dX3_init_37 (by decide) (fun z => absurd z (by decide)) (fun _ => ?_)
  refine lv_aload_n hx hb dX3_init_40 rfl (lv_at hl 1 rfl) ?_
  refine va_get (D := D) (ci := 3) (v := .ref q2) (C := RX3) (T := TX3) (N := 7) hx hb hts (bl_cls_ws 3 RX3 TX3 7 rfl) hown hK hP 0 rfl rfl 1 (by decide) (hts _ cg_14) (fun _ h9 => h9) rfl dX3_init_41 ?_
  refine lv_iload_n hx hb dX3_init_44 rfl (lv_at hl 0 rfl) ?_
  refine va_new (ci := 1) (fs := [.int 0, .int 0, .int 0, .int 0, .int 0, .int 0]) (C := RX1) (T := TX1) (N := 6) hx hb hts (bl_cls_ws 1 RX1 TX1 6 rfl) tyX1 tyX1_ok hown (hts _ cg_13) (hts _ cg_17) (hts _ cg_18) hK hP hD hS hA rfl (by decide +kernel) (Nat.le_of_ble_eq_true rfl) (Nat.le_of_ble_eq_true rfl) dX3_init_45 (fun q5 H hP hD hS => ?_)
  have hP : va_P D vwCl [(h0, .inr (3, [.ref q1, .ref q2, .ref q3, .int 0, .int 0, .int 0, .int 0])), (q1, .inr (4, [.int 0, .int 0, .int 0, .int 999])), (q2, .inl (c2, 6, .inr (.inr (.inr (.inr (va_up (fun _ => none) 0 (some q4))))))), (q3, .inl (c3, 4, .inr (.inr (.inr (.inr (fun _ => none)))))), (q4, .inr (1, [.int 0, .int 0, .int 0, .int 0, .int 0, .int 0])), (q5, .inr (1, [.int 0, .int 0, .int 0, .int 0, .int 0, .int 0]))] H := hP
  have hD : va_D A [(h0, .inr (3, [.ref q1, .ref q2, .ref q3, .int 0, .int 0, .int 0, .int 0])), (q1, .inr (4, [.int 0, .int 0, .int 0, .int 999])), (q2, .inl (c2, 6, .inr (.inr (.inr (.inr (va_up (fun _ => none) 0 (some q4))))))), (q3, .inl (c3, 4, .inr (.inr (.inr (.inr (fun _ => none)))))), (q4, .inr (1, [.int 0, .int 0, .int 0, .int 0, .int 0, .int 0])), (q5, .inr (1, [.int 0, .int 0, .int 0, .int 0, .int 0, .int 0]))] := hD
  refine W.widen (k := 5) (n := 26) (Nat.le_of_ble_eq_true rfl) (Nat.le_of_ble_eq_true rfl) ?_
  refine lv_dup hx hb dX3_init_48 rfl ?_
  have hPc := hP.sub (ws' := [(q5, .inr (1, [.int 0, .int 0, .int 0, .int 0, .int 0, .int 0]))]) [5] rfl
  have hDc := hD.sub (ws' := [(q5, .inr (1, [.int 0, .int 0, .int 0, .int 0, .int 0, .int 0]))]) [5] (by decide) rfl
  have hKc := hK.sub (tys' := []) [] rfl
  have hFc := va_free (wc := [(q5, .inr (1, [.int 0, .int 0, .int 0, .int 0, .int 0, .int 0]))]) hD hS hA [5] rfl
  refine va_callv (va_runIN (As := []) (rest := [.ref q5, .int 1, .ref q2]) ⟨hx, hb, hml, hown, hts⟩ (k_X1 l D q5 H.size) ⟨va_cnB 0 hts (ct_good cg_19) rfl rfl rfl (hZ.1 _ (List.mem_of_getElem? (i := 2) rfl)) (hts _ cg_18) (by decide +kernel) ⟨Nat.le_of_ble_eq_true rfl, Nat.le_of_ble_eq_true rfl⟩, rfl, hts _ cg_20⟩ ⟨ct_blind, fun U hU hW => ⟨rfl, by rw [hU], by rw [hU]; exact hPc, va_K.moved hW.alike hKc, hDc.weaken (fun _ _ _ _ => trivial), hZ.warm hW⟩⟩ rfl rfl hl.1 rfl (lv_room (Nat.le_of_ble_eq_true rfl)) dX3_init_49 ⟨Nat.le_of_ble_eq_true rfl, Nat.le_of_ble_eq_true rfl⟩) hS (fun q _ h => hFc q h) hFc (fun u_q5 t H1 locs ht hvm hw hB hz1 hk1 hS => ?_)
  obtain ⟨hP1, hK1, hD1⟩ := hB
  rw [ht] at hP1
  have hK1 := va_K.moved hvm.symm hK1
  obtain ⟨hP, hD⟩ := va_join (wr := [(h0, .inr (3, [.ref q1, .ref q2, .ref q3, .int 0, .int 0, .int 0, .int 0])), (q1, .inr (4, [.int 0, .int 0, .int 0, .int 999])), (q2, .inl (c2, 6, .inr (.inr (.inr (.inr (va_up (fun _ => none) 0 (some q4))))))), (q3, .inl (c3, 4, .inr (.inr (.inr (.inr (fun _ => none)))))), (q4, .inr (1, [.int 0, .int 0, .int 0, .int 0, .int 0, .int 0]))]) (w1 := (gX1 q5 u_q5)) hP hD [5] [0, 1, 2, 3, 4] rfl rfl (by decide +kernel) (by decide +kernel) hk1 hFc hP1 hD1
  have hK := (hK.sub (tys' := [(c2, .object RX1), (c3, .object RX5)]) [0, 1] rfl).app hK1
  generalize H1 = H at hP hS ⊢
  have hP : va_P D vwCl [(h0, .inr (3, [.ref q1, .ref q2, .ref q3, .int 0, .int 0, .int 0, .int 0])), (q1, .inr (4, [.int 0, .int 0, .int 0, .int 999])), (q2, .inl (c2, 6, .inr (.inr (.inr (.inr (va_up (fun _ => none) 0 (some q4))))))), (q3, .inl (c3, 4, .inr (.inr (.inr (.inr (fun _ => none)))))), (q4, .inr (1, [.int 0, .int 0, .int 0, .int 0, .int 0, .int 0])), (q5, .inr (1, [.int 0, .int 0, .int 0, .int 0, .int 0, .int 0]))] H := hP
  have hD : va_D A [(h0, .inr (3, [.ref q1, .ref q2, .ref q3, .int 0, .int 0, .int 0, .int 0])), (q1, .inr (4, [.int 0, .int 0, .int 0, .int 999])), (q2, .inl (c2, 6, .inr (.inr (.inr (.inr (va_up (fun _ => none) 0 (some q4))))))), (q3, .inl (c3, 4, .inr (.inr (.inr (.inr (fun _ => none)))))), (q4, .inr (1, [.int 0, .int 0, .int 0, .int 0, .int 0, .int 0])), (q5, .inr (1, [.int 0, .int 0, .int 0, .int 0, .int 0, .int 0]))] := hD
  have hK : va_K D vwCl [(c2, .object RX1), (c3, .object RX5)] s := hK
  refine W.widen (k := 5) (n := 26) (Nat.le_of_ble_eq_true rfl) (Nat.le_of_ble_eq_true rfl) ?_
  refine va_astq hx hb hK hP hD hS 2 0 5 1 (r := (RX1, TX1, 6)) rfl rfl rfl rfl (vp_in_nI (n := 1) (by omega) (by omega)) dX3_init_52 (fun H locs hP hD hS => ?_)
  have hP : va_P D vwCl [(h0, .inr (3, [.ref q1, .ref q2, .ref q3, .int 0, .int 0, .int 0, .int 0])), (q1, .inr (4, [.int 0, .int 0, .int 0, .int 999])), (q2, .inl (c2, 6, .inr (.inr (.inr (.inr (va_up (va_up (fun _ => none) 0 (some q4)) 1 (some q5))))))), (q3, .inl (c3, 4, .inr (.inr (.inr (.inr (fun _ => none)))))), (q4, .inr (1, [.int 0, .int 0, .int 0, .int 0, .int 0, .int 0])), (q5, .inr (1, [.int 0, .int 0, .int 0, .int 0, .int 0, .int 0]))] H := hP
  have hD : va_D A [(h0, .inr (3, [.ref q1, .ref q2, .ref q3, .int 0, .int 0, .int 0, .int 0])), (q1, .inr (4, [.int 0, .int 0, .int 0, .int 999])), (q2, .inl (c2, 6, .inr (.inr (.inr (.inr (va_up (va_up (fun _ => none) 0 (some q4)) 1 (some q5))))))), (q3, .inl (c3, 4, .inr (.inr (.inr (.inr (fun _ => none)))))), (q4, .inr (1, [.int 0, .int 0, .int 0, .int 0, .int 0, .int 0])), (q5, .inr (1, [.int 0, .int 0, .int 0, .int 0, .int 0, .int 0]))] := hD
  refine lv_iinc (v := 2) (lv' := [(1, .int 2), (0, .ref h0)]) hx hb dX3_init_53 hl (k := 0) rfl (by decide) (by decide) rfl (fun ls hl => ?_)
  refine lv_goto (tgt := 34) hx hb dX3_init_56 (by decide) ?_
  refine lv_iload_n hx hb dX3_init_34 rfl (lv_at hl 0 rfl) ?_
  refine lv_bipush (v := 6) hx hb dX3_init_35 (by decide) ?_
  refine lv_icmp_ge (tgt := 59) hx hb dX3_init_37 (by decide) (fun z => absurd z (by decide)) (fun _ => ?_)
  refine lv_aload_n hx hb dX3_init_40 rfl (lv_at hl 1 rfl) ?_
  refine va_get (D := D) (ci := 3) (v := .ref q2) (C := RX3) (T := TX3) (N := 7) hx hb hts (bl_cls_ws 3 RX3 TX3 7 rfl) hown hK hP 0 rfl rfl 1 (by decide) (hts _ cg_14) (fun _ h9 => h9) rfl dX3_init_41 ?_
  refine lv_iload_n hx hb dX3_init_44 rfl (lv_at hl 0 rfl) ?_
  refine va_new (ci := 1) (fs := [.int 0, .int 0, .int 0, .int 0, .int 0, .int 0]) (C := RX1) (T := TX1) (N := 6) hx hb hts (bl_cls_ws 1 RX1 TX1 6 rfl) tyX1 tyX1_ok hown (hts _ cg_13) (hts _ cg_17) (hts _ cg_18) hK hP hD hS hA rfl (by decide +kernel) (Nat.le_of_ble_eq_true rfl) (Nat.le_of_ble_eq_true rfl) dX3_init_45 (fun q6 H hP hD hS => ?_)
  have hP : va_P D vwCl [(h0, .inr (3, [.ref q1, .ref q2, .ref q3, .int 0, .int 0, .int 0, .int 0])), (q1, .inr (4, [.int 0, .int 0, .int 0, .int 999])), (q2, .inl (c2, 6, .inr (.inr (.inr (.inr (va_up (va_up (fun _ => none) 0 (some q4)) 1 (some q5))))))), (q3, .inl (c3, 4, .inr (.inr (.inr (.inr (fun _ => none)))))), (q4, .inr (1, [.int 0, .int 0, .int 0, .int 0, .int 0, .int 0])), (q5, .inr (1, [.int 0, .int 0, .int 0, .int 0, .int 0, .int 0])), (q6, .inr (1, [.int 0, .int 0, .int 0, .int 0, .int 0, .int 0]))] H := hP
  have hD : va_D A [(h0, .inr (3, [.ref q1, .ref q2, .ref q3, .int 0, .int 0, .int 0, .int 0])), (q1, .inr (4, [.int 0, .int 0, .int 0, .int 999])), (q2, .inl (c2, 6, .inr (.inr (.inr (.inr (va_up (va_up (fun _ => none) 0 (some q4)) 1 (some q5))))))), (q3, .inl (c3, 4, .inr (.inr (.inr (.inr (fun _ => none)))))), (q4, .inr (1, [.int 0, .int 0, .int 0, .int 0, .int 0, .int 0])), (q5, .inr (1, [.int 0, .int 0, .int 0, .int 0, .int 0, .int 0])), (q6, .inr (1, [.int 0, .int 0, .int 0, .int 0, .int 0, .int 0]))] := hD
  refine W.widen (k := 6) (n := 32) (Nat.le_of_ble_eq_true rfl) (Nat.le_of_ble_eq_true rfl) ?_
  refine lv_dup hx hb dX3_init_48 rfl ?_
  have hPc := hP.sub (ws' := [(q6, .inr (1, [.int 0, .int 0, .int 0, .int 0, .int 0, .int 0]))]) [6] rfl
  have hDc := hD.sub (ws' := [(q6, .inr (1, [.int 0, .int 0, .int 0, .int 0, .int 0, .int 0]))]) [6] (by decide) rfl
  have hKc := hK.sub (tys' := []) [] rfl
  have hFc := va_free (wc := [(q6, .inr (1, [.int 0, .int 0, .int 0, .int 0, .int 0, .int 0]))]) hD hS hA [6] rfl
  refine va_callv (va_runIN (As := []) (rest := [.ref q6, .int 2, .ref q2]) ⟨hx, hb, hml, hown, hts⟩ (k_X1 l D q6 H.size) ⟨va_cnB 0 hts (ct_good cg_19) rfl rfl rfl (hZ.1 _ (List.mem_of_getElem? (i := 2) rfl)) (hts _ cg_18) (by decide +kernel) ⟨Nat.le_of_ble_eq_true rfl, Nat.le_of_ble_eq_true rfl⟩, rfl, hts _ cg_20⟩ ⟨ct_blind, fun U hU hW => ⟨rfl, by rw [hU], by rw [hU]; exact hPc, va_K.moved hW.alike hKc, hDc.weaken (fun _ _ _ _ => trivial), hZ.warm hW⟩⟩ rfl rfl hl.1 rfl (lv_room (Nat.le_of_ble_eq_true rfl)) dX3_init_49 ⟨Nat.le_of_ble_eq_true rfl, Nat.le_of_ble_eq_true rfl⟩) hS (fun q _ h => hFc q h) hFc (fun u_q6 t H1 locs ht hvm hw hB hz1 hk1 hS => ?_)
  obtain ⟨hP1, hK1, hD1⟩ := hB
  rw [ht] at hP1
  have hK1 := va_K.moved hvm.symm hK1
  obtain ⟨hP, hD⟩ := va_join (wr := [(h0, .inr (3, [.ref q1, .ref q2, .ref q3, .int 0, .int 0, .int 0, .int 0])), (q1, .inr (4, [.int 0, .int 0, .int 0, .int 999])), (q2, .inl (c2, 6, .inr (.inr (.inr (.inr (va_up (va_up (fun _ => none) 0 (some q4)) 1 (some q5))))))), (q3, .inl (c3, 4, .inr (.inr (.inr (.inr (fun _ => none)))))), (q4, .inr (1, [.int 0, .int 0, .int 0, .int 0, .int 0, .int 0])), (q5, .inr (1, [.int 0, .int 0, .int 0, .int 0, .int 0, .int 0]))]) (w1 := (gX1 q6 u_q6)) hP hD [6] [0, 1, 2, 3, 4, 5] rfl rfl (by decide +kernel) (by decide +kernel) hk1 hFc hP1 hD1
  have hK := (hK.sub (tys' := [(c2, .object RX1), (c3, .object RX5)]) [0, 1] rfl).app hK1
  generalize H1 = H at hP hS ⊢
  have hP : va_P D vwCl [(h0, .inr (3, [.ref q1, .ref q2, .ref q3, .int 0, .int 0, .int 0, .int 0])), (q1, .inr (4, [.int 0, .int 0, .int 0, .int 999])), (q2, .inl (c2, 6, .inr (.inr (.inr (.inr (va_up (va_up (fun _ => none) 0 (some q4)) 1 (some q5))))))), (q3, .inl (c3, 4, .inr (.inr (.inr (.inr (fun _ => none)))))), (q4, .inr (1, [.int 0, .int 0, .int 0, .int 0, .int 0, .int 0])), (q5, .inr (1, [.int 0, .int 0, .int 0, .int 0, .int 0, .int 0])), (q6, .inr (1, [.int 0, .int 0, .int 0, .int 0, .int 0, .int 0]))] H := hP
  have hD : va_D A [(h0, .inr (3, [.ref q1, .ref q2, .ref q3, .int 0, .int 0, .int 0, .int 0])), (q1, .inr (4, [.int 0, .int 0, .int 0, .int 999])), (q2, .inl (c2, 6, .inr (.inr (.inr (.inr (va_up (va_up (fun _ => none) 0 (some q4)) 1 (some q5))))))), (q3, .inl (c3, 4, .inr (.inr (.inr (.inr (fun _ => none)))))), (q4, .inr (1, [.int 0, .int 0, .int 0, .int 0, .int 0, .int 0])), (q5, .inr (1, [.int 0, .int 0, .int 0, .int 0, .int 0, .int 0])), (q6, .inr (1, [.int 0, .int 0, .int 0, .int 0, .int 0, .int 0]))] := hD
  have hK : va_K D vwCl [(c2, .object RX1), (c3, .object RX5)] s := hK
  refine W.widen (k := 6) (n := 32) (Nat.le_of_ble_eq_true rfl) (Nat.le_of_ble_eq_true rfl) ?_
  refine va_astq hx hb hK hP hD hS 2 0 6 1 (r := (RX1, TX1, 6)) rfl rfl rfl rfl (vp_in_nI (n := 2) (by omega) (by omega)) dX3_init_52 (fun H locs hP hD hS => ?_)
  have hP : va_P D vwCl [(h0, .inr (3, [.ref q1, .ref q2, .ref q3, .int 0, .int 0, .int 0, .int 0])), (q1, .inr (4, [.int 0, .int 0, .int 0, .int 999])), (q2, .inl (c2, 6, .inr (.inr (.inr (.inr (va_up (va_up (va_up (fun _ => none) 0 (some q4)) 1 (some q5)) 2 (some q6))))))), (q3, .inl (c3, 4, .inr (.inr (.inr (.inr (fun _ => none)))))), (q4, .inr (1, [.int 0, .int 0, .int 0, .int 0, .int 0, .int 0])), (q5, .inr (1, [.int 0, .int 0, .int 0, .int 0, .int 0, .int 0])), (q6, .inr (1, [.int 0, .int 0, .int 0, .int 0, .int 0, .int 0]))] H := hP
  have hD : va_D A [(h0, .inr (3, [.ref q1, .ref q2, .ref q3, .int 0, .int 0, .int 0, .int 0])), (q1, .inr (4, [.int 0, .int 0, .int 0, .int 999])), (q2, .inl (c2, 6, .inr (.inr (.inr (.inr (va_up (va_up (va_up (fun _ => none) 0 (some q4)) 1 (some q5)) 2 (some q6))))))), (q3, .inl (c3, 4, .inr (.inr (.inr (.inr (fun _ => none)))))), (q4, .inr (1, [.int 0, .int 0, .int 0, .int 0, .int 0, .int 0])), (q5, .inr (1, [.int 0, .int 0, .int 0, .int 0, .int 0, .int 0])), (q6, .inr (1, [.int 0, .int 0, .int 0, .int 0, .int 0, .int 0]))] := hD
  refine lv_iinc (v := 3) (lv' := [(1, .int 3), (0, .ref h0)]) hx hb dX3_init_53 hl (k := 0) rfl (by decide) (by decide) rfl (fun ls hl => ?_)
  refine lv_goto (tgt := 34) hx hb dX3_init_56 (by decide) ?_
  refine lv_iload_n hx hb dX3_init_34 rfl (lv_at hl 0 rfl) ?_
  refine lv_bipush (v := 6) hx hb dX3_init_35 (by decide) ?_
  refine lv_icmp_ge (tgt := 59) hx hb dX3_init_37 (by decide) (fun z => absurd z (by decide)) (fun _ => ?_)
  refine lv_aload_n hx hb dX3_init_40 rfl (lv_at hl 1 rfl) ?_
  refine va_get (D := D) (ci := 3) (v := .ref q2) (C := RX3) (T := TX3) (N := 7) hx hb hts (bl_cls_ws 3 RX3 TX3 7 rfl) hown hK hP 0 rfl rfl 1 (by decide) (hts _ cg_14) (fun _ h9 => h9) rfl dX3_init_41 ?_
  refine lv_iload_n hx hb dX3_init_44 rfl (lv_at hl 0 rfl) ?_
  refine va_new (ci := 1) (fs := [.int 0, .int 0, .int 0, .int 0, .int 0, .int 0]) (C := RX1) (T := TX1) (N := 6) hx hb hts (bl_cls_ws 1 RX1 TX1 6 rfl) tyX1 tyX1_ok hown (hts _ cg_13) (hts _ cg_17) (hts _ cg_18) hK hP hD hS hA rfl (by decide +kernel) (Nat.le_of_ble_eq_true rfl) (Nat.le_of_ble_eq_true rfl) dX3_init_45 (fun q7 H hP hD hS => ?_)
  have hP : va_P D vwCl [(h0, .inr (3, [.ref q1, .ref q2, .ref q3, .int 0, .int 0, .int 0, .int 0])), (q1, .inr (4, [.int 0, .int 0, .int 0, .int 999])), (q2, .inl (c2, 6, .inr (.inr (.inr (.inr (va_up (va_up (va_up (fun _ => none) 0 (some q4)) 1 (some q5)) 2 (some q6))))))), (q3, .inl (c3, 4, .inr (.inr (.inr (.inr (fun _ => none)))))), (q4, .inr (1, [.int 0, .int 0, .int 0, .int 0, .int 0, .int 0])), (q5, .inr (1, [.int 0, .int 0, .int 0, .int 0, .int 0, .int 0])), (q6, .inr (1, [.int 0, .int 0, .int 0, .int 0, .int 0, .int 0])), (q7, .inr (1, [.int 0, .int 0, .int 0, .int 0, .int 0, .int 0]))] H := hP
  have hD : va_D A [(h0, .inr (3, [.ref q1, .ref q2, .ref q3, .int 0, .int 0, .int 0, .int 0])), (q1, .inr (4, [.int 0, .int 0, .int 0, .int 999])), (q2, .inl (c2, 6, .inr (.inr (.inr (.inr (va_up (va_up (va_up (fun _ => none) 0 (some q4)) 1 (some q5)) 2 (some q6))))))), (q3, .inl (c3, 4, .inr (.inr (.inr (.inr (fun _ => none)))))), (q4, .inr (1, [.int 0, .int 0, .int 0, .int 0, .int 0, .int 0])), (q5, .inr (1, [.int 0, .int 0, .int 0, .int 0, .int 0, .int 0])), (q6, .inr (1, [.int 0, .int 0, .int 0, .int 0, .int 0, .int 0])), (q7, .inr (1, [.int 0, .int 0, .int 0, .int 0, .int 0, .int 0]))] := hD
  refine W.widen (k := 7) (n := 38) (Nat.le_of_ble_eq_true rfl) (Nat.le_of_ble_eq_true rfl) ?_
  refine lv_dup hx hb dX3_init_48 rfl ?_
  have hPc := hP.sub (ws' := [(q7, .inr (1, [.int 0, .int 0, .int 0, .int 0, .int 0, .int 0]))]) [7] rfl
  have hDc := hD.sub (ws' := [(q7, .inr (1, [.int 0, .int 0, .int 0, .int 0, .int 0, .int 0]))]) [7] (by decide) rfl
  have hKc := hK.sub (tys' := []) [] rfl
  have hFc := va_free (wc := [(q7, .inr (1, [.int 0, .int 0, .int 0, .int 0, .int 0, .int 0]))]) hD hS hA [7] rfl
  refine va_callv (va_runIN (As := []) (rest := [.ref q7, .int 3, .ref q2]) ⟨hx, hb, hml, hown, hts⟩ (k_X1 l D q7 H.size) ⟨va_cnB 0 hts (ct_good cg_19) rfl rfl rfl (hZ.1 _ (List.mem_of_getElem? (i := 2) rfl)) (hts _ cg_18) (by decide +kernel) ⟨Nat.le_of_ble_eq_true rfl, Nat.le_of_ble_eq_true rfl⟩, rfl, hts _ cg_20⟩ ⟨ct_blind, fun U hU hW => ⟨rfl, by rw [hU], by rw [hU]; exact hPc, va_K.moved hW.alike hKc, hDc.weaken (fun _ _ _ _ => trivial), hZ.warm hW⟩⟩ rfl rfl hl.1 rfl (lv_room (Nat.le_of_ble_eq_true rfl)) dX3_init_49 ⟨Nat.le_of_ble_eq_true rfl, Nat.le_of_ble_eq_true rfl⟩) hS (fun q _ h => hFc q h) hFc (fun u_q7 t H1 locs ht hvm hw hB hz1 hk1 hS => ?_)
  obtain ⟨hP1, hK1, hD1⟩ := hB
  rw [ht] at hP1
  have hK1 := va_K.moved hvm.symm hK1
  obtain ⟨hP, hD⟩ := va_join (wr := [(h0, .inr (3, [.ref q1, .ref q2, .ref q3, .int 0, .int 0, .int 0, .int 0])), (q1, .inr (4, [.int 0, .int 0, .int 0, .int 999])), (q2, .inl (c2, 6, .inr (.inr (.inr (.inr (va_up (va_up (va_up (fun _ => none) 0 (some q4)) 1 (some q5)) 2 (some q6))))))), (q3, .inl (c3, 4, .inr (.inr (.inr (.inr (fun _ => none)))))), (q4, .inr (1, [.int 0, .int 0, .int 0, .int 0, .int 0, .int 0])), (q5, .inr (1, [.int 0, .int 0, .int 0, .int 0, .int 0, .int 0])), (q6, .inr (1, [.int 0, .int 0, .int 0, .int 0, .int 0, .int 0]))]) (w1 := (gX1 q7 u_q7)) hP hD [7] [0, 1, 2, 3, 4, 5, 6] rfl rfl (by decide +kernel) (by decide +kernel) hk1 hFc hP1 hD1
  have hK := (hK.sub (tys' := [(c2, .object RX1), (c3, .object RX5)]) [0, 1] rfl).app hK1
  generalize H1 = H at hP hS ⊢
  have hP : va_P D vwCl [(h0, .inr (3, [.ref q1, .ref q2, .ref q3, .int 0, .int 0, .int 0, .int 0])), (q1, .inr (4, [.int 0, .int 0, .int 0, .int 999])), (q2, .inl (c2, 6, .inr (.inr (.inr (.inr (va_up (va_up (va_up (fun _ => none) 0 (some q4)) 1 (some q5)) 2 (some q6))))))), (q3, .inl (c3, 4, .inr (.inr (.inr (.inr (fun _ => none)))))), (q4, .inr (1, [.int 0, .int 0, .int 0, .int 0, .int 0, .int 0])), (q5, .inr (1, [.int 0, .int 0, .int 0, .int 0, .int 0, .int 0])), (q6, .inr (1, [.int 0, .int 0, .int 0, .int 0, .int 0, .int 0])), (q7, .inr (1, [.int 0, .int 0, .int 0, .int 0, .int 0, .int 0]))] H := hP
  have hD : va_D A [(h0, .inr (3, [.ref q1, .ref q2, .ref q3, .int 0, .int 0, .int 0, .int 0])), (q1, .inr (4, [.int 0, .int 0, .int 0, .int 999])), (q2, .inl (c2, 6, .inr (.inr (.inr (.inr (va_up (va_up (va_up (fun _ => none) 0 (some q4)) 1 (some q5)) 2 (some q6))))))), (q3, .inl (c3, 4, .inr (.inr (.inr (.inr (fun _ => none)))))), (q4, .inr (1, [.int 0, .int 0, .int 0, .int 0, .int 0, .int 0])), (q5, .inr (1, [.int 0, .int 0, .int 0, .int 0, .int 0, .int 0])), (q6, .inr (1, [.int 0, .int 0, .int 0, .int 0, .int 0, .int 0])), (q7, .inr (1, [.int 0, .int 0, .int 0, .int 0, .int 0, .int 0]))] := hD
  have hK : va_K D vwCl [(c2, .object RX1), (c3, .object RX5)] s := hK
  refine W.widen (k := 7) (n := 38) (Nat.le_of_ble_eq_true rfl) (Nat.le_of_ble_eq_true rfl) ?_
  refine va_astq hx hb hK hP hD hS 2 0 7 1 (r := (RX1, TX1, 6)) rfl rfl rfl rfl (vp_in_nI (n := 3) (by omega) (by omega)) dX3_init_52 (fun H locs hP hD hS => ?_)
  have hP : va_P D vwCl [(h0, .inr (3, [.ref q1, .ref q2, .ref q3, .int 0, .int 0, .int 0, .int 0])), (q1, .inr (4, [.int 0, .int 0, .int 0, .int 999])), (q2, .inl (c2, 6, .inr (.inr (.inr (.inr (va_up (va_up (va_up (va_up (fun _ => none) 0 (some q4)) 1 (some q5)) 2 (some q6)) 3 (some q7))))))), (q3, .inl (c3, 4, .inr (.inr (.inr (.inr (fun _ => none)))))), (q4, .inr (1, [.int 0, .int 0, .int 0, .int 0, .int 0, .int 0])), (q5, .inr (1, [.int 0, .int 0, .int 0, .int 0, .int 0, .int 0])), (q6, .inr (1, [.int 0, .int 0, .int 0, .int 0, .int 0, .int 0])), (q7, .inr (1, [.int 0, .int 0, .int 0, .int 0, .int 0, .int 0]))] H := hP
  have hD : va_D A [(h0, .inr (3, [.ref q1, .ref q2, .ref q3, .int 0, .int 0, .int 0, .int 0])), (q1, .inr (4, [.int 0, .int 0, .int 0, .int 999])), (q2, .inl (c2, 6, .inr (.inr (.inr (.inr (va_up (va_up (va_up (va_up (fun _ => none) 0 (some q4)) 1 (some q5)) 2 (some q6)) 3 (some q7))))))), (q3, .inl (c3, 4, .inr (.inr (.inr (.inr (fun _ => none)))))), (q4, .inr (1, [.int 0, .int 0, .int 0, .int 0, .int 0, .int 0])), (q5, .inr (1, [.int 0, .int 0, .int 0, .int 0, .int 0, .int 0])), (q6, .inr (1, [.int 0, .int 0, .int 0, .int 0, .int 0, .int 0])), (q7, .inr (1, [.int 0, .int 0, .int 0, .int 0, .int 0, .int 0]))] := hD
  refine lv_iinc (v := 4) (lv' := [(1, .int 4), (0, .ref h0)]) hx hb dX3_init_53 hl (k := 0) rfl (by decide) (by decide) rfl (fun ls hl => ?_)
  refine lv_goto (tgt := 34) hx hb dX3_init_56 (by decide) ?_
  refine lv_iload_n hx hb dX3_init_34 rfl (lv_at hl 0 rfl) ?_
  refine lv_bipush (v := 6) hx hb dX3_init_35 (by decide) ?_
  refine lv_icmp_ge (tgt := 59) hx hb dX3_init_37 (by decide) (fun z => absurd z (by decide)) (fun _ => ?_)
  refine lv_aload_n hx hb dX3_init_40 rfl (lv_at hl 1 rfl) ?_
  refine va_get (D := D) (ci := 3) (v := .ref q2) (C := RX3) (T := TX3) (N := 7) hx hb hts (bl_cls_ws 3 RX3 TX3 7 rfl) hown hK hP 0 rfl rfl 1 (by decide) (hts _ cg_14) (fun _ h9 => h9) rfl dX3_init_41 ?_
  refine lv_iload_n hx hb dX3_init_44 rfl (lv_at hl 0 rfl) ?_
  refine va_new (ci := 1) (fs := [.int 0, .int 0, .int 0, .int 0, .int 0, .int 0]) (C := RX1) (T := TX1) (N := 6) hx hb hts (bl_cls_ws 1 RX1 TX1 6 rfl) tyX1 tyX1_ok hown (hts _ cg_13) (hts _ cg_17) (hts _ cg_18) hK hP hD hS hA rfl (by decide +kernel) (Nat.le_of_ble_eq_true rfl) (Nat.le_of_ble_eq_true rfl) dX3_init_45 (fun q8 H hP hD hS => ?_)
  have hP : va_P D vwCl [(h0, .inr (3, [.ref q1, .ref q2, .ref q3, .int 0, .int 0, .int 0, .int 0])), (q1, .inr (4, [.int 0, .int 0, .int 0, .int 999])), (q2, .inl (c2, 6, .inr (.inr (.inr (.inr (va_up (va_up (va_up (va_up (fun _ => none) 0 (some q4)) 1 (some q5)) 2 (some q6)) 3 (some q7))))))), (q3, .inl (c3, 4, .inr (.inr (.inr (.inr (fun _ => none)))))), (q4, .inr (1, [.int 0, .int 0, .int 0, .int 0, .int 0, .int 0])), (q5, .inr (1, [.int 0, .int 0, .int 0, .int 0, .int 0, .int 0])), (q6, .inr (1, [.int 0, .int 0, .int 0, .int 0, .int 0, .int 0])), (q7, .inr (1, [.int 0, .int 0, .int 0, .int 0, .int 0, .int 0])), (q8, .inr (1, [.int 0, .int 0, .int 0, .int 0, .int 0, .int 0]))] H := hP
  have hD : va_D A [(h0, .inr (3, [.ref q1, .ref q2, .ref q3, .int 0, .int 0, .int 0, .int 0])), (q1, .inr (4, [.int 0, .int 0, .int 0, .int 999])), (q2, .inl (c2, 6, .inr (.inr (.inr (.inr (va_up (va_up (va_up (va_up (fun _ => none) 0 (some q4)) 1 (some q5)) 2 (some q6)) 3 (some q7))))))), (q3, .inl (c3, 4, .inr (.inr (.inr (.inr (fun _ => none)))))), (q4, .inr (1, [.int 0, .int 0, .int 0, .int 0, .int 0, .int 0])), (q5, .inr (1, [.int 0, .int 0, .int 0, .int 0, .int 0, .int 0])), (q6, .inr (1, [.int 0, .int 0, .int 0, .int 0, .int 0, .int 0])), (q7, .inr (1, [.int 0, .int 0, .int 0, .int 0, .int 0, .int 0])), (q8, .inr (1, [.int 0, .int 0, .int 0, .int 0, .int 0, .int 0]))] := hD
  refine W.widen (k := 8) (n := 44) (Nat.le_of_ble_eq_true rfl) (Nat.le_of_ble_eq_true rfl) ?_
  refine lv_dup hx hb dX3_init_48 rfl ?_
  have hPc := hP.sub (ws' := [(q8, .inr (1, [.int 0, .int 0, .int 0, .int 0, .int 0, .int 0]))]) [8] rfl
  have hDc := hD.sub (ws' := [(q8, .inr (1, [.int 0, .int 0, .int 0, .int 0, .int 0, .int 0]))]) [8] (by decide) rfl
  have hKc := hK.sub (tys' := []) [] rfl
  have hFc := va_free (wc := [(q8, .inr (1, [.int 0, .int 0, .int 0, .int 0, .int 0, .int 0]))]) hD hS hA [8] rfl
  refine va_callv (va_runIN (As := []) (rest := [.ref q8, .int 4, .ref q2]) ⟨hx, hb, hml, hown, hts⟩ (k_X1 l D q8 H.size) ⟨va_cnB 0 hts (ct_good cg_19) rfl rfl rfl (hZ.1 _ (List.mem_of_getElem? (i := 2) rfl)) (hts _ cg_18) (by decide +kernel) ⟨Nat.le_of_ble_eq_true rfl, Nat.le_of_ble_eq_true rfl⟩, rfl, hts _ cg_20⟩ ⟨ct_blind, fun U hU hW => ⟨rfl, by rw [hU], by rw [hU]; exact hPc, va_K.moved hW.alike hKc, hDc.weaken (fun _ _ _ _ => trivial), hZ.warm hW⟩⟩ rfl rfl hl.1 rfl (lv_room (Nat.le_of_ble_eq_true rfl)) dX3_init_49 ⟨Nat.le_of_ble_eq_true rfl, Nat.le_of_ble_eq_true rfl⟩) hS (fun q _ h => hFc q h) hFc (fun u_q8 t H1 locs ht hvm hw hB hz1 hk1 hS => ?_)
  obtain ⟨hP1, hK1, hD1⟩ := hB
  rw [ht] at hP1
  have hK1 := va_K.moved hvm.symm hK1
  obtain ⟨hP, hD⟩ := va_join (wr := [(h0, .inr (3, [.ref q1, .ref q2, .ref q3, .int 0, .int 0, .int 0, .int 0])), (q1, .inr (4, [.int 0, .int 0, .int 0, .int 999])), (q2, .inl (c2, 6, .inr (.inr (.inr (.inr (va_up (va_up (va_up (va_up (fun _ => none) 0 (some q4)) 1 (some q5)) 2 (some q6)) 3 (some q7))))))), (q3, .inl (c3, 4, .inr (.inr (.inr (.inr (fun _ => none)))))), (q4, .inr (1, [.int 0, .int 0, .int 0, .int 0, .int 0, .int 0])), (q5, .inr (1, [.int 0, .int 0, .int 0, .int 0, .int 0, .int 0])), (q6, .inr (1, [.int 0, .int 0, .int 0, .int 0, .int 0, .int 0])), (q7, .inr (1, [.int 0, .int 0, .int 0, .int 0, .int 0, .int 0]))]) (w1 := (gX1 q8 u_q8)) hP hD [8] [0, 1, 2, 3, 4, 5, 6, 7] rfl rfl (by decide +kernel) (by decide +kernel) hk1 hFc hP1 hD1
  have hK := (hK.sub (tys' := [(c2, .object RX1), (c3, .object RX5)]) [0, 1] rfl).app hK1
  generalize H1 = H at hP hS ⊢
  have hP : va_P D vwCl [(h0, .inr (3, [.ref q1, .ref q2, .ref q3, .int 0, .int 0, .int 0, .int 0])), (q1, .inr (4, [.int 0, .int 0, .int 0, .int 999])), (q2, .inl (c2, 6, .inr (.inr (.inr (.inr (va_up (va_up (va_up (va_up (fun _ => none) 0 (some q4)) 1 (some q5)) 2 (some q6)) 3 (some q7))))))), (q3, .inl (c3, 4, .inr (.inr (.inr (.inr (fun _ => none)))))), (q4, .inr (1, [.int 0, .int 0, .int 0, .int 0, .int 0, .int 0])), (q5, .inr (1, [.int 0, .int 0, .int 0, .int 0, .int 0, .int 0])), (q6, .inr (1, [.int 0, .int 0, .int 0, .int 0, .int 0, .int 0])), (q7, .inr (1, [.int 0, .int 0, .int 0, .int 0, .int 0, .int 0])), (q8, .inr (1, [.int 0, .int 0, .int 0, .int 0, .int 0, .int 0]))] H := hP
  have hD : va_D A [(h0, .inr (3, [.ref q1, .ref q2, .ref q3, .int 0, .int 0, .int 0, .int 0])), (q1, .inr (4, [.int 0, .int 0, .int 0, .int 999])), (q2, .inl (c2, 6, .inr (.inr (.inr (.inr (va_up (va_up (va_up (va_up (fun _ => none) 0 (some q4)) 1 (some q5)) 2 (some q6)) 3 (some q7))))))), (q3, .inl (c3, 4, .inr (.inr (.inr (.inr (fun _ => none)))))), (q4, .inr (1, [.int 0, .int 0, .int 0, .int 0, .int 0, .int 0])), (q5, .inr (1, [.int 0, .int 0, .int 0, .int 0, .int 0, .int 0])), (q6, .inr (1, [.int 0, .int 0, .int 0, .int 0, .int 0, .int 0])), (q7, .inr (1, [.int 0, .int 0, .int 0, .int 0, .int 0, .int 0])), (q8, .inr (1, [.int 0, .int 0, .int 0, .int 0, .int 0, .int 0]))] := hD
  have hK : va_K D vwCl [(c2, .object RX1), (c3, .object RX5)] s := hK
  refine W.widen (k := 8) (n := 44) (Nat.le_of_ble_eq_true rfl) (Nat.le_of_ble_eq_true rfl) ?_
  refine va_astq hx hb hK hP hD hS 2 0 8 1 (r := (RX1, TX1, 6)) rfl rfl rfl rfl (vp_in_nI (n := 4) (by omega) (by omega)) dX3_init_52 (fun H locs hP hD hS => ?_)
  have hP : va_P D vwCl [(h0, .inr (3, [.ref q1, .ref q2, .ref q3, .int 0, .int 0, .int 0, .int 0])), (q1, .inr (4, [.int 0, .int 0, .int 0, .int 999])), (q2, .inl (c2, 6, .inr (.inr (.inr (.inr (va_up (va_up (va_up (va_up (va_up (fun _ => none) 0 (some q4)) 1 (some q5)) 2 (some q6)) 3 (some q7)) 4 (some q8))))))), (q3, .inl (c3, 4, .inr (.inr (.inr (.inr (fun _ => none)))))), (q4, .inr (1, [.int 0, .int 0, .int 0, .int 0, .int 0, .int 0])), (q5, .inr (1, [.int 0, .int 0, .int 0, .int 0, .int 0, .int 0])), (q6, .inr (1, [.int 0, .int 0, .int 0, .int 0, .int 0, .int 0])), (q7, .inr (1, [.int 0, .int 0, .int 0, .int 0, .int 0, .int 0])), (q8, .inr (1, [.int 0, .int 0, .int 0, .int 0, .int 0, .int 0]))] H := hP
  have hD : va_D A [(h0, .inr (3, [.ref q1, .ref q2, .ref q3, .int 0, .int 0, .int 0, .int 0])), (q1, .inr (4, [.int 0, .int 0, .int 0, .int 999])), (q2, .inl (c2, 6, .inr (.inr (.inr (.inr (va_up (va_up (va_up (va_up (va_up (fun _ => none) 0 (some q4)) 1 (some q5)) 2 (some q6)) 3 (some q7)) 4 (some q8))))))), (q3, .inl (c3, 4, .inr (.inr (.inr (.inr (fun _ => none)))))), (q4, .inr (1, [.int 0, .int 0, .int 0, .int 0, .int 0, .int 0])), (q5, .inr (1, [.int 0, .int 0, .int 0, .int 0, .int 0, .int 0])), (q6, .inr (1, [.int 0, .int 0, .int 0, .int 0, .int 0, .int 0])), (q7, .inr (1, [.int 0, .int 0, .int 0, .int 0, .int 0, .int 0])), (q8, .inr (1, [.int 0, .int 0, .int 0, .int 0, .int 0, .int 0]))] := hD
  refine lv_iinc (v := 5) (lv' := [(1, .int 5), (0, .ref h0)]) hx hb dX3_init_53 hl (k := 0) rfl (by decide) (by decide) rfl (fun ls hl => ?_)
  refine lv_goto (tgt := 34) hx hb dX3_init_56 (by decide) ?_
  refine lv_iload_n hx hb dX3_init_34 rfl (lv_at hl 0 rfl) ?_
  refine lv_bipush (v := 6) hx hb dX3_init_35 (by decide) ?_
  refine lv_icmp_ge (tgt := 59) hx hb dX3_init_37 (by decide) (fun z => absurd z (by decide)) (fun _ => ?_)
  refine lv_aload_n hx hb dX3_init_40 rfl (lv_at hl 1 rfl) ?_
  refine va_get (D := D) (ci := 3) (v := .ref q2) (C := RX3) (T := TX3) (N := 7) hx hb hts (bl_cls_ws 3 RX3 TX3 7 rfl) hown hK hP 0 rfl rfl 1 (by decide) (hts _ cg_14) (fun _ h9 => h9) rfl dX3_init_41 ?_
  refine lv_iload_n hx hb dX3_init_44 rfl (lv_at hl 0 rfl) ?_
  refine va_new (ci := 1) (fs := [.int 0, .int 0, .int 0, .int 0, .int 0, .int 0]) (C := RX1) (T := TX1) (N := 6) hx hb hts (bl_cls_ws 1 RX1 TX1 6 rfl) tyX1 tyX1_ok hown (hts _ cg_13) (hts _ cg_17) (hts _ cg_18) hK hP hD hS hA rfl (by decide +kernel) (Nat.le_of_ble_eq_true rfl) (Nat.le_of_ble_eq_true rfl) dX3_init_45 (fun q9 H hP hD hS => ?_)
  have hP : va_P D vwCl [(h0, .inr (3, [.ref q1, .ref q2, .ref q3, .int 0, .int 0, .int 0, .int 0])), (q1, .inr (4, [.int 0, .int 0, .int 0, .int 999])), (q2, .inl (c2, 6, .inr (.inr (.inr (.inr (va_up (va_up (va_up (va_up (va_up (fun _ => none) 0 (some q4)) 1 (some q5)) 2 (some q6)) 3 (some q7)) 4 (some q8))))))), (q3, .inl (c3, 4, .inr (.inr (.inr (.inr (fun _ => none)))))), (q4, .inr (1, [.int 0, .int 0, .int 0, .int 0, .int 0, .int 0])), (q5, .inr (1, [.int 0, .int 0, .int 0, .int 0, .int 0, .int 0])), (q6, .inr (1, [.int 0, .int 0, .int 0, .int 0, .int 0, .int 0])), (q7, .inr (1, [.int 0, .int 0, .int 0, .int 0, .int 0, .int 0])), (q8, .inr (1, [.int 0, .int 0, .int 0, .int 0, .int 0, .int 0])), (q9, .inr (1, [.int 0, .int 0, .int 0, .int 0, .int 0, .int 0]))] H := hP
  have hD : va_D A [(h0, .inr (3, [.ref q1, .ref q2, .ref q3, .int 0, .int 0, .int 0, .int 0])), (q1, .inr (4, [.int 0, .int 0, .int 0, .int 999])), (q2, .inl (c2, 6, .inr (.inr (.inr (.inr (va_up (va_up (va_up (va_up (va_up (fun _ => none) 0 (some q4)) 1 (some q5)) 2 (some q6)) 3 (some q7)) 4 (some q8))))))), (q3, .inl (c3, 4, .inr (.inr (.inr (.inr (fun _ => none)))))), (q4, .inr (1, [.int 0, .int 0, .int 0, .int 0, .int 0, .int 0])), (q5, .inr (1, [.int 0, .int 0, .int 0, .int 0, .int 0, .int 0])), (q6, .inr (1, [.int 0, .int 0, .int 0, .int 0, .int 0, .int 0])), (q7, .inr (1, [.int 0, .int 0, .int 0, .int 0, .int 0, .int 0])), (q8, .inr (1, [.int 0, .int 0, .int 0, .int 0, .int 0, .int 0])), (q9, .inr (1, [.int 0, .int 0, .int 0, .int 0, .int 0, .int 0]))] := hD
  refine W.widen (k := 9) (n := 50) (Nat.le_of_ble_eq_true rfl) (Nat.le_of_ble_eq_true rfl) ?_
  refine lv_dup hx hb dX3_init_48 rfl ?_
  have hPc := hP.sub (ws' := [(q9, .inr (1, [.int 0, .int 0, .int 0, .int 0, .int 0, .int 0]))]) [9] rfl
  have hDc := hD.sub (ws' := [(q9, .inr (1, [.int 0, .int 0, .int 0, .int 0, .int 0, .int 0]))]) [9] (by decide) rfl
  have hKc := hK.sub (tys' := []) [] rfl
  have hFc := va_free (wc := [(q9, .inr (1, [.int 0, .int 0, .int 0, .int 0, .int 0, .int 0]))]) hD hS hA [9] rfl
  refine va_callv (va_runIN (As := []) (rest := [.ref q9, .int 5, .ref q2]) ⟨hx, hb, hml, hown, hts⟩ (k_X1 l D q9 H.size) ⟨va_cnB 0 hts (ct_good cg_19) rfl rfl rfl (hZ.1 _ (List.mem_of_getElem? (i := 2) rfl)) (hts _ cg_18) (by decide +kernel) ⟨Nat.le_of_ble_eq_true rfl, Nat.le_of_ble_eq_true rfl⟩, rfl, hts _ cg_20⟩ ⟨ct_blind, fun U hU hW => ⟨rfl, by rw [hU], by rw [hU]; exact hPc, va_K.moved hW.alike hKc, hDc.weaken (fun _ _ _ _ => trivial), hZ.warm hW⟩⟩ rfl rfl hl.1 rfl (lv_room (Nat.le_of_ble_eq_true rfl)) dX3_init_49 ⟨Nat.le_of_ble_eq_true rfl, Nat.le_of_ble_eq_true rfl⟩) hS (fun q _ h => hFc q h) hFc (fun u_q9 t H1 locs ht hvm hw hB hz1 hk1 hS => ?_)
  obtain ⟨hP1, hK1, hD1⟩ := hB
  rw [ht] at hP1
  have hK1 := va_K.moved hvm.symm hK1
  obtain ⟨hP, hD⟩ := va_join (wr := [(h0, .inr (3, [.ref q1, .ref q2, .ref q3, .int 0, .int 0, .int 0, .int 0])), (q1, .inr (4, [.int 0, .int 0, .int 0, .int 999])), (q2, .inl (c2, 6, .inr (.inr (.inr (.inr (va_up (va_up (va_up (va_up (va_up (fun _ => none) 0 (some q4)) 1 (some q5)) 2 (some q6)) 3 (some q7)) 4 (some q8))))))), (q3, .inl (c3, 4, .inr (.inr (.inr (.inr (fun _ => none)))))), (q4, .inr (1, [.int 0, .int 0, .int 0, .int 0, .int 0, .int 0])), (q5, .inr (1, [.int 0, .int 0, .int 0, .int 0, .int 0, .int 0])), (q6, .inr (1, [.int 0, .int 0, .int 0, .int 0, .int 0, .int 0])), (q7, .inr (1, [.int 0, .int 0, .int 0, .int 0, .int 0, .int 0])), (q8, .inr (1, [.int 0, .int 0, .int 0, .int 0, .int 0, .int 0]))]) (w1 := (gX1 q9 u_q9)) hP hD [9] [0, 1, 2, 3, 4, 5, 6, 7, 8] rfl rfl (by decide +kernel) (by decide +kernel) hk1 hFc hP1 hD1
  have hK := (hK.sub (tys' := [(c2, .object RX1), (c3, .object RX5)]) [0, 1] rfl).app hK1
  generalize H1 = H at hP hS ⊢
  have hP : va_P D vwCl [(h0, .inr (3, [.ref q1, .ref q2, .ref q3, .int 0, .int 0, .int 0, .int 0])), (q1, .inr (4, [.int 0, .int 0, .int 0, .int 999])), (q2, .inl (c2, 6, .inr (.inr (.inr (.inr (va_up (va_up (va_up (va_up (va_up (fun _ => none) 0 (some q4)) 1 (some q5)) 2 (some q6)) 3 (some q7)) 4 (some q8))))))), (q3, .inl (c3, 4, .inr (.inr (.inr (.inr (fun _ => none)))))), (q4, .inr (1, [.int 0, .int 0, .int 0, .int 0, .int 0, .int 0])), (q5, .inr (1, [.int 0, .int 0, .int 0, .int 0, .int 0, .int 0])), (q6, .inr (1, [.int 0, .int 0, .int 0, .int 0, .int 0, .int 0])), (q7, .inr (1, [.int 0, .int 0, .int 0, .int 0, .int 0, .int 0])), (q8, .inr (1, [.int 0, .int 0, .int 0, .int 0, .int 0, .int 0])), (q9, .inr (1, [.int 0, .int 0, .int 0, .int 0, .int 0, .int 0]))] H := hP
  have hD : va_D A [(h0, .inr (3, [.ref q1, .ref q2, .ref q3, .int 0, .int 0, .int 0, .int 0])), (q1, .inr (4, [.int 0, .int 0, .int 0, .int 999])), (q2, .inl (c2, 6, .inr (.inr (.inr (.inr (va_up (va_up (va_up (va_up (va_up (fun _ => none) 0 (some q4)) 1 (some q5)) 2 (some q6)) 3 (some q7)) 4 (some q8))))))), (q3, .inl (c3, 4, .inr (.inr (.inr (.inr (fun _ => none)))))), (q4, .inr (1, [.int 0, .int 0, .int 0, .int 0, .int 0, .int 0])), (q5, .inr (1, [.int 0, .int 0, .int 0, .int 0, .int 0, .int 0])), (q6, .inr (1, [.int 0, .int 0, .int 0, .int 0, .int 0, .int 0])), (q7, .inr (1, [.int 0, .int 0, .int 0, .int 0, .int 0, .int 0])), (q8, .inr (1, [.int 0, .int 0, .int 0, .int 0, .int 0, .int 0])), (q9, .inr (1, [.int 0, .int 0, .int 0, .int 0, .int 0, .int 0]))] := hD
  have hK : va_K D vwCl [(c2, .object RX1), (c3, .object RX5)] s := hK
  refine W.widen (k := 9) (n := 50) (Nat.le_of_ble_eq_true rfl) (Nat.le_of_ble_eq_true rfl) ?_
  refine va_astq hx hb hK hP hD hS 2 0 9 1 (r := (RX1, TX1, 6)) rfl rfl rfl rfl (vp_in_nI (n := 5) (by omega) (by omega)) dX3_init_52 (fun H locs hP hD hS => ?_)
  have hP : va_P D vwCl [(h0, .inr (3, [.ref q1, .ref q2, .ref q3, .int 0, .int 0, .int 0, .int 0])), (q1, .inr (4, [.int 0, .int 0, .int 0, .int 999])), (q2, .inl (c2, 6, .inr (.inr (.inr (.inr (va_up (va_up (va_up (va_up (va_up (va_up (fun _ => none) 0 (some q4)) 1 (some q5)) 2 (some q6)) 3 (some q7)) 4 (some q8)) 5 (some q9))))))), (q3, .inl (c3, 4, .inr (.inr (.inr (.inr (fun _ => none)))))), (q4, .inr (1, [.int 0, .int 0, .int 0, .int 0, .int 0, .int 0])), (q5, .inr (1, [.int 0, .int 0, .int 0, .int 0, .int 0, .int 0])), (q6, .inr (1, [.int 0, .int 0, .int 0, .int 0, .int 0, .int 0])), (q7, .inr (1, [.int 0, .int 0, .int 0, .int 0, .int 0, .int 0])), (q8, .inr (1, [.int 0, .int 0, .int 0, .int 0, .int 0, .int 0])), (q9, .inr (1, [.int 0, .int 0, .int 0, .int 0, .int 0, .int 0]))] H := hP
  have hD : va_D A [(h0, .inr (3, [.ref q1, .ref q2, .ref q3, .int 0, .int 0, .int 0, .int 0])), (q1, .inr (4, [.int 0, .int 0, .int 0, .int 999])), (q2, .inl (c2, 6, .inr (.inr (.inr (.inr (va_up (va_up (va_up (va_up (va_up (va_up (fun _ => none) 0 (some q4)) 1 (some q5)) 2 (some q6)) 3 (some q7)) 4 (some q8)) 5 (some q9))))))), (q3, .inl (c3, 4, .inr (.inr (.inr (.inr (fun _ => none)))))), (q4, .inr (1, [.int 0, .int 0, .int 0, .int 0, .int 0, .int 0])), (q5, .inr (1, [.int 0, .int 0, .int 0, .int 0, .int 0, .int 0])), (q6, .inr (1, [.int 0, .int 0, .int 0, .int 0, .int 0, .int 0])), (q7, .inr (1, [.int 0, .int 0, .int 0, .int 0, .int 0, .int 0])), (q8, .inr (1, [.int 0, .int 0, .int 0, .int 0, .int 0, .int 0])), (q9, .inr (1, [.int 0, .int 0, .int 0, .int 0, .int 0, .int 0]))] := hD
  refine lv_iinc (v := 6) (lv' := [(1, .int 6), (0, .ref h0)]) hx hb dX3_init_53 hl (k := 0) rfl (by decide) (by decide) rfl (fun ls hl => ?_)
  refine lv_goto (tgt := 34) hx hb dX3_init_56 (by decide) ?_
  refine lv_iload_n hx hb dX3_init_34 rfl (lv_at hl 0 rfl) ?_
  refine lv_bipush (v := 6) hx hb dX3_init_35 (by decide) ?_
  refine lv_icmp_ge (tgt := 59) hx hb dX3_init_37 (by decide) (fun _ => ?_) (fun z => absurd (by decide) z)
  refine lv_iconst (v := 0) hx hb dX3_init_59 (by decide) ?_
  refine lv_istore_n (lv' := [(1, .int 0), (0, .ref h0)]) hx hb dX3_init_60 rfl hl (by decide) rfl (fun ls hl => ?_)
  refine lv_iload_n hx hb dX3_init_61 rfl (lv_at hl 0 rfl) ?_
  refine lv_iconst (v := 4) hx hb dX3_init_62 (by decide) ?_
  refine lv_icmp_ge (tgt := 85) hx hb dX3_init_63 (by decide) (fun z => absurd z (by decide)) (fun _ => ?_)
  refine lv_aload_n hx hb dX3_init_66 rfl (lv_at hl 1 rfl) ?_
  refine va_get (D := D) (ci := 3) (v := .ref q3) (C := RX3) (T := TX3) (N := 7) hx hb hts (bl_cls_ws 3 RX3 TX3 7 rfl) hown hK hP 0 rfl rfl 2 (by decide) (hts _ cg_16) (fun _ h9 => h9) rfl dX3_init_67 ?_
  refine lv_iload_n hx hb dX3_init_70 rfl (lv_at hl 0 rfl) ?_
  refine va_new (ci := 5) (fs := [.int 0, .int 0, .int 0, .int 0, .int 0, .int 0, .int 0, .int 0]) (C := RX5) (T := TX5) (N := 8) hx hb hts (bl_cls_ws 5 RX5 TX5 8 rfl) tyX5 tyX5_ok hown (hts _ cg_15) (hts _ cg_21) (hts _ cg_22) hK hP hD hS hA rfl (by decide +kernel) (Nat.le_of_ble_eq_true rfl) (Nat.le_of_ble_eq_true rfl) dX3_init_71 (fun q10 H hP hD hS => ?_)
  have hP : va_P D vwCl [(h0, .inr (3, [.ref q1, .ref q2, .ref q3, .int 0, .int 0, .int 0, .int 0])), (q1, .inr (4, [.int 0, .int 0, .int 0, .int 999])), (q2, .inl (c2, 6, .inr (.inr (.inr (.inr (va_up (va_up (va_up (va_up (va_up (va_up (fun _ => none) 0 (some q4)) 1 (some q5)) 2 (some q6)) 3 (some q7)) 4 (some q8)) 5 (some q9))))))), (q3, .inl (c3, 4, .inr (.inr (.inr (.inr (fun _ => none)))))), (q4, .inr (1, [.int 0, .int 0, .int 0, .int 0, .int 0, .int 0])), (q5, .inr (1, [.int 0, .int 0, .int 0, .int 0, .int 0, .int 0])), (q6, .inr (1, [.int 0, .int 0, .int 0, .int 0, .int 0, .int 0])), (q7, .inr (1, [.int 0, .int 0, .int 0, .int 0, .int 0, .int 0])), (q8, .inr (1, [.int 0, .int 0, .int 0, .int 0, .int 0, .int 0])), (q9, .inr (1, [.int 0, .int 0, .int 0, .int 0, .int 0, .int 0])), (q10, .inr (5, [.int 0, .int 0, .int 0, .int 0, .int 0, .int 0, .int 0, .int 0]))] H := hP
  have hD : va_D A [(h0, .inr (3, [.ref q1, .ref q2, .ref q3, .int 0, .int 0, .int 0, .int 0])), (q1, .inr (4, [.int 0, .int 0, .int 0, .int 999])), (q2, .inl (c2, 6, .inr (.inr (.inr (.inr (va_up (va_up (va_up (va_up (va_up (va_up (fun _ => none) 0 (some q4)) 1 (some q5)) 2 (some q6)) 3 (some q7)) 4 (some q8)) 5 (some q9))))))), (q3, .inl (c3, 4, .inr (.inr (.inr (.inr (fun _ => none)))))), (q4, .inr (1, [.int 0, .int 0, .int 0, .int 0, .int 0, .int 0])), (q5, .inr (1, [.int 0, .int 0, .int 0, .int 0, .int 0, .int 0])), (q6, .inr (1, [.int 0, .int 0, .int 0, .int 0, .int 0, .int 0])), (q7, .inr (1, [.int 0, .int 0, .int 0, .int 0, .int 0, .int 0])), (q8, .inr (1, [.int 0, .int 0, .int 0, .int 0, .int 0, .int 0])), (q9, .inr (1, [.int 0, .int 0, .int 0, .int 0, .int 0, .int 0])), (q10, .inr (5, [.int 0, .int 0, .int 0, .int 0, .int 0, .int 0, .int 0, .int 0]))] := hD
  refine W.widen (k := 10) (n := 58) (Nat.le_of_ble_eq_true rfl) (Nat.le_of_ble_eq_true rfl) ?_
  refine lv_dup hx hb dX3_init_74 rfl ?_
  have hPc := hP.sub (ws' := [(q10, .inr (5, [.int 0, .int 0, .int 0, .int 0, .int 0, .int 0, .int 0, .int 0]))]) [10] rfl
  have hDc := hD.sub (ws' := [(q10, .inr (5, [.int 0, .int 0, .int 0, .int 0, .int 0, .int 0, .int 0, .int 0]))]) [10] (by decide) rfl
  have hKc := hK.sub (tys' := []) [] rfl
  have hFc := va_free (wc := [(q10, .inr (5, [.int 0, .int 0, .int 0, .int 0, .int 0, .int 0, .int 0, .int 0]))]) hD hS hA [10] rfl
  refine va_callv (va_runIN (As := []) (rest := [.ref q10, .int 0, .ref q3]) ⟨hx, hb, hml, hown, hts⟩ (k_X5 l D q10 H.size) ⟨va_cnB 0 hts (ct_good cg_23) rfl rfl rfl (hZ.1 _ (List.mem_of_getElem? (i := 3) rfl)) (hts _ cg_22) (by decide +kernel) ⟨Nat.le_of_ble_eq_true rfl, Nat.le_of_ble_eq_true rfl⟩, rfl, hts _ cg_24⟩ ⟨ct_blind, fun U hU hW => ⟨rfl, by rw [hU], by rw [hU]; exact hPc, va_K.moved hW.alike hKc, hDc.weaken (fun _ _ _ _ => trivial), hZ.warm hW⟩⟩ rfl rfl hl.1 rfl (lv_room (Nat.le_of_ble_eq_true rfl)) dX3_init_75 ⟨Nat.le_of_ble_eq_true rfl, Nat.le_of_ble_eq_true rfl⟩) hS (fun q _ h => hFc q h) hFc (fun u_q10 t H1 locs ht hvm hw hB hz1 hk1 hS => ?_)
  obtain ⟨hP1, hK1, hD1⟩ := hB
  rw [ht] at hP1
  have hK1 := va_K.moved hvm.symm hK1
  obtain ⟨hP, hD⟩ := va_join (wr := [(h0, .inr (3, [.ref q1, .ref q2, .ref q3, .int 0, .int 0, .int 0, .int 0])), (q1, .inr (4, [.int 0, .int 0, .int 0, .int 999])), (q2, .inl (c2, 6, .inr (.inr (.inr (.inr (va_up (va_up (va_up (va_up (va_up (va_up (fun _ => none) 0 (some q4)) 1 (some q5)) 2 (some q6)) 3 (some q7)) 4 (some q8)) 5 (some q9))))))), (q3, .inl (c3, 4, .inr (.inr (.inr (.inr (fun _ => none)))))), (q4, .inr (1, [.int 0, .int 0, .int 0, .int 0, .int 0, .int 0])), (q5, .inr (1, [.int 0, .int 0, .int 0, .int 0, .int 0, .int 0])), (q6, .inr (1, [.int 0, .int 0, .int 0, .int 0, .int 0, .int 0])), (q7, .inr (1, [.int 0, .int 0, .int 0, .int 0, .int 0, .int 0])), (q8, .inr (1, [.int 0, .int 0, .int 0, .int 0, .int 0, .int 0])), (q9, .inr (1, [.int 0, .int 0, .int 0, .int 0, .int 0, .int 0]))]) (w1 := (gX5 q10 u_q10)) hP hD [10] [0, 1, 2, 3, 4, 5, 6, 7, 8, 9] rfl rfl (by decide +kernel) (by decide +kernel) hk1 hFc hP1 hD1
  have hK := (hK.sub (tys' := [(c2, .object RX1), (c3, .object RX5)]) [0, 1] rfl).app hK1
  generalize H1 = H at hP hS ⊢
  have hP : va_P D vwCl [(h0, .inr (3, [.ref q1, .ref q2, .ref q3, .int 0, .int 0, .int 0, .int 0])), (q1, .inr (4, [.int 0, .int 0, .int 0, .int 999])), (q2, .inl (c2, 6, .inr (.inr (.inr (.inr (va_up (va_up (va_up (va_up (va_up (va_up (fun _ => none) 0 (some q4)) 1 (some q5)) 2 (some q6)) 3 (some q7)) 4 (some q8)) 5 (some q9))))))), (q3, .inl (c3, 4, .inr (.inr (.inr (.inr (fun _ => none)))))), (q4, .inr (1, [.int 0, .int 0, .int 0, .int 0, .int 0, .int 0])), (q5, .inr (1, [.int 0, .int 0, .int 0, .int 0, .int 0, .int 0])), (q6, .inr (1, [.int 0, .int 0, .int 0, .int 0, .int 0, .int 0])), (q7, .inr (1, [.int 0, .int 0, .int 0, .int 0, .int 0, .int 0])), (q8, .inr (1, [.int 0, .int 0, .int 0, .int 0, .int 0, .int 0])), (q9, .inr (1, [.int 0, .int 0, .int 0, .int 0, .int 0, .int 0])), (q10, .inr (5, [.int 0, .int 0, .int 0, .int 0, .int 0, .int 0, .int 0, .int 0]))] H := hP
  have hD : va_D A [(h0, .inr (3, [.ref q1, .ref q2, .ref q3, .int 0, .int 0, .int 0, .int 0])), (q1, .inr (4, [.int 0, .int 0, .int 0, .int 999])), (q2, .inl (c2, 6, .inr (.inr (.inr (.inr (va_up (va_up (va_up (va_up (va_up (va_up (fun _ => none) 0 (some q4)) 1 (some q5)) 2 (some q6)) 3 (some q7)) 4 (some q8)) 5 (some q9))))))), (q3, .inl (c3, 4, .inr (.inr (.inr (.inr (fun _ => none)))))), (q4, .inr (1, [.int 0, .int 0, .int 0, .int 0, .int 0, .int 0])), (q5, .inr (1, [.int 0, .int 0, .int 0, .int 0, .int 0, .int 0])), (q6, .inr (1, [.int 0, .int 0, .int 0, .int 0, .int 0, .int 0])), (q7, .inr (1, [.int 0, .int 0, .int 0, .int 0, .int 0, .int 0])), (q8, .inr (1, [.int 0, .int 0, .int 0, .int 0, .int 0, .int 0])), (q9, .inr (1, [.int 0, .int 0, .int 0, .int 0, .int 0, .int 0])), (q10, .inr (5, [.int 0, .int 0, .int 0, .int 0, .int 0, .int 0, .int 0, .int 0]))] := hD
  have hK : va_K D vwCl [(c2, .object RX1), (c3, .object RX5)] s := hK
  refine W.widen (k := 10) (n := 58) (Nat.le_of_ble_eq_true rfl) (Nat.le_of_ble_eq_true rfl) ?_
  refine va_astq hx hb hK hP hD hS 3 1 10 5 (r := (RX5, TX5, 8)) rfl rfl rfl rfl (vp_in_nI (n := 0) (by omega) (by omega)) dX3_init_78 (fun H locs hP hD hS => ?_)
  have hP : va_P D vwCl [(h0, .inr (3, [.ref q1, .ref q2, .ref q3, .int 0, .int 0, .int 0, .int 0])), (q1, .inr (4, [.int 0, .int 0, .int 0, .int 999])), (q2, .inl (c2, 6, .inr (.inr (.inr (.inr (va_up (va_up (va_up (va_up (va_up (va_up (fun _ => none) 0 (some q4)) 1 (some q5)) 2 (some q6)) 3 (some q7)) 4 (some q8)) 5 (some q9))))))), (q3, .inl (c3, 4, .inr (.inr (.inr (.inr (va_up (fun _ => none) 0 (some q10))))))), (q4, .inr (1, [.int 0, .int 0, .int 0, .int 0, .int 0, .int 0])), (q5, .inr (1, [.int 0, .int 0, .int 0, .int 0, .int 0, .int 0])), (q6, .inr (1, [.int 0, .int 0, .int 0, .int 0, .int 0, .int 0])), (q7, .inr (1, [.int 0, .int 0, .int 0, .int 0, .int 0, .int 0])), (q8, .inr (1, [.int 0, .int 0, .int 0, .int 0, .int 0, .int 0])), (q9, .inr (1, [.int 0, .int 0, .int 0, .int 0, .int 0, .int 0])), (q10, .inr (5, [.int 0, .int 0, .int 0, .int 0, .int 0, .int 0, .int 0, .int 0]))] H := hP
  have hD : va_D A [(h0, .inr (3, [.ref q1, .ref q2, .ref q3, .int 0, .int 0, .int 0, .int 0])), (q1, .inr (4, [.int 0, .int 0, .int 0, .int 999])), (q2, .inl (c2, 6, .inr (.inr (.inr (.inr (va_up (va_up (va_up (va_up (va_up (va_up (fun _ => none) 0 (some q4)) 1 (some q5)) 2 (some q6)) 3 (some q7)) 4 (some q8)) 5 (some q9))))))), (q3, .inl (c3, 4, .inr (.inr (.inr (.inr (va_up (fun _ => none) 0 (some q10))))))), (q4, .inr (1, [.int 0, .int 0, .int 0, .int 0, .int 0, .int 0])), (q5, .inr (1, [.int 0, .int 0, .int 0, .int 0, .int 0, .int 0])), (q6, .inr (1, [.int 0, .int 0, .int 0, .int 0, .int 0, .int 0])), (q7, .inr (1, [.int 0, .int 0, .int 0, .int 0, .int 0, .int 0])), (q8, .inr (1, [.int 0, .int 0, .int 0, .int 0, .int 0, .int 0])), (q9, .inr (1, [.int 0, .int 0, .int 0, .int 0, .int 0, .int 0])), (q10, .inr (5, [.int 0, .int 0, .int 0, .int 0, .int 0, .int 0, .int 0, .int 0]))] := hD
  refine lv_iinc (v := 1) (lv' := [(1, .int 1), (0, .ref h0)]) hx hb dX3_init_79 hl (k := 0) rfl (by decide) (by decide) rfl (fun ls hl => ?_)
  refine lv_goto (tgt := 61) hx hb dX3_init_82 (by decide) ?_
  refine lv_iload_n hx hb dX3_init_61 rfl (lv_at hl 0 rfl) ?_
  refine lv_iconst (v := 4) hx hb dX3_init_62 (by decide) ?_
  refine lv_icmp_ge (tgt := 85) hx hb dX3_init_63 (by decide) (fun z => absurd z (by decide)) (fun _ => ?_)
  refine lv_aload_n hx hb dX3_init_66 rfl (lv_at hl 1 rfl) ?_
  refine va_get (D := D) (ci := 3) (v := .ref q3) (C := RX3) (T := TX3) (N := 7) hx hb hts (bl_cls_ws 3 RX3 TX3 7 rfl) hown hK hP 0 rfl rfl 2 (by decide) (hts _ cg_16) (fun _ h9 => h9) rfl dX3_init_67 ?_
  refine lv_iload_n hx hb dX3_init_70 rfl (lv_at hl 0 rfl) ?_
  refine va_new (ci := 5) (fs := [.int 0, .int 0, .int 0, .int 0, .int 0, .int 0, .int 0, .int 0]) (C := RX5) (T := TX5) (N := 8) hx hb hts (bl_cls_ws 5 RX5 TX5 8 rfl) tyX5 tyX5_ok hown (hts _ cg_15) (hts _ cg_21) (hts _ cg_22) hK hP hD hS hA rfl (by decide +kernel) (Nat.le_of_ble_eq_true rfl) (Nat.le_of_ble_eq_true rfl) dX3_init_71 (fun q11 H hP hD hS => ?_)
  have hP : va_P D vwCl [(h0, .inr (3, [.ref q1, .ref q2, .ref q3, .int 0, .int 0, .int 0, .int 0])), (q1, .inr (4, [.int 0, .int 0, .int 0, .int 999])), (q2, .inl (c2, 6, .inr (.inr (.inr (.inr (va_up (va_up (va_up (va_up (va_up (va_up (fun _ => none) 0 (some q4)) 1 (some q5)) 2 (some q6)) 3 (some q7)) 4 (some q8)) 5 (some q9))))))), (q3, .inl (c3, 4, .inr (.inr (.inr (.inr (va_up (fun _ => none) 0 (some q10))))))), (q4, .inr (1, [.int 0, .int 0, .int 0, .int 0, .int 0, .int 0])), (q5, .inr (1, [.int 0, .int 0, .int 0, .int 0, .int 0, .int 0])), (q6, .inr (1, [.int 0, .int 0, .int 0, .int 0, .int 0, .int 0])), (q7, .inr (1, [.int 0, .int 0, .int 0, .int 0, .int 0, .int 0])), (q8, .inr (1, [.int 0, .int 0, .int 0, .int 0, .int 0, .int 0])), (q9, .inr (1, [.int 0, .int 0, .int 0, .int 0, .int 0, .int 0])), (q10, .inr (5, [.int 0, .int 0, .int 0, .int 0, .int 0, .int 0, .int 0, .int 0])), (q11, .inr (5, [.int 0, .int 0, .int 0, .int 0, .int 0, .int 0, .int 0, .int 0]))] H := hP
  have hD : va_D A [(h0, .inr (3, [.ref q1, .ref q2, .ref q3, .int 0, .int 0, .int 0, .int 0])), (q1, .inr (4, [.int 0, .int 0, .int 0, .int 999])), (q2, .inl (c2, 6, .inr (.inr (.inr (.inr (va_up (va_up (va_up (va_up (va_up (va_up (fun _ => none) 0 (some q4)) 1 (some q5)) 2 (some q6)) 3 (some q7)) 4 (some q8)) 5 (some q9))))))), (q3, .inl (c3, 4, .inr (.inr (.inr (.inr (va_up (fun _ => none) 0 (some q10))))))), (q4, .inr (1, [.int 0, .int 0, .int 0, .int 0, .int 0, .int 0])), (q5, .inr (1, [.int 0, .int 0, .int 0, .int 0, .int 0, .int 0])), (q6, .inr (1, [.int 0, .int 0, .int 0, .int 0, .int 0, .int 0])), (q7, .inr (1, [.int 0, .int 0, .int 0, .int 0, .int 0, .int 0])), (q8, .inr (1, [.int 0, .int 0, .int 0, .int 0, .int 0, .int 0])), (q9, .inr (1, [.int 0, .int 0, .int 0, .int 0, .int 0, .int 0])), (q10, .inr (5, [.int 0, .int 0, .int 0, .int 0, .int 0, .int 0, .int 0, .int 0])), (q11, .inr (5, [.int 0, .int 0, .int 0, .int 0, .int 0, .int 0, .int 0, .int 0]))] := hD
  refine W.widen (k := 11) (n := 66) (Nat.le_of_ble_eq_true rfl) (Nat.le_of_ble_eq_true rfl) ?_
  refine lv_dup hx hb dX3_init_74 rfl ?_
  have hPc := hP.sub (ws' := [(q11, .inr (5, [.int 0, .int 0, .int 0, .int 0, .int 0, .int 0, .int 0, .int 0]))]) [11] rfl
  have hDc := hD.sub (ws' := [(q11, .inr (5, [.int 0, .int 0, .int 0, .int 0, .int 0, .int 0, .int 0, .int 0]))]) [11] (by decide) rfl
  have hKc := hK.sub (tys' := []) [] rfl
  have hFc := va_free (wc := [(q11, .inr (5, [.int 0, .int 0, .int 0, .int 0, .int 0, .int 0, .int 0, .int 0]))]) hD hS hA [11] rfl
  refine va_callv (va_runIN (As := []) (rest := [.ref q11, .int 1, .ref q3]) ⟨hx, hb, hml, hown, hts⟩ (k_X5 l D q11 H.size) ⟨va_cnB 0 hts (ct_good cg_23) rfl rfl rfl (hZ.1 _ (List.mem_of_getElem? (i := 3) rfl)) (hts _ cg_22) (by decide +kernel) ⟨Nat.le_of_ble_eq_true rfl, Nat.le_of_ble_eq_true rfl⟩, rfl, hts _ cg_24⟩ ⟨ct_blind, fun U hU hW => ⟨rfl, by rw [hU], by rw [hU]; exact hPc, va_K.moved hW.alike hKc, hDc.weaken (fun _ _ _ _ => trivial), hZ.warm hW⟩⟩ rfl rfl hl.1 rfl (lv_room (Nat.le_of_ble_eq_true rfl)) dX3_init_75 ⟨Nat.le_of_ble_eq_true rfl, Nat.le_of_ble_eq_true rfl⟩) hS (fun q _ h => hFc q h) hFc (fun u_q11 t H1 locs ht hvm hw hB hz1 hk1 hS => ?_)
  obtain ⟨hP1, hK1, hD1⟩ := hB
  rw [ht] at hP1
  have hK1 := va_K.moved hvm.symm hK1
  obtain ⟨hP, hD⟩ := va_join (wr := [(h0, .inr (3, [.ref q1, .ref q2, .ref q3, .int 0, .int 0, .int 0, .int 0])), (q1, .inr (4, [.int 0, .int 0, .int 0, .int 999])), (q2, .inl (c2, 6, .inr (.inr (.inr (.inr (va_up (va_up (va_up (va_up (va_up (va_up (fun _ => none) 0 (some q4)) 1 (some q5)) 2 (some q6)) 3 (some q7)) 4 (some q8)) 5 (some q9))))))), (q3, .inl (c3, 4, .inr (.inr (.inr (.inr (va_up (fun _ => none) 0 (some q10))))))), (q4, .inr (1, [.int 0, .int 0, .int 0, .int 0, .int 0, .int 0])), (q5, .inr (1, [.int 0, .int 0, .int 0, .int 0, .int 0, .int 0])), (q6, .inr (1, [.int 0, .int 0, .int 0, .int 0, .int 0, .int 0])), (q7, .inr (1, [.int 0, .int 0, .int 0, .int 0, .int 0, .int 0])), (q8, .inr (1, [.int 0, .int 0, .int 0, .int 0, .int 0, .int 0])), (q9, .inr (1, [.int 0, .int 0, .int 0, .int 0, .int 0, .int 0])), (q10, .inr (5, [.int 0, .int 0, .int 0, .int 0, .int 0, .int 0, .int 0, .int 0]))]) (w1 := (gX5 q11 u_q11)) hP hD [11] [0, 1, 2, 3, 4, 5, 6, 7, 8, 9, 10] rfl rfl (by decide +kernel) (by decide +kernel) hk1 hFc hP1 hD1
  have hK := (hK.sub (tys' := [(c2, .object RX1), (c3, .object RX5)]) [0, 1] rfl).app hK1
  generalize H1 = H at hP hS ⊢
  have hP : va_P D vwCl [(h0, .inr (3, [.ref q1, .ref q2, .ref q3, .int 0, .int 0, .int 0, .int 0])), (q1, .inr (4, [.int 0, .int 0, .int 0, .int 999])), (q2, .inl (c2, 6, .inr (.inr (.inr (.inr (va_up (va_up (va_up (va_up (va_up (va_up (fun _ => none) 0 (some q4)) 1 (some q5)) 2 (some q6)) 3 (some q7)) 4 (some q8)) 5 (some q9))))))), (q3, .inl (c3, 4, .inr (.inr (.inr (.inr (va_up (fun _ => none) 0 (some q10))))))), (q4, .inr (1, [.int 0, .int 0, .int 0, .int 0, .int 0, .int 0])), (q5, .inr (1, [.int 0, .int 0, .int 0, .int 0, .int 0, .int 0])), (q6, .inr (1, [.int 0, .int 0, .int 0, .int 0, .int 0, .int 0])), (q7, .inr (1, [.int 0, .int 0, .int 0, .int 0, .int 0, .int 0])), (q8, .inr (1, [.int 0, .int 0, .int 0, .int 0, .int 0, .int 0])), (q9, .inr (1, [.int 0, .int 0, .int 0, .int 0, .int 0, .int 0])), (q10, .inr (5, [.int 0, .int 0, .int 0, .int 0, .int 0, .int 0, .int 0, .int 0])), (q11, .inr (5, [.int 0, .int 0, .int 0, .int 0, .int 0, .int 0, .int 0, .int 0]))] H := hP
  have hD : va_D A [(h0, .inr (3, [.ref q1, .ref q2, .ref q3, .int 0, .int 0, .int 0, .int 0])), (q1, .inr (4, [.int 0, .int 0, .int 0, .int 999])), (q2, .inl (c2, 6, .inr (.inr (.inr (.inr (va_up (va_up (va_up (va_up (va_up (va_up (fun _ => none) 0 (some q4)) 1 (some q5)) 2 (some q6)) 3 (some q7)) 4 (some q8)) 5 (some q9))))))), (q3, .inl (c3, 4, .inr (.inr (.inr (.inr (va_up (fun _ => none) 0 (some q10))))))), (q4, .inr (1, [.int 0, .int 0, .int 0, .int 0, .int 0, .int 0])), (q5, .inr (1, [.int 0, .int 0, .int 0, .int 0, .int 0, .int 0])), (q6, .inr (1, [.int 0, .int 0, .int 0, .int 0, .int 0, .int 0])), (q7, .inr (1, [.int 0, .int 0, .int 0, .int 0, .int 0, .int 0])), (q8, .inr (1, [.int 0, .int 0, .int 0, .int 0, .int 0, .int 0])), (q9, .inr (1, [.int 0, .int 0, .int 0, .int 0, .int 0, .int 0])), (q10, .inr (5, [.int 0, .int 0, .int 0, .int 0, .int 0, .int 0, .int 0, .int 0])), (q11, .inr (5, [.int 0, .int 0, .int 0, .int 0, .int 0, .int 0, .int 0, .int 0]))] := hD
  have hK : va_K D vwCl [(c2, .object RX1), (c3, .object RX5)] s := hK
  refine W.widen (k := 11) (n := 66) (Nat.le_of_ble_eq_true rfl) (Nat.le_of_ble_eq_true rfl) ?_
  refine va_astq hx hb hK hP hD hS 3 1 11 5 (r := (RX5, TX5, 8)) rfl rfl rfl rfl (vp_in_nI (n := 1) (by omega) (by omega)) dX3_init_78 (fun H locs hP hD hS => ?_)
  have hP : va_P D vwCl [(h0, .inr (3, [.ref q1, .ref q2, .ref q3, .int 0, .int 0, .int 0, .int 0])), (q1, .inr (4, [.int 0, .int 0, .int 0, .int 999])), (q2, .inl (c2, 6, .inr (.inr (.inr (.inr (va_up (va_up (va_up (va_up (va_up (va_up (fun _ => none) 0 (some q4)) 1 (some q5)) 2 (some q6)) 3 (some q7)) 4 (some q8)) 5 (some q9))))))), (q3, .inl (c3, 4, .inr (.inr (.inr (.inr (va_up (va_up (fun _ => none) 0 (some q10)) 1 (some q11))))))), (q4, .inr (1, [.int 0, .int 0, .int 0, .int 0, .int 0, .int 0])), (q5, .inr (1, [.int 0, .int 0, .int 0, .int 0, .int 0, .int 0])), (q6, .inr (1, [.int 0, .int 0, .int 0, .int 0, .int 0, .int 0])), (q7, .inr (1, [.int 0, .int 0, .int 0, .int 0, .int 0, .int 0])), (q8, .inr (1, [.int 0, .int 0, .int 0, .int 0, .int 0, .int 0])), (q9, .inr (1, [.int 0, .int 0, .int 0, .int 0, .int 0, .int 0])), (q10, .inr (5, [.int 0, .int 0, .int 0, .int 0, .int 0, .int 0, .int 0, .int 0])), (q11, .inr (5, [.int 0, .int 0, .int 0, .int 0, .int 0, .int 0, .int 0, .int 0]))] H := hP
  have hD : va_D A [(h0, .inr (3, [.ref q1, .ref q2, .ref q3, .int 0, .int 0, .int 0, .int 0])), (q1, .inr (4, [.int 0, .int 0, .int 0, .int 999])), (q2, .inl (c2, 6, .inr (.inr (.inr (.inr (va_up (va_up (va_up (va_up (va_up (va_up (fun _ => none) 0 (some q4)) 1 (some q5)) 2 (some q6)) 3 (some q7)) 4 (some q8)) 5 (some q9))))))), (q3, .inl (c3, 4, .inr (.inr (.inr (.inr (va_up (va_up (fun _ => none) 0 (some q10)) 1 (some q11))))))), (q4, .inr (1, [.int 0, .int 0, .int 0, .int 0, .int 0, .int 0])), (q5, .inr (1, [.int 0, .int 0, .int 0, .int 0, .int 0, .int 0])), (q6, .inr (1, [.int 0, .int 0, .int 0, .int 0, .int 0, .int 0])), (q7, .inr (1, [.int 0, .int 0, .int 0, .int 0, .int 0, .int 0])), (q8, .inr (1, [.int 0, .int 0, .int 0, .int 0, .int 0, .int 0])), (q9, .inr (1, [.int 0, .int 0, .int 0, .int 0, .int 0, .int 0])), (q10, .inr (5, [.int 0, .int 0, .int 0, .int 0, .int 0, .int 0, .int 0, .int 0])), (q11, .inr (5, [.int 0, .int 0, .int 0, .int 0, .int 0, .int 0, .int 0, .int 0]))] := hD
  refine lv_iinc (v := 2) (lv' := [(1, .int 2), (0, .ref h0)]) hx hb dX3_init_79 hl (k := 0) rfl (by decide) (by decide) rfl (fun ls hl => ?_)
  refine lv_goto (tgt := 61) hx hb dX3_init_82 (by decide) ?_
  refine lv_iload_n hx hb dX3_init_61 rfl (lv_at hl 0 rfl) ?_
  refine lv_iconst (v := 4) hx hb dX3_init_62 (by decide) ?_
  refine lv_icmp_ge (tgt := 85) hx hb dX3_init_63 (by decide) (fun z => absurd z (by decide)) (fun _ => ?_)
  refine lv_aload_n hx hb dX3_init_66 rfl (lv_at hl 1 rfl) ?_
  refine va_get (D := D) (ci := 3) (v := .ref q3) (C := RX3) (T := TX3) (N := 7) hx hb hts (bl_cls_ws 3 RX3 TX3 7 rfl) hown hK hP 0 rfl rfl 2 (by decide) (hts _ cg_16) (fun _ h9 => h9) rfl dX3_init_67 ?_
  refine lv_iload_n hx hb dX3_init_70 rfl (lv_at hl 0 rfl) ?_
  refine va_new (ci := 5) (fs := [.int 0, .int 0, .int 0, .int 0, .int 0, .int 0, .int 0, .int 0]) (C := RX5) (T := TX5) (N := 8) hx hb hts (bl_cls_ws 5 RX5 TX5 8 rfl) tyX5 tyX5_ok hown (hts _ cg_15) (hts _ cg_21) (hts _ cg_22) hK hP hD hS hA rfl (by decide +kernel) (Nat.le_of_ble_eq_true rfl) (Nat.le_of_ble_eq_true rfl) dX3_init_71 (fun q12 H hP hD hS => ?_)
  have hP : va_P D vwCl [(h0, .inr (3, [.ref q1, .ref q2, .ref q3, .int 0, .int 0, .int 0, .int 0])), (q1, .inr (4, [.int 0, .int 0, .int 0, .int 999])), (q2, .inl (c2, 6, .inr (.inr (.inr (.inr (va_up (va_up (va_up (va_up (va_up (va_up (fun _ => none) 0 (some q4)) 1 (some q5)) 2 (some q6)) 3 (some q7)) 4 (some q8)) 5 (some q9))))))), (q3, .inl (c3, 4, .inr (.inr (.inr (.inr (va_up (va_up (fun _ => none) 0 (some q10)) 1 (some q11))))))), (q4, .inr (1, [.int 0, .int 0, .int 0, .int 0, .int 0, .int 0])), (q5, .inr (1, [.int 0, .int 0, .int 0, .int 0, .int 0, .int 0])), (q6, .inr (1, [.int 0, .int 0, .int 0, .int 0, .int 0, .int 0])), (q7, .inr (1, [.int 0, .int 0, .int 0, .int 0, .int 0, .int 0])), (q8, .inr (1, [.int 0, .int 0, .int 0, .int 0, .int 0, .int 0])), (q9, .inr (1, [.int 0, .int 0, .int 0, .int 0, .int 0, .int 0])), (q10, .inr (5, [.int 0, .int 0, .int 0, .int 0, .int 0, .int 0, .int 0, .int 0])), (q11, .inr (5, [.int 0, .int 0, .int 0, .int 0, .int 0, .int 0, .int 0, .int 0])), (q12, .inr (5, [.int 0, .int 0, .int 0, .int 0, .int 0, .int 0, .int 0, .int 0]))] H := hP
  have hD : va_D A [(h0, .inr (3, [.ref q1, .ref q2, .ref q3, .int 0, .int 0, .int 0, .int 0])), (q1, .inr (4, [.int 0, .int 0, .int 0, .int 999])), (q2, .inl (c2, 6, .inr (.inr (.inr (.inr (va_up (va_up (va_up (va_up (va_up (va_up (fun _ => none) 0 (some q4)) 1 (some q5)) 2 (some q6)) 3 (some q7)) 4 (some q8)) 5 (some q9))))))), (q3, .inl (c3, 4, .inr (.inr (.inr (.inr (va_up (va_up (fun _ => none) 0 (some q10)) 1 (some q11))))))), (q4, .inr (1, [.int 0, .int 0, .int 0, .int 0, .int 0, .int 0])), (q5, .inr (1, [.int 0, .int 0, .int 0, .int 0, .int 0, .int 0])), (q6, .inr (1, [.int 0, .int 0, .int 0, .int 0, .int 0, .int 0])), (q7, .inr (1, [.int 0, .int 0, .int 0, .int 0, .int 0, .int 0])), (q8, .inr (1, [.int 0, .int 0, .int 0, .int 0, .int 0, .int 0])), (q9, .inr (1, [.int 0, .int 0, .int 0, .int 0, .int 0, .int 0])), (q10, .inr (5, [.int 0, .int 0, .int 0, .int 0, .int 0, .int 0, .int 0, .int 0])), (q11, .inr (5, [.int 0, .int 0, .int 0, .int 0, .int 0, .int 0, .int 0, .int 0])), (q12, .inr (5, [.int 0, .int 0, .int 0, .int 0, .int 0, .int 0, .int 0, .int 0]))] := hD
  refine W.widen (k := 12) (n := 74) (Nat.le_of_ble_eq_true rfl) (Nat.le_of_ble_eq_true rfl) ?_
  refine lv_dup hx hb dX3_init_74 rfl ?_
  have hPc := hP.sub (ws' := [(q12, .inr (5, [.int 0, .int 0, .int 0, .int 0, .int 0, .int 0, .int 0, .int 0]))]) [12] rfl
  have hDc := hD.sub (ws' := [(q12, .inr (5, [.int 0, .int 0, .int 0, .int 0, .int 0, .int 0, .int 0, .int 0]))]) [12] (by decide) rfl
  have hKc := hK.sub (tys' := []) [] rfl
  have hFc := va_free (wc := [(q12, .inr (5, [.int 0, .int 0, .int 0, .int 0, .int 0, .int 0, .int 0, .int 0]))]) hD hS hA [12] rfl
  refine va_callv (va_runIN (As := []) (rest := [.ref q12, .int 2, .ref q3]) ⟨hx, hb, hml, hown, hts⟩ (k_X5 l D q12 H.size) ⟨va_cnB 0 hts (ct_good cg_23) rfl rfl rfl (hZ.1 _ (List.mem_of_getElem? (i := 3) rfl)) (hts _ cg_22) (by decide +kernel) ⟨Nat.le_of_ble_eq_true rfl, Nat.le_of_ble_eq_true rfl⟩, rfl, hts _ cg_24⟩ ⟨ct_blind, fun U hU hW => ⟨rfl, by rw [hU], by rw [hU]; exact hPc, va_K.moved hW.alike hKc, hDc.weaken (fun _ _ _ _ => trivial), hZ.warm hW⟩⟩ rfl rfl hl.1 rfl (lv_room (Nat.le_of_ble_eq_true rfl)) dX3_init_75 ⟨Nat.le_of_ble_eq_true rfl, Nat.le_of_ble_eq_true rfl⟩) hS (fun q _ h => hFc q h) hFc (fun u_q12 t H1 locs ht hvm hw hB hz1 hk1 hS => ?_)
  obtain ⟨hP1, hK1, hD1⟩ := hB
  rw [ht] at hP1
  have hK1 := va_K.moved hvm.symm hK1
  obtain ⟨hP, hD⟩ := va_join (wr := [(h0, .inr (3, [.ref q1, .ref q2, .ref q3, .int 0, .int 0, .int 0, .int 0])), (q1, .inr (4, [.int 0, .int 0, .int 0, .int 999])), (q2, .inl (c2, 6, .inr (.inr (.inr (.inr (va_up (va_up (va_up (va_up (va_up (va_up (fun _ => none) 0 (some q4)) 1 (some q5)) 2 (some q6)) 3 (some q7)) 4 (some q8)) 5 (some q9))))))), (q3, .inl (c3, 4, .inr (.inr (.inr (.inr (va_up (va_up (fun _ => none) 0 (some q10)) 1 (some q11))))))), (q4, .inr (1, [.int 0, .int 0, .int 0, .int 0, .int 0, .int 0])), (q5, .inr (1, [.int 0, .int 0, .int 0, .int 0, .int 0, .int 0])), (q6, .inr (1, [.int 0, .int 0, .int 0, .int 0, .int 0, .int 0])), (q7, .inr (1, [.int 0, .int 0, .int 0, .int 0, .int 0, .int 0])), (q8, .inr (1, [.int 0, .int 0, .int 0, .int 0, .int 0, .int 0])), (q9, .inr (1, [.int 0, .int 0, .int 0, .int 0, .int 0, .int 0])), (q10, .inr (5, [.int 0, .int 0, .int 0, .int 0, .int 0, .int 0, .int 0, .int 0])), (q11, .inr (5, [.int 0, .int 0, .int 0, .int 0, .int 0, .int 0, .int 0, .int 0]))]) (w1 := (gX5 q12 u_q12)) hP hD [12] [0, 1, 2, 3, 4, 5, 6, 7, 8, 9, 10, 11] rfl rfl (by decide +kernel) (by decide +kernel) hk1 hFc hP1 hD1
  have hK := (hK.sub (tys' := [(c2, .object RX1), (c3, .object RX5)]) [0, 1] rfl).app hK1
  generalize H1 = H at hP hS ⊢
  have hP : va_P D vwCl [(h0, .inr (3, [.ref q1, .ref q2, .ref q3, .int 0, .int 0, .int 0, .int 0])), (q1, .inr (4, [.int 0, .int 0, .int 0, .int 999])), (q2, .inl (c2, 6, .inr (.inr (.inr (.inr (va_up (va_up (va_up (va_up (va_up (va_up (fun _ => none) 0 (some q4)) 1 (some q5)) 2 (some q6)) 3 (some q7)) 4 (some q8)) 5 (some q9))))))), (q3, .inl (c3, 4, .inr (.inr (.inr (.inr (va_up (va_up (fun _ => none) 0 (some q10)) 1 (some q11))))))), (q4, .inr (1, [.int 0, .int 0, .int 0, .int 0, .int 0, .int 0])), (q5, .inr (1, [.int 0, .int 0, .int 0, .int 0, .int 0, .int 0])), (q6, .inr (1, [.int 0, .int 0, .int 0, .int 0, .int 0, .int 0])), (q7, .inr (1, [.int 0, .int 0, .int 0, .int 0, .int 0, .int 0])), (q8, .inr (1, [.int 0, .int 0, .int 0, .int 0, .int 0, .int 0])), (q9, .inr (1, [.int 0, .int 0, .int 0, .int 0, .int 0, .int 0])), (q10, .inr (5, [.int 0, .int 0, .int 0, .int 0, .int 0, .int 0, .int 0, .int 0])), (q11, .inr (5, [.int 0, .int 0, .int 0, .int 0, .int 0, .int 0, .int 0, .int 0])), (q12, .inr (5, [.int 0, .int 0, .int 0, .int 0, .int 0, .int 0, .int 0, .int 0]))] H := hP
  have hD : va_D A [(h0, .inr (3, [.ref q1, .ref q2, .ref q3, .int 0, .int 0, .int 0, .int 0])), (q1, .inr (4, [.int 0, .int 0, .int 0, .int 999])), (q2, .inl (c2, 6, .inr (.inr (.inr (.inr (va_up (va_up (va_up (va_up (va_up (va_up (fun _ => none) 0 (some q4)) 1 (some q5)) 2 (some q6)) 3 (some q7)) 4 (some q8)) 5 (some q9))))))), (q3, .inl (c3, 4, .inr (.inr (.inr (.inr (va_up (va_up (fun _ => none) 0 (some q10)) 1 (some q11))))))), (q4, .inr (1, [.int 0, .int 0, .int 0, .int 0, .int 0, .int 0])), (q5, .inr (1, [.int 0, .int 0, .int 0, .int 0, .int 0, .int 0])), (q6, .inr (1, [.int 0, .int 0, .int 0, .int 0, .int 0, .int 0])), (q7, .inr (1, [.int 0, .int 0, .int 0, .int 0, .int 0, .int 0])), (q8, .inr (1, [.int 0, .int 0, .int 0, .int 0, .int 0, .int 0])), (q9, .inr (1, [.int 0, .int 0, .int 0, .int 0, .int 0, .int 0])), (q10, .inr (5, [.int 0, .int 0, .int 0, .int 0, .int 0, .int 0, .int 0, .int 0])), (q11, .inr (5, [.int 0, .int 0, .int 0, .int 0, .int 0, .int 0, .int 0, .int 0])), (q12, .inr (5, [.int 0, .int 0, .int 0, .int 0, .int 0, .int 0, .int 0, .int 0]))] := hD
  have hK : va_K D vwCl [(c2, .object RX1), (c3, .object RX5)] s := hK
  refine W.widen (k := 12) (n := 74) (Nat.le_of_ble_eq_true rfl) (Nat.le_of_ble_eq_true rfl) ?_
  refine va_astq hx hb hK hP hD hS 3 1 12 5 (r := (RX5, TX5, 8)) rfl rfl rfl rfl (vp_in_nI (n := 2) (by omega) (by omega)) dX3_init_78 (fun H locs hP hD hS => ?_)
  have hP : va_P D vwCl [(h0, .inr (3, [.ref q1, .ref q2, .ref q3, .int 0, .int 0, .int 0, .int 0])), (q1, .inr (4, [.int 0, .int 0, .int 0, .int 999])), (q2, .inl (c2, 6, .inr (.inr (.inr (.inr (va_up (va_up (va_up (va_up (va_up (va_up (fun _ => none) 0 (some q4)) 1 (some q5)) 2 (some q6)) 3 (some q7)) 4 (some q8)) 5 (some q9))))))), (q3, .inl (c3, 4, .inr (.inr (.inr (.inr (va_up (va_up (va_up (fun _ => none) 0 (some q10)) 1 (some q11)) 2 (some q12))))))), (q4, .inr (1, [.int 0, .int 0, .int 0, .int 0, .int 0, .int 0])), (q5, .inr (1, [.int 0, .int 0, .int 0, .int 0, .int 0, .int 0])), (q6, .inr (1, [.int 0, .int 0, .int 0, .int 0, .int 0, .int 0])), (q7, .inr (1, [.int 0, .int 0, .int 0, .int 0, .int 0, .int 0])), (q8, .inr (1, [.int 0, .int 0, .int 0, .int 0, .int 0, .int 0])), (q9, .inr (1, [.int 0, .int 0, .int 0, .int 0, .int 0, .int 0])), (q10, .inr (5, [.int 0, .int 0, .int 0, .int 0, .int 0, .int 0, .int 0, .int 0])), (q11, .inr (5, [.int 0, .int 0, .int 0, .int 0, .int 0, .int 0, .int 0, .int 0])), (q12, .inr (5, [.int 0, .int 0, .int 0, .int 0, .int 0, .int 0, .int 0, .int 0]))] H := hP
  have hD : va_D A [(h0, .inr (3, [.ref q1, .ref q2, .ref q3, .int 0, .int 0, .int 0, .int 0])), (q1, .inr (4, [.int 0, .int 0, .int 0, .int 999])), (q2, .inl (c2, 6, .inr (.inr (.inr (.inr (va_up (va_up (va_up (va_up (va_up (va_up (fun _ => none) 0 (some q4)) 1 (some q5)) 2 (some q6)) 3 (some q7)) 4 (some q8)) 5 (some q9))))))), (q3, .inl (c3, 4, .inr (.inr (.inr (.inr (va_up (va_up (va_up (fun _ => none) 0 (some q10)) 1 (some q11)) 2 (some q12))))))), (q4, .inr (1, [.int 0, .int 0, .int 0, .int 0, .int 0, .int 0])), (q5, .inr (1, [.int 0, .int 0, .int 0, .int 0, .int 0, .int 0])), (q6, .inr (1, [.int 0, .int 0, .int 0, .int 0, .int 0, .int 0])), (q7, .inr (1, [.int 0, .int 0, .int 0, .int 0, .int 0, .int 0])), (q8, .inr (1, [.int 0, .int 0, .int 0, .int 0, .int 0, .int 0])), (q9, .inr (1, [.int 0, .int 0, .int 0, .int 0, .int 0, .int 0])), (q10, .inr (5, [.int 0, .int 0, .int 0, .int 0, .int 0, .int 0, .int 0, .int 0])), (q11, .inr (5, [.int 0, .int 0, .int 0, .int 0, .int 0, .int 0, .int 0, .int 0])), (q12, .inr (5, [.int 0, .int 0, .int 0, .int 0, .int 0, .int 0, .int 0, .int 0]))] := hD
  refine lv_iinc (v := 3) (lv' := [(1, .int 3), (0, .ref h0)]) hx hb dX3_init_79 hl (k := 0) rfl (by decide) (by decide) rfl (fun ls hl => ?_)
  refine lv_goto (tgt := 61) hx hb dX3_init_82 (by decide) ?_
  refine lv_iload_n hx hb dX3_init_61 rfl (lv_at hl 0 rfl) ?_
  refine lv_iconst (v := 4) hx hb dX3_init_62 (by decide) ?_
  refine lv_icmp_ge (tgt := 85) hx hb dX3_init_63 (by decide) (fun z => absurd z (by decide)) (fun _ => ?_)
  refine lv_aload_n hx hb dX3_init_66 rfl (lv_at hl 1 rfl) ?_
  refine va_get (D := D) (ci := 3) (v := .ref q3) (C := RX3) (T := TX3) (N := 7) hx hb hts (bl_cls_ws 3 RX3 TX3 7 rfl) hown hK hP 0 rfl rfl 2 (by decide) (hts _ cg_16) (fun _ h9 => h9) rfl dX3_init_67 ?_
  refine lv_iload_n hx hb dX3_init_70 rfl (lv_at hl 0 rfl) ?_
  refine va_new (ci := 5) (fs := [.int 0, .int 0, .int 0, .int 0, .int 0, .int 0, .int 0, .int 0]) (C := RX5) (T := TX5) (N := 8) hx hb hts (bl_cls_ws 5 RX5 TX5 8 rfl) tyX5 tyX5_ok hown (hts _ cg_15) (hts _ cg_21) (hts _ cg_22) hK hP hD hS hA rfl (by decide +kernel) (Nat.le_of_ble_eq_true rfl) (Nat.le_of_ble_eq_true rfl) dX3_init_71 (fun q13 H hP hD hS => ?_)
  have hP : va_P D vwCl [(h0, .inr (3, [.ref q1, .ref q2, .ref q3, .int 0, .int 0, .int 0, .int 0])), (q1, .inr (4, [.int 0, .int 0, .int 0, .int 999])), (q2, .inl (c2, 6, .inr (.inr (.inr (.inr (va_up (va_up (va_up (va_up (va_up (va_up (fun _ => none) 0 (some q4)) 1 (some q5)) 2 (some q6)) 3 (some q7)) 4 (some q8)) 5 (some q9))))))), (q3, .inl (c3, 4, .inr (.inr (.inr (.inr (va_up (va_up (va_up (fun _ => none) 0 (some q10)) 1 (some q11)) 2 (some q12))))))), (q4, .inr (1, [.int 0, .int 0, .int 0, .int 0, .int 0, .int 0])), (q5, .inr (1, [.int 0, .int 0, .int 0, .int 0, .int 0, .int 0])), (q6, .inr (1, [.int 0, .int 0, .int 0, .int 0, .int 0, .int 0])), (q7, .inr (1, [.int 0, .int 0, .int 0, .int 0, .int 0, .int 0])), (q8, .inr (1, [.int 0, .int 0, .int 0, .int 0, .int 0, .int 0])), (q9, .inr (1, [.int 0, .int 0, .int 0, .int 0, .int 0, .int 0])), (q10, .inr (5, [.int 0, .int 0, .int 0, .int 0, .int 0, .int 0, .int 0, .int 0])), (q11, .inr (5, [.int 0, .int 0, .int 0, .int 0, .int 0, .int 0, .int 0, .int 0])), (q12, .inr (5, [.int 0, .int 0, .int 0, .int 0, .int 0, .int 0, .int 0, .int 0])), (q13, .inr (5, [.int 0, .int 0, .int 0, .int 0, .int 0, .int 0, .int 0, .int 0]))] H := hP
  have hD : va_D A [(h0, .inr (3, [.ref q1, .ref q2, .ref q3, .int 0, .int 0, .int 0, .int 0])), (q1, .inr (4, [.int 0, .int 0, .int 0, .int 999])), (q2, .inl (c2, 6, .inr (.inr (.inr (.inr (va_up (va_up (va_up (va_up (va_up (va_up (fun _ => none) 0 (some q4)) 1 (some q5)) 2 (some q6)) 3 (some q7)) 4 (some q8)) 5 (some q9))))))), (q3, .inl (c3, 4, .inr (.inr (.inr (.inr (va_up (va_up (va_up (fun _ => none) 0 (some q10)) 1 (some q11)) 2 (some q12))))))), (q4, .inr (1, [.int 0, .int 0, .int 0, .int 0, .int 0, .int 0])), (q5, .inr (1, [.int 0, .int 0, .int 0, .int 0, .int 0, .int 0])), (q6, .inr (1, [.int 0, .int 0, .int 0, .int 0, .int 0, .int 0])), (q7, .inr (1, [.int 0, .int 0, .int 0, .int 0, .int 0, .int 0])), (q8, .inr (1, [.int 0, .int 0, .int 0, .int 0, .int 0, .int 0])), (q9, .inr (1, [.int 0, .int 0, .int 0, .int 0, .int 0, .int 0])), (q10, .inr (5, [.int 0, .int 0, .int 0, .int 0, .int 0, .int 0, .int 0, .int 0])), (q11, .inr (5, [.int 0, .int 0, .int 0, .int 0, .int 0, .int 0, .int 0, .int 0])), (q12, .inr (5, [.int 0, .int 0, .int 0, .int 0, .int 0, .int 0, .int 0, .int 0])), (q13, .inr (5, [.int 0, .int 0, .int 0, .int 0, .int 0, .int 0, .int 0, .int 0]))] := hD
  refine W.widen (k := 13) (n := 82) (Nat.le_of_ble_eq_true rfl) (Nat.le_of_ble_eq_true rfl) ?_
  refine lv_dup hx hb dX3_init_74 rfl ?_
  have hPc := hP.sub (ws' := [(q13, .inr (5, [.int 0, .int 0, .int 0, .int 0, .int 0, .int 0, .int 0, .int 0]))]) [13] rfl
  have hDc := hD.sub (ws' := [(q13, .inr (5, [.int 0, .int 0, .int 0, .int 0, .int 0, .int 0, .int 0, .int 0]))]) [13] (by decide) rfl
  have hKc := hK.sub (tys' := []) [] rfl
  have hFc := va_free (wc := [(q13, .inr (5, [.int 0, .int 0, .int 0, .int 0, .int 0, .int 0, .int 0, .int 0]))]) hD hS hA [13] rfl
  refine va_callv (va_runIN (As := []) (rest := [.ref q13, .int 3, .ref q3]) ⟨hx, hb, hml, hown, hts⟩ (k_X5 l D q13 H.size) ⟨va_cnB 0 hts (ct_good cg_23) rfl rfl rfl (hZ.1 _ (List.mem_of_getElem? (i := 3) rfl)) (hts _ cg_22) (by decide +kernel) ⟨Nat.le_of_ble_eq_true rfl, Nat.le_of_ble_eq_true rfl⟩, rfl, hts _ cg_24⟩ ⟨ct_blind, fun U hU hW => ⟨rfl, by rw [hU], by rw [hU]; exact hPc, va_K.moved hW.alike hKc, hDc.weaken (fun _ _ _ _ => trivial), hZ.warm hW⟩⟩ rfl rfl hl.1 rfl (lv_room (Nat.le_of_ble_eq_true rfl)) dX3_init_75 ⟨Nat.le_of_ble_eq_true rfl, Nat.le_of_ble_eq_true rfl⟩) hS (fun q _ h => hFc q h) hFc (fun u_q13 t H1 locs ht hvm hw hB hz1 hk1 hS => ?_)
  obtain ⟨hP1, hK1, hD1⟩ := hB
  rw [ht] at hP1
  have hK1 := va_K.moved hvm.symm hK1
  obtain ⟨hP, hD⟩ := va_join (wr := [(h0, .inr (3, [.ref q1, .ref q2, .ref q3, .int 0, .int 0, .int 0, .int 0])), (q1, .inr (4, [.int 0, .int 0, .int 0, .int 999])), (q2, .inl (c2, 6, .inr (.inr (.inr (.inr (va_up (va_up (va_up (va_up (va_up (va_up (fun _ => none) 0 (some q4)) 1 (some q5)) 2 (some q6)) 3 (some q7)) 4 (some q8)) 5 (some q9))))))), (q3, .inl (c3, 4, .inr (.inr (.inr (.inr (va_up (va_up (va_up (fun _ => none) 0 (some q10)) 1 (some q11)) 2 (some q12))))))), (q4, .inr (1, [.int 0, .int 0, .int 0, .int 0, .int 0, .int 0])), (q5, .inr (1, [.int 0, .int 0, .int 0, .int 0, .int 0, .int 0])), (q6, .inr (1, [.int 0, .int 0, .int 0, .int 0, .int 0, .int 0])), (q7, .inr (1, [.int 0, .int 0, .int 0, .int 0, .int 0, .int 0])), (q8, .inr (1, [.int 0, .int 0, .int 0, .int 0, .int 0, .int 0])), (q9, .inr (1, [.int 0, .int 0, .int 0, .int 0, .int 0, .int 0])), (q10, .inr (5, [.int 0, .int 0, .int 0, .int 0, .int 0, .int 0, .int 0, .int 0])), (q11, .inr (5, [.int 0, .int 0, .int 0, .int 0, .int 0, .int 0, .int 0, .int 0])), (q12, .inr (5, [.int 0, .int 0, .int 0, .int 0, .int 0, .int 0, .int 0, .int 0]))]) (w1 := (gX5 q13 u_q13)) hP hD [13] [0, 1, 2, 3, 4, 5, 6, 7, 8, 9, 10, 11, 12] rfl rfl (by decide +kernel) (by decide +kernel) hk1 hFc hP1 hD1
  have hK := (hK.sub (tys' := [(c2, .object RX1), (c3, .object RX5)]) [0, 1] rfl).app hK1
  generalize H1 = H at hP hS ⊢
  have hP : va_P D vwCl [(h0, .inr (3, [.ref q1, .ref q2, .ref q3, .int 0, .int 0, .int 0, .int 0])), (q1, .inr (4, [.int 0, .int 0, .int 0, .int 999])), (q2, .inl (c2, 6, .inr (.inr (.inr (.inr (va_up (va_up (va_up (va_up (va_up (va_up (fun _ => none) 0 (some q4)) 1 (some q5)) 2 (some q6)) 3 (some q7)) 4 (some q8)) 5 (some q9))))))), (q3, .inl (c3, 4, .inr (.inr (.inr (.inr (va_up (va_up (va_up (fun _ => none) 0 (some q10)) 1 (some q11)) 2 (some q12))))))), (q4, .inr (1, [.int 0, .int 0, .int 0, .int 0, .int 0, .int 0])), (q5, .inr (1, [.int 0, .int 0, .int 0, .int 0, .int 0, .int 0])), (q6, .inr (1, [.int 0, .int 0, .int 0, .int 0, .int 0, .int 0])), (q7, .inr (1, [.int 0, .int 0, .int 0, .int 0, .int 0, .int 0])), (q8, .inr (1, [.int 0, .int 0, .int 0, .int 0, .int 0, .int 0])), (q9, .inr (1, [.int 0, .int 0, .int 0, .int 0, .int 0, .int 0])), (q10, .inr (5, [.int 0, .int 0, .int 0, .int 0, .int 0, .int 0, .int 0, .int 0])), (q11, .inr (5, [.int 0, .int 0, .int 0, .int 0, .int 0, .int 0, .int 0, .int 0])), (q12, .inr (5, [.int 0, .int 0, .int 0, .int 0, .int 0, .int 0, .int 0, .int 0])), (q13, .inr (5, [.int 0, .int 0, .int 0, .int 0, .int 0, .int 0, .int 0, .int 0]))] H := hP
  have hD : va_D A [(h0, .inr (3, [.ref q1, .ref q2, .ref q3, .int 0, .int 0, .int 0, .int 0])), (q1, .inr (4, [.int 0, .int 0, .int 0, .int 999])), (q2, .inl (c2, 6, .inr (.inr (.inr (.inr (va_up (va_up (va_up (va_up (va_up (va_up (fun _ => none) 0 (some q4)) 1 (some q5)) 2 (some q6)) 3 (some q7)) 4 (some q8)) 5 (some q9))))))), (q3, .inl (c3, 4, .inr (.inr (.inr (.inr (va_up (va_up (va_up (fun _ => none) 0 (some q10)) 1 (some q11)) 2 (some q12))))))), (q4, .inr (1, [.int 0, .int 0, .int 0, .int 0, .int 0, .int 0])), (q5, .inr (1, [.int 0, .int 0, .int 0, .int 0, .int 0, .int 0])), (q6, .inr (1, [.int 0, .int 0, .int 0, .int 0, .int 0, .int 0])), (q7, .inr (1, [.int 0, .int 0, .int 0, .int 0, .int 0, .int 0])), (q8, .inr (1, [.int 0, .int 0, .int 0, .int 0, .int 0, .int 0])), (q9, .inr (1, [.int 0, .int 0, .int 0, .int 0, .int 0, .int 0])), (q10, .inr (5, [.int 0, .int 0, .int 0, .int 0, .int 0, .int 0, .int 0, .int 0])), (q11, .inr (5, [.int 0, .int 0, .int 0, .int 0, .int 0, .int 0, .int 0, .int 0])), (q12, .inr (5, [.int 0, .int 0, .int 0, .int 0, .int 0, .int 0, .int 0, .int 0])), (q13, .inr (5, [.int 0, .int 0, .int 0, .int 0, .int 0, .int 0, .int 0, .int 0]))] := hD
  have hK : va_K D vwCl [(c2, .object RX1), (c3, .object RX5)] s := hK
  refine W.widen (k := 13) (n := 82) (Nat.le_of_ble_eq_true rfl) (Nat.le_of_ble_eq_true rfl) ?_
  refine va_astq hx hb hK hP hD hS 3 1 13 5 (r := (RX5, TX5, 8)) rfl rfl rfl rfl (vp_in_nI (n := 3) (by omega) (by omega)) dX3_init_78 (fun H locs hP hD hS => ?_)
  have hP : va_P D vwCl [(h0, .inr (3, [.ref q1, .ref q2, .ref q3, .int 0, .int 0, .int 0, .int 0])), (q1, .inr (4, [.int 0, .int 0, .int 0, .int 999])), (q2, .inl (c2, 6, .inr (.inr (.inr (.inr (va_up (va_up (va_up (va_up (va_up (va_up (fun _ => none) 0 (some q4)) 1 (some q5)) 2 (some q6)) 3 (some q7)) 4 (some q8)) 5 (some q9))))))), (q3, .inl (c3, 4, .inr (.inr (.inr (.inr (va_up (va_up (va_up (va_up (fun _ => none) 0 (some q10)) 1 (some q11)) 2 (some q12)) 3 (some q13))))))), (q4, .inr (1, [.int 0, .int 0, .int 0, .int 0, .int 0, .int 0])), (q5, .inr (1, [.int 0, .int 0, .int 0, .int 0, .int 0, .int 0])), (q6, .inr (1, [.int 0, .int 0, .int 0, .int 0, .int 0, .int 0])), (q7, .inr (1, [.int 0, .int 0, .int 0, .int 0, .int 0, .int 0])), (q8, .inr (1, [.int 0, .int 0, .int 0, .int 0, .int 0, .int 0])), (q9, .inr (1, [.int 0, .int 0, .int 0, .int 0, .int 0, .int 0])), (q10, .inr (5, [.int 0, .int 0, .int 0, .int 0, .int 0, .int 0, .int 0, .int 0])), (q11, .inr (5, [.int 0, .int 0, .int 0, .int 0, .int 0, .int 0, .int 0, .int 0])), (q12, .inr (5, [.int 0, .int 0, .int 0, .int 0, .int 0, .int 0, .int 0, .int 0])), (q13, .inr (5, [.int 0, .int 0, .int 0, .int 0, .int 0, .int 0, .int 0, .int 0]))] H := hP
  have hD : va_D A [(h0, .inr (3, [.ref q1, .ref q2, .ref q3, .int 0, .int 0, .int 0, .int 0])), (q1, .inr (4, [.int 0, .int 0, .int 0, .int 999])), (q2, .inl (c2, 6, .inr (.inr (.inr (.inr (va_up (va_up (va_up (va_up (va_up (va_up (fun _ => none) 0 (some q4)) 1 (some q5)) 2 (some q6)) 3 (some q7)) 4 (some q8)) 5 (some q9))))))), (q3, .inl (c3, 4, .inr (.inr (.inr (.inr (va_up (va_up (va_up (va_up (fun _ => none) 0 (some q10)) 1 (some q11)) 2 (some q12)) 3 (some q13))))))), (q4, .inr (1, [.int 0, .int 0, .int 0, .int 0, .int 0, .int 0])), (q5, .inr (1, [.int 0, .int 0, .int 0, .int 0, .int 0, .int 0])), (q6, .inr (1, [.int 0, .int 0, .int 0, .int 0, .int 0, .int 0])), (q7, .inr (1, [.int 0, .int 0, .int 0, .int 0, .int 0, .int 0])), (q8, .inr (1, [.int 0, .int 0, .int 0, .int 0, .int 0, .int 0])), (q9, .inr (1, [.int 0, .int 0, .int 0, .int 0, .int 0, .int 0])), (q10, .inr (5, [.int 0, .int 0, .int 0, .int 0, .int 0, .int 0, .int 0, .int 0])), (q11, .inr (5, [.int 0, .int 0, .int 0, .int 0, .int 0, .int 0, .int 0, .int 0])), (q12, .inr (5, [.int 0, .int 0, .int 0, .int 0, .int 0, .int 0, .int 0, .int 0])), (q13, .inr (5, [.int 0, .int 0, .int 0, .int 0, .int 0, .int 0, .int 0, .int 0]))] := hD
  refine lv_iinc (v := 4) (lv' := [(1, .int 4), (0, .ref h0)]) hx hb dX3_init_79 hl (k := 0) rfl (by decide) (by decide) rfl (fun ls hl => ?_)
  refine lv_goto (tgt := 61) hx hb dX3_init_82 (by decide) ?_
  refine lv_iload_n hx hb dX3_init_61 rfl (lv_at hl 0 rfl) ?_
  refine lv_iconst (v := 4) hx hb dX3_init_62 (by decide) ?_
  refine lv_icmp_ge (tgt := 85) hx hb dX3_init_63 (by decide) (fun _ => ?_) (fun z => absurd (by decide) z)
  exact W.vret hx hb hr (fun t ht hW => ⟨⟨(fun i => [q1, q2, q3, q4, q5, q6, q7, q8, q9, q10, q11, q12, q13].getD i 0, fun i => [c2, c3].getD i c2), rfl, trivial, by rw [ht]; exact hP, va_K.moved hW.alike hK, hD⟩, hS.F ht⟩) hS.2.2 dX3_init_85
abbrev SX9 : Type := (Nat → Nat) × (Nat → ClassId)
abbrev gX9 (h0 : Nat) (x1 : Int32) (u : SX9) : va_W := [(h0, .inr (9, [.ref (u.1 0), .ref (u.1 1), .ref (u.1 2), .ref (u.1 3), .int 0, .int (if (20 : Int32) < x1 then 20 else x1)])), ((u.1 0), .inl ((u.2 0), 20, .inl (fun _ => 0))), ((u.1 1), .inl ((u.2 1), 20, .inl (fun _ => 0))), ((u.1 2), .inl ((u.2 2), 20, .inl (fun _ => 0))), ((u.1 3), .inl ((u.2 3), 20, .inl (fun _ => 0)))]
abbrev tX9 (u : SX9) : List (ClassId × FieldType) := [((u.2 0), .int), ((u.2 1), .int), ((u.2 2), .int), ((u.2 3), .int)]
set_option maxHeartbeats 8000000 in
set_option maxRecDepth 100000 in
theorem k_X9 (l : Launch) (D : va_G) (h0 sz : Nat) (x1 : Int32) : Met l yX9_init (ct_ws yX9_init cX9_init 2) ({ frames := 1, cells := 4, slots := 80, locals := 14 }) (ctPre D [.ref h0, .int x1] [(h0, .inr (9, [.null, .null, .null, .null, .int 0, .int 0]))] sz) (ctPost D [(h0, .inr (9, [.null, .null, .null, .null, .int 0, .int 0]))] sz (fun u : SX9 => gX9 h0 x1 u) (fun u => tX9 u)) 4 80 (va_A [(h0, .inr (9, [.null, .null, .null, .null, .int 0, .int 0]))] sz) := by
  refine Met.ofW (cc := cX9_init) (maxL := 2) (ret := none) (by decide) rfl ?_
  intro p e s m args below meth c s₁ B hml hv
  obtain ⟨rfl, hsz, hP, hK, hD0, hZ⟩ := hv
  have hx := B.exec
  have hb := B.bytes
  have hr := B.returns
  have hts0 := atoms_spec (ws := ct_ws yX9_init cX9_init 2) B.pre
  have hts : ∀ w ∈ bl_gt, w.before ([.ref h0, .int x1] : List Value).toArray s = true := fun w hw => hts0 w (List.mem_cons_of_mem _ hw)
  have hown : s.vm.findClass RX9 = some m.cls := findClass_of_methodNamed B.named
  have hin : meth.name = "<init>" := (name_of_methodNamed B.named B.method).1
  subst hsz
  have hD := hD0.self (sz := s.heap.size)
  unfold ctPost
  generalize hAe : va_A [(h0, .inr (9, [.null, .null, .null, .null, .int 0, .int 0]))] s.heap.size = A at hD ⊢
  have hA : ∀ q : Nat, s.heap.size ≤ q → A q := fun q h => by rw [← hAe]; exact Or.inr h
  have hS : va_S A s.heap s.heap [] := va_S.rf
  have hP : va_P D vwCl [(h0, .inr (9, [.null, .null, .null, .null, .int 0, .int 0]))] s.heap := hP
  have hl := lv_entry ([.ref h0, .int x1]) (n := 2) (Nat.le_of_ble_eq_true rfl)
  rw [lg_entry_eq]
  generalize (lg_sl ([.ref h0, .int x1]) ++ List.replicate (2 - (lg_sl ([.ref h0, .int x1])).length) Slot.unset).toArray = ls at hl ⊢
  have hl : lv_has ls 2 [(0, .ref h0), (1, .int x1)] := hl
  refine lv_aload_n hx hb dX9_init_0 rfl (lv_at hl 0 rfl) ?_
  refine W.objInit hx hb hown (hts _ cg_25) (hts _ cg_1) (hts _ cg_2) rfl (by rw [hml]; exact hl.1) rfl dX9_init_1 (Nat.le_of_ble_eq_true rfl) (Nat.le_of_ble_eq_true rfl) ?_
  refine W.eq (g2 := F0 m 4 ls []) rfl ?_
  refine lv_aload_n hx hb dX9_init_4 rfl (lv_at hl 0 rfl) ?_
  refine lv_bipush (v := 20) hx hb dX9_init_5 (by decide) ?_
  refine va_newa (atype := .int) (ty := .int) (a0 := (20, .inl (fun _ => 0))) (N' := 20) hx hb (hts _ cg_26) rfl hK hP hD hS hA (fun _ => rfl) (by decide) (by decide) (by decide) (Nat.le_of_ble_eq_true rfl) (Nat.le_of_ble_eq_true rfl) dX9_init_7 (fun q1 c1 H hK hP hD hS => ?_)
  have hP : va_P D vwCl [(h0, .inr (9, [.null, .null, .null, .null, .int 0, .int 0])), (q1, .inl (c1, 20, .inl (fun _ => 0)))] H := hP
  have hD : va_D A [(h0, .inr (9, [.null, .null, .null, .null, .int 0, .int 0])), (q1, .inl (c1, 20, .inl (fun _ => 0)))] := hD
  have hK : va_K D vwCl [(c1, .int)] s := hK
  refine W.widen (k := 1) (n := 20) (Nat.le_of_ble_eq_true rfl) (Nat.le_of_ble_eq_true rfl) ?_
  refine va_putF (D := D) (ci := 9) (v := .ref q1) (ty := (.array .int)) (C := RX9) (T := TX9) (N := 6) hx hb hts (bl_cls_ws 9 RX9 TX9 6 rfl) tyX9 tyX9_ok nmX9 hown hK hP hD hS 0 rfl rfl 0 (by decide) (hts _ cg_27) (fun _ h9 => h9) rfl hin rfl (by decide +kernel) rfl rfl (Nat.le_of_ble_eq_true rfl) dX9_init_9 (fun H locs hP hD hS => ?_)
  have hP : va_P D vwCl [(h0, .inr (9, [.ref q1, .null, .null, .null, .int 0, .int 0])), (q1, .inl (c1, 20, .inl (fun _ => 0)))] H := hP
  have hD : va_D A [(h0, .inr (9, [.ref q1, .null, .null, .null, .int 0, .int 0])), (q1, .inl (c1, 20, .inl (fun _ => 0)))] := hD
  refine lv_aload_n hx hb dX9_init_12 rfl (lv_at hl 0 rfl) ?_
  refine lv_bipush (v := 20) hx hb dX9_init_13 (by decide) ?_
  refine va_newa (atype := .int) (ty := .int) (a0 := (20, .inl (fun _ => 0))) (N' := 20) hx hb (hts _ cg_26) rfl hK hP hD hS hA (fun _ => rfl) (by decide) (by decide) (by decide) (Nat.le_of_ble_eq_true rfl) (Nat.le_of_ble_eq_true rfl) dX9_init_15 (fun q2 c2 H hK hP hD hS => ?_)
  have hP : va_P D vwCl [(h0, .inr (9, [.ref q1, .null, .null, .null, .int 0, .int 0])), (q1, .inl (c1, 20, .inl (fun _ => 0))), (q2, .inl (c2, 20, .inl (fun _ => 0)))] H := hP
  have hD : va_D A [(h0, .inr (9, [.ref q1, .null, .null, .null, .int 0, .int 0])), (q1, .inl (c1, 20, .inl (fun _ => 0))), (q2, .inl (c2, 20, .inl (fun _ => 0)))] := hD
  have hK : va_K D vwCl [(c1, .int), (c2, .int)] s := hK
  refine W.widen (k := 2) (n := 40) (Nat.le_of_ble_eq_true rfl) (Nat.le_of_ble_eq_true rfl) ?_
  refine va_putF (D := D) (ci := 9) (v := .ref q2) (ty := (.array .int)) (C := RX9) (T := TX9) (N := 6) hx hb hts (bl_cls_ws 9 RX9 TX9 6 rfl) tyX9 tyX9_ok nmX9 hown hK hP hD hS 0 rfl rfl 1 (by decide) (hts _ cg_28) (fun _ h9 => h9) rfl hin rfl (by decide +kernel) rfl rfl (Nat.le_of_ble_eq_true rfl) dX9_init_17 (fun H locs hP hD hS => ?_)
  have hP : va_P D vwCl [(h0, .inr (9, [.ref q1, .ref q2, .null, .null, .int 0, .int 0])), (q1, .inl (c1, 20, .inl (fun _ => 0))), (q2, .inl (c2, 20, .inl (fun _ => 0)))] H := hP
  have hD : va_D A [(h0, .inr (9, [.ref q1, .ref q2, .null, .null, .int 0, .int 0])), (q1, .inl (c1, 20, .inl (fun _ => 0))), (q2, .inl (c2, 20, .inl (fun _ => 0)))] := hD
  refine lv_aload_n hx hb dX9_init_20 rfl (lv_at hl 0 rfl) ?_
  refine lv_bipush (v := 20) hx hb dX9_init_21 (by decide) ?_
  refine va_newa (atype := .int) (ty := .int) (a0 := (20, .inl (fun _ => 0))) (N' := 20) hx hb (hts _ cg_26) rfl hK hP hD hS hA (fun _ => rfl) (by decide) (by decide) (by decide) (Nat.le_of_ble_eq_true rfl) (Nat.le_of_ble_eq_true rfl) dX9_init_23 (fun q3 c3 H hK hP hD hS => ?_)
  have hP : va_P D vwCl [(h0, .inr (9, [.ref q1, .ref q2, .null, .null, .int 0, .int 0])), (q1, .inl (c1, 20, .inl (fun _ => 0))), (q2, .inl (c2, 20, .inl (fun _ => 0))), (q3, .inl (c3, 20, .inl (fun _ => 0)))] H := hP
  have hD : va_D A [(h0, .inr (9, [.ref q1, .ref q2, .null, .null, .int 0, .int 0])), (q1, .inl (c1, 20, .inl (fun _ => 0))), (q2, .inl (c2, 20, .inl (fun _ => 0))), (q3, .inl (c3, 20, .inl (fun _ => 0)))] := hD
  have hK : va_K D vwCl [(c1, .int), (c2, .int), (c3, .int)] s := hK
  refine W.widen (k := 3) (n := 60) (Nat.le_of_ble_eq_true rfl) (Nat.le_of_ble_eq_true rfl) ?_
  refine va_putF (D := D) (ci := 9) (v := .ref q3) (ty := (.array .int)) (C := RX9) (T := TX9) (N := 6) hx hb hts (bl_cls_ws 9 RX9 TX9 6 rfl) tyX9 tyX9_ok nmX9 hown hK hP hD hS 0 rfl rfl 2 (by decide) (hts _ cg_29) (fun _ h9 => h9) rfl hin rfl (by decide +kernel) rfl rfl (Nat.le_of_ble_eq_true rfl) dX9_init_25 (fun H locs hP hD hS => ?_)
  have hP : va_P D vwCl [(h0, .inr (9, [.ref q1, .ref q2, .ref q3, .null, .int 0, .int 0])), (q1, .inl (c1, 20, .inl (fun _ => 0))), (q2, .inl (c2, 20, .inl (fun _ => 0))), (q3, .inl (c3, 20, .inl (fun _ => 0)))] H := hP
  have hD : va_D A [(h0, .inr (9, [.ref q1, .ref q2, .ref q3, .null, .int 0, .int 0])), (q1, .inl (c1, 20, .inl (fun _ => 0))), (q2, .inl (c2, 20, .inl (fun _ => 0))), (q3, .inl (c3, 20, .inl (fun _ => 0)))] := hD
  refine lv_aload_n hx hb dX9_init_28 rfl (lv_at hl 0 rfl) ?_
  refine lv_bipush (v := 20) hx hb dX9_init_29 (by decide) ?_
  refine va_newa (atype := .int) (ty := .int) (a0 := (20, .inl (fun _ => 0))) (N' := 20) hx hb (hts _ cg_26) rfl hK hP hD hS hA (fun _ => rfl) (by decide) (by decide) (by decide) (Nat.le_of_ble_eq_true rfl) (Nat.le_of_ble_eq_true rfl) dX9_init_31 (fun q4 c4 H hK hP hD hS => ?_)
  have hP : va_P D vwCl [(h0, .inr (9, [.ref q1, .ref q2, .ref q3, .null, .int 0, .int 0])), (q1, .inl (c1, 20, .inl (fun _ => 0))), (q2, .inl (c2, 20, .inl (fun _ => 0))), (q3, .inl (c3, 20, .inl (fun _ => 0))), (q4, .inl (c4, 20, .inl (fun _ => 0)))] H := hP
  have hD : va_D A [(h0, .inr (9, [.ref q1, .ref q2, .ref q3, .null, .int 0, .int 0])), (q1, .inl (c1, 20, .inl (fun _ => 0))), (q2, .inl (c2, 20, .inl (fun _ => 0))), (q3, .inl (c3, 20, .inl (fun _ => 0))), (q4, .inl (c4, 20, .inl (fun _ => 0)))] := hD
  have hK : va_K D vwCl [(c1, .int), (c2, .int), (c3, .int), (c4, .int)] s := hK
  refine W.widen (k := 4) (n := 80) (Nat.le_of_ble_eq_true rfl) (Nat.le_of_ble_eq_true rfl) ?_
  refine va_putF (D := D) (ci := 9) (v := .ref q4) (ty := (.array .int)) (C := RX9) (T := TX9) (N := 6) hx hb hts (bl_cls_ws 9 RX9 TX9 6 rfl) tyX9 tyX9_ok nmX9 hown hK hP hD hS 0 rfl rfl 3 (by decide) (hts _ cg_30) (fun _ h9 => h9) rfl hin rfl (by decide +kernel) rfl rfl (Nat.le_of_ble_eq_true rfl) dX9_init_33 (fun H locs hP hD hS => ?_)
  have hP : va_P D vwCl [(h0, .inr (9, [.ref q1, .ref q2, .ref q3, .ref q4, .int 0, .int 0])), (q1, .inl (c1, 20, .inl (fun _ => 0))), (q2, .inl (c2, 20, .inl (fun _ => 0))), (q3, .inl (c3, 20, .inl (fun _ => 0))), (q4, .inl (c4, 20, .inl (fun _ => 0)))] H := hP
  have hD : va_D A [(h0, .inr (9, [.ref q1, .ref q2, .ref q3, .ref q4, .int 0, .int 0])), (q1, .inl (c1, 20, .inl (fun _ => 0))), (q2, .inl (c2, 20, .inl (fun _ => 0))), (q3, .inl (c3, 20, .inl (fun _ => 0))), (q4, .inl (c4, 20, .inl (fun _ => 0)))] := hD
  refine lv_aload_n hx hb dX9_init_36 rfl (lv_at hl 0 rfl) ?_
  refine lv_iload_n hx hb dX9_init_37 rfl (lv_at hl 1 rfl) ?_
  refine lv_bipush (v := 20) hx hb dX9_init_38 (by decide) ?_
  refine va_mmin hx hb (by rw [hml]; exact hl.1.symm) hown (hts _ cg_31) (hts _ cg_32) (hts _ cg_33) (hts _ cg_34) (Nat.le_of_ble_eq_true rfl) (Nat.le_of_ble_eq_true rfl) (Nat.le_of_ble_eq_true rfl) (Nat.le_of_ble_eq_true rfl) dX9_init_40 ?_
  refine lv_topi (fun y1 ey1 => ?_)
  refine va_putF (D := D) (ci := 9) (v := .int y1) (ty := .int) (C := RX9) (T := TX9) (N := 6) hx hb hts (bl_cls_ws 9 RX9 TX9 6 rfl) tyX9 tyX9_ok nmX9 hown hK hP hD hS 0 rfl rfl 5 (by decide) (hts _ cg_35) (fun _ h9 => h9) rfl hin rfl (by decide +kernel) rfl rfl (Nat.le_of_ble_eq_true rfl) dX9_init_43 (fun H locs hP hD hS => ?_)
  have hP : va_P D vwCl [(h0, .inr (9, [.ref q1, .ref q2, .ref q3, .ref q4, .int 0, .int y1])), (q1, .inl (c1, 20, .inl (fun _ => 0))), (q2, .inl (c2, 20, .inl (fun _ => 0))), (q3, .inl (c3, 20, .inl (fun _ => 0))), (q4, .inl (c4, 20, .inl (fun _ => 0)))] H := hP
  have hD : va_D A [(h0, .inr (9, [.ref q1, .ref q2, .ref q3, .ref q4, .int 0, .int y1])), (q1, .inl (c1, 20, .inl (fun _ => 0))), (q2, .inl (c2, 20, .inl (fun _ => 0))), (q3, .inl (c3, 20, .inl (fun _ => 0))), (q4, .inl (c4, 20, .inl (fun _ => 0)))] := hD
  subst ey1
  exact W.vret hx hb hr (fun t ht hW => ⟨⟨(fun i => [q1, q2, q3, q4].getD i 0, fun i => [c1, c2, c3, c4].getD i c1), rfl, trivial, by rw [ht]; exact hP, va_K.moved hW.alike hK, hD⟩, hS.F ht⟩) hS.2.2 dX9_init_46
