abbrev SX7 : Type := (Nat → Nat) × (Nat → ClassId) × SX3
abbrev gX7 (h0 : Nat) (u : SX7) : va_W := (([(h0, .inr (7, [.ref (u.1 0), .int 0, .int (-1), .ref (u.1 1), .ref (u.1 2), .int 0, .int 0, .int 0]))] ++ (gX3 (u.1 0) (u.2.2))) ++ [((u.1 1), .inl ((u.2.1 0), 230, .inl (fun _ => 0))), ((u.1 2), .inl ((u.2.1 1), 6, .inl (fun _ => 0)))])
abbrev tX7 (u : SX7) : List (ClassId × FieldType) := ((tX3 (u.2.2)) ++ [((u.2.1 0), .char), ((u.2.1 1), .int)])
set_option maxHeartbeats 8000000 in
set_option maxRecDepth 100000 in
theorem k_X7 (l : Launch) (D : va_G) (h0 sz : Nat) : Met l yX7_init (ct_ws yX7_init cX7_init 1) ({ frames := 3, cells := 16, slots := 325, locals := 53 }) (ctPre D [.ref h0] [(h0, .inr (7, [.null, .int 0, .int 0, .null, .null, .int 0, .int 0, .int 0]))] sz) (ctPost D [(h0, .inr (7, [.null, .int 0, .int 0, .null, .null, .int 0, .int 0, .int 0]))] sz (fun u : SX7 => gX7 h0 u) (fun u => tX7 u)) 16 325 (va_A [(h0, .inr (7, [.null, .int 0, .int 0, .null, .null, .int 0, .int 0, .int 0]))] sz) := by
  refine Met.ofW (cc := cX7_init) (maxL := 1) (ret := none) (by decide) rfl ?_
  intro p e s m args below meth c s₁ B hml hv
  obtain ⟨rfl, hsz, hP, hK, hD0, hZ⟩ := hv
  have hx := B.exec
  have hb := B.bytes
  have hr := B.returns
  have hts0 := atoms_spec (ws := ct_ws yX7_init cX7_init 1) B.pre
  have hts : ∀ w ∈ bl_gt, w.before ([.ref h0] : List Value).toArray s = true := fun w hw => hts0 w (List.mem_cons_of_mem _ hw)
  have hown : s.vm.findClass RX7 = some m.cls := findClass_of_methodNamed B.named
  have hin : meth.name = "<init>" := (name_of_methodNamed B.named B.method).1
  subst hsz
  have hD := hD0.self (sz := s.heap.size)
  unfold ctPost
  generalize hAe : va_A [(h0, .inr (7, [.null, .int 0, .int 0, .null, .null, .int 0, .int 0, .int 0]))] s.heap.size = A at hD ⊢
  have hA : ∀ q : Nat, s.heap.size ≤ q → A q := fun q h => by rw [← hAe]; exact Or.inr h
  have hS : va_S A s.heap s.heap [] := va_S.rf
  have hP : va_P D vwCl [(h0, .inr (7, [.null, .int 0, .int 0, .null, .null, .int 0, .int 0, .int 0]))] s.heap := hP
  have hl := lv_entry ([.ref h0]) (n := 1) (Nat.le_of_ble_eq_true rfl)
  rw [lg_entry_eq]
  generalize (lg_sl ([.ref h0]) ++ List.replicate (1 - (lg_sl ([.ref h0])).length) Slot.unset).toArray = ls at hl ⊢
  have hl : lv_has ls 1 [(0, .ref h0)] := hl
  refine lv_aload_n hx hb dX7_init_0 rfl (lv_at hl 0 rfl) ?_
  refine W.objInit hx hb hown (hts _ cg_36) (hts _ cg_1) (hts _ cg_2) rfl (by rw [hml]; exact hl.1) rfl dX7_init_1 (Nat.le_of_ble_eq_true rfl) (Nat.le_of_ble_eq_true rfl) ?_
  refine W.eq (g2 := F0 m 4 ls []) rfl ?_
  refine lv_aload_n hx hb dX7_init_4 rfl (lv_at hl 0 rfl) ?_
  refine va_new (ci := 3) (fs := [.null, .null, .null, .int 0, .int 0, .int 0, .int 0]) (C := RX3) (T := TX3) (N := 7) hx hb hts (bl_cls_ws 3 RX3 TX3 7 rfl) tyX3 tyX3_ok hown (hts _ cg_37) (hts _ cg_38) (hts _ cg_39) hK hP hD hS hA rfl (by decide +kernel) (Nat.le_of_ble_eq_true rfl) (Nat.le_of_ble_eq_true rfl) dX7_init_5 (fun q1 H hP hD hS => ?_)
  have hP : va_P D vwCl [(h0, .inr (7, [.null, .int 0, .int 0, .null, .null, .int 0, .int 0, .int 0])), (q1, .inr (3, [.null, .null, .null, .int 0, .int 0, .int 0, .int 0]))] H := hP
  have hD : va_D A [(h0, .inr (7, [.null, .int 0, .int 0, .null, .null, .int 0, .int 0, .int 0])), (q1, .inr (3, [.null, .null, .null, .int 0, .int 0, .int 0, .int 0]))] := hD
  refine W.widen (k := 1) (n := 7) (Nat.le_of_ble_eq_true rfl) (Nat.le_of_ble_eq_true rfl) ?_
  refine lv_dup hx hb dX7_init_8 rfl ?_
  have hPc := hP.sub (ws' := [(q1, .inr (3, [.null, .null, .null, .int 0, .int 0, .int 0, .int 0]))]) [1] rfl
  have hDc := hD.sub (ws' := [(q1, .inr (3, [.null, .null, .null, .int 0, .int 0, .int 0, .int 0]))]) [1] (by decide) rfl
  have hKc := hK.sub (tys' := []) [] rfl
  have hFc := va_free (wc := [(q1, .inr (3, [.null, .null, .null, .int 0, .int 0, .int 0, .int 0]))]) hD hS hA [1] rfl
  refine va_callv (va_runI (As := []) (rest := [.ref q1, .ref h0]) ⟨hx, hb, hml, hown, hts⟩ (k_X3 l D q1 H.size) (cwI 0 hts (ct_good cg_40) rfl rfl rfl (hts _ cg_39) (hts _ cg_41) (hts _ cg_42) rfl (by decide +kernel) ⟨Nat.le_of_ble_eq_true rfl, Nat.le_of_ble_eq_true rfl⟩) ⟨ct_blind, fun U hU hW => ⟨rfl, by rw [hU], by rw [hU]; exact hPc, va_K.moved hW.alike hKc, hDc.weaken (fun _ _ _ _ => trivial), hZ.warm hW⟩⟩ rfl rfl hl.1 rfl (lv_room (Nat.le_of_ble_eq_true rfl)) dX7_init_9 ⟨Nat.le_of_ble_eq_true rfl, Nat.le_of_ble_eq_true rfl⟩) hS (fun q _ h => hFc q h) hFc (fun u_q1 t H1 locs ht hvm hw hB hz1 hk1 hS => ?_)
  obtain ⟨hP1, hK1, hD1⟩ := hB
  rw [ht] at hP1
  have hK1 := va_K.moved hvm.symm hK1
  obtain ⟨hP, hD⟩ := va_join (wr := [(h0, .inr (7, [.null, .int 0, .int 0, .null, .null, .int 0, .int 0, .int 0]))]) (w1 := (gX3 q1 u_q1)) hP hD [1] [0] rfl rfl (by decide +kernel) (by decide +kernel) hk1 hFc hP1 hD1
  have hK := (hK.sub (tys' := []) [] rfl).app hK1
  generalize H1 = H at hP hS ⊢
  have hP : va_P D vwCl ([(h0, .inr (7, [.null, .int 0, .int 0, .null, .null, .int 0, .int 0, .int 0]))] ++ (gX3 q1 u_q1)) H := hP
  have hD : va_D A ([(h0, .inr (7, [.null, .int 0, .int 0, .null, .null, .int 0, .int 0, .int 0]))] ++ (gX3 q1 u_q1)) := hD
  have hK : va_K D vwCl (tX3 u_q1) s := hK
  refine W.widen (k := 14) (n := 89) (Nat.le_of_ble_eq_true rfl) (Nat.le_of_ble_eq_true rfl) ?_
  refine va_putF (D := D) (ci := 7) (v := .ref q1) (ty := (.object "BerryLane$Lane")) (C := RX7) (T := TX7) (N := 8) hx hb hts (bl_cls_ws 7 RX7 TX7 8 rfl) tyX7 tyX7_ok nmX7 hown hK hP hD hS 0 rfl rfl 0 (by decide) (hts _ cg_43) (fun _ h9 => h9) rfl hin rfl (by decide +kernel) rfl rfl (Nat.le_of_ble_eq_true rfl) dX7_init_12 (fun H locs hP hD hS => ?_)
  have hP : va_P D vwCl ([(h0, .inr (7, [.ref q1, .int 0, .int 0, .null, .null, .int 0, .int 0, .int 0]))] ++ (gX3 q1 u_q1)) H := hP
  have hD : va_D A ([(h0, .inr (7, [.ref q1, .int 0, .int 0, .null, .null, .int 0, .int 0, .int 0]))] ++ (gX3 q1 u_q1)) := hD
  refine lv_aload_n hx hb dX7_init_15 rfl (lv_at hl 0 rfl) ?_
  refine lv_iconst (v := (-1)) hx hb dX7_init_16 (by decide) ?_
  refine va_put (D := D) (ci := 7) (v := .int (-1)) (ty := .int) (C := RX7) (T := TX7) (N := 8) hx hb hts (bl_cls_ws 7 RX7 TX7 8 rfl) tyX7 tyX7_ok nmX7 hown hK hP hD hS 0 rfl rfl 2 (by decide) (hts _ cg_44) (fun _ h9 => h9) rfl (by decide +kernel) rfl rfl (Nat.le_of_ble_eq_true rfl) dX7_init_17 (fun H locs hP hD hS => ?_)
  have hP : va_P D vwCl ([(h0, .inr (7, [.ref q1, .int 0, .int (-1), .null, .null, .int 0, .int 0, .int 0]))] ++ (gX3 q1 u_q1)) H := hP
  have hD : va_D A ([(h0, .inr (7, [.ref q1, .int 0, .int (-1), .null, .null, .int 0, .int 0, .int 0]))] ++ (gX3 q1 u_q1)) := hD
  refine lv_aload_n hx hb dX7_init_20 rfl (lv_at hl 0 rfl) ?_
  refine lv_sipush (v := 230) hx hb dX7_init_21 (by decide) ?_
  refine va_newa (atype := .char) (ty := .char) (a0 := (230, .inl (fun _ => 0))) (N' := 230) hx hb (hts _ cg_45) rfl hK hP hD hS hA (fun _ => rfl) (by decide) (by decide) (by decide) (Nat.le_of_ble_eq_true rfl) (Nat.le_of_ble_eq_true rfl) dX7_init_24 (fun q2 c2 H hK hP hD hS => ?_)
  have hP : va_P D vwCl (([(h0, .inr (7, [.ref q1, .int 0, .int (-1), .null, .null, .int 0, .int 0, .int 0]))] ++ (gX3 q1 u_q1)) ++ [(q2, .inl (c2, 230, .inl (fun _ => 0)))]) H := hP
  have hD : va_D A (([(h0, .inr (7, [.ref q1, .int 0, .int (-1), .null, .null, .int 0, .int 0, .int 0]))] ++ (gX3 q1 u_q1)) ++ [(q2, .inl (c2, 230, .inl (fun _ => 0)))]) := hD
  have hK : va_K D vwCl ((tX3 u_q1) ++ [(c2, .char)]) s := hK
  refine W.widen (k := 15) (n := 319) (Nat.le_of_ble_eq_true rfl) (Nat.le_of_ble_eq_true rfl) ?_
  refine va_putF (D := D) (ci := 7) (v := .ref q2) (ty := (.array .char)) (C := RX7) (T := TX7) (N := 8) hx hb hts (bl_cls_ws 7 RX7 TX7 8 rfl) tyX7 tyX7_ok nmX7 hown hK hP hD hS 0 rfl rfl 3 (by decide) (hts _ cg_46) (fun _ h9 => h9) rfl hin rfl (by decide +kernel) rfl rfl (Nat.le_of_ble_eq_true rfl) dX7_init_26 (fun H locs hP hD hS => ?_)
  have hP : va_P D vwCl (([(h0, .inr (7, [.ref q1, .int 0, .int (-1), .ref q2, .null, .int 0, .int 0, .int 0]))] ++ (gX3 q1 u_q1)) ++ [(q2, .inl (c2, 230, .inl (fun _ => 0)))]) H := hP
  have hD : va_D A (([(h0, .inr (7, [.ref q1, .int 0, .int (-1), .ref q2, .null, .int 0, .int 0, .int 0]))] ++ (gX3 q1 u_q1)) ++ [(q2, .inl (c2, 230, .inl (fun _ => 0)))]) := hD
  refine lv_aload_n hx hb dX7_init_29 rfl (lv_at hl 0 rfl) ?_
  refine lv_bipush (v := 6) hx hb dX7_init_30 (by decide) ?_
  refine va_newa (atype := .int) (ty := .int) (a0 := (6, .inl (fun _ => 0))) (N' := 6) hx hb (hts _ cg_26) rfl hK hP hD hS hA (fun _ => rfl) (by decide) (by decide) (by decide) (Nat.le_of_ble_eq_true rfl) (Nat.le_of_ble_eq_true rfl) dX7_init_32 (fun q3 c3 H hK hP hD hS => ?_)
  have hP : va_P D vwCl (([(h0, .inr (7, [.ref q1, .int 0, .int (-1), .ref q2, .null, .int 0, .int 0, .int 0]))] ++ (gX3 q1 u_q1)) ++ [(q2, .inl (c2, 230, .inl (fun _ => 0))), (q3, .inl (c3, 6, .inl (fun _ => 0)))]) H := hP
  have hD : va_D A (([(h0, .inr (7, [.ref q1, .int 0, .int (-1), .ref q2, .null, .int 0, .int 0, .int 0]))] ++ (gX3 q1 u_q1)) ++ [(q2, .inl (c2, 230, .inl (fun _ => 0))), (q3, .inl (c3, 6, .inl (fun _ => 0)))]) := hD
  have hK : va_K D vwCl ((tX3 u_q1) ++ [(c2, .char), (c3, .int)]) s := hK
  refine W.widen (k := 16) (n := 325) (Nat.le_of_ble_eq_true rfl) (Nat.le_of_ble_eq_true rfl) ?_
  refine va_putF (D := D) (ci := 7) (v := .ref q3) (ty := (.array .int)) (C := RX7) (T := TX7) (N := 8) hx hb hts (bl_cls_ws 7 RX7 TX7 8 rfl) tyX7 tyX7_ok nmX7 hown hK hP hD hS 0 rfl rfl 4 (by decide) (hts _ cg_47) (fun _ h9 => h9) rfl hin rfl (by decide +kernel) rfl rfl (Nat.le_of_ble_eq_true rfl) dX7_init_34 (fun H locs hP hD hS => ?_)
  have hP : va_P D vwCl (([(h0, .inr (7, [.ref q1, .int 0, .int (-1), .ref q2, .ref q3, .int 0, .int 0, .int 0]))] ++ (gX3 q1 u_q1)) ++ [(q2, .inl (c2, 230, .inl (fun _ => 0))), (q3, .inl (c3, 6, .inl (fun _ => 0)))]) H := hP
  have hD : va_D A (([(h0, .inr (7, [.ref q1, .int 0, .int (-1), .ref q2, .ref q3, .int 0, .int 0, .int 0]))] ++ (gX3 q1 u_q1)) ++ [(q2, .inl (c2, 230, .inl (fun _ => 0))), (q3, .inl (c3, 6, .inl (fun _ => 0)))]) := hD
  exact W.vret hx hb hr (fun t ht hW => ⟨⟨(fun i => [q1, q2, q3].getD i 0, fun i => [c2, c3].getD i c2, u_q1), rfl, trivial, by rw [ht]; exact hP, va_K.moved hW.alike hK, hD⟩, hS.F ht⟩) hS.2.2 dX7_init_37
abbrev SX0 : Type := (Nat → Nat) × (Nat → ClassId)
abbrev gX0 (h0 : Nat) (u : SX0) : va_W := [(h0, .inr (0, [.int 0, .int 0, .ref (u.1 0), .ref (u.1 1), .ref (u.1 2), .ref (u.1 3), .ref (u.1 4), .ref (u.1 5), .ref (u.1 6), .ref (u.1 7), .ref (u.1 8), .int 0, .int 0, .int 0, .int 0, .int 0])), ((u.1 0), .inl ((u.2 0), 6, .inl (fun _ => 0))), ((u.1 1), .inl ((u.2 1), 6, .inl (fun _ => 0))), ((u.1 2), .inl ((u.2 2), 448, .inl (fun _ => 0))), ((u.1 3), .inl ((u.2 3), 1600, .inl (fun _ => 0))), ((u.1 4), .inl ((u.2 4), 150, .inl (fun _ => 0))), ((u.1 5), .inl ((u.2 5), 6, .inl (fun _ => 0))), ((u.1 6), .inl ((u.2 6), 6, .inl (fun _ => 0))), ((u.1 7), .inl ((u.2 7), 42, .inl (fun _ => 0))), ((u.1 8), .inr (1, [.int 0, .int 0, .int 0, .int 0, .int 0, .int 0]))]
abbrev tX0 (u : SX0) : List (ClassId × FieldType) := [((u.2 0), .int), ((u.2 1), .int), ((u.2 2), .int), ((u.2 3), .int), ((u.2 4), .int), ((u.2 5), .int), ((u.2 6), .int), ((u.2 7), .int)]
set_option maxHeartbeats 8000000 in
set_option maxRecDepth 100000 in
theorem k_X0 (l : Launch) (D : va_G) (h0 sz : Nat) : Met l yX0_init (ct_ws yX0_init cX0_init 1) ({ frames := 2, cells := 9, slots := 2270, locals := 32 }) (ctPre D [.ref h0] [(h0, .inr (0, [.int 0, .int 0, .null, .null, .null, .null, .null, .null, .null, .null, .null, .int 0, .int 0, .int 0, .int 0, .int 0]))] sz) (ctPost D [(h0, .inr (0, [.int 0, .int 0, .null, .null, .null, .null, .null, .null, .null, .null, .null, .int 0, .int 0, .int 0, .int 0, .int 0]))] sz (fun u : SX0 => gX0 h0 u) (fun u => tX0 u)) 9 2270 (va_A [(h0, .inr (0, [.int 0, .int 0, .null, .null, .null, .null, .null, .null, .null, .null, .null, .int 0, .int 0, .int 0, .int 0, .int 0]))] sz) := by
  refine Met.ofW (cc := cX0_init) (maxL := 1) (ret := none) (by decide) rfl ?_
  intro p e s m args below meth c s₁ B hml hv
  obtain ⟨rfl, hsz, hP, hK, hD0, hZ⟩ := hv
  have hx := B.exec
  have hb := B.bytes
  have hr := B.returns
  have hts0 := atoms_spec (ws := ct_ws yX0_init cX0_init 1) B.pre
  have hts : ∀ w ∈ bl_gt, w.before ([.ref h0] : List Value).toArray s = true := fun w hw => hts0 w (List.mem_cons_of_mem _ hw)
  have hown : s.vm.findClass RX0 = some m.cls := findClass_of_methodNamed B.named
  have hin : meth.name = "<init>" := (name_of_methodNamed B.named B.method).1
  subst hsz
  have hD := hD0.self (sz := s.heap.size)
  unfold ctPost
  generalize hAe : va_A [(h0, .inr (0, [.int 0, .int 0, .null, .null, .null, .null, .null, .null, .null, .null, .null, .int 0, .int 0, .int 0, .int 0, .int 0]))] s.heap.size = A at hD ⊢
  have hA : ∀ q : Nat, s.heap.size ≤ q → A q := fun q h => by rw [← hAe]; exact Or.inr h
  have hS : va_S A s.heap s.heap [] := va_S.rf
  have hP : va_P D vwCl [(h0, .inr (0, [.int 0, .int 0, .null, .null, .null, .null, .null, .null, .null, .null, .null, .int 0, .int 0, .int 0, .int 0, .int 0]))] s.heap := hP
  have hl := lv_entry ([.ref h0]) (n := 1) (Nat.le_of_ble_eq_true rfl)
  rw [lg_entry_eq]
  generalize (lg_sl ([.ref h0]) ++ List.replicate (1 - (lg_sl ([.ref h0])).length) Slot.unset).toArray = ls at hl ⊢
  have hl : lv_has ls 1 [(0, .ref h0)] := hl
  refine lv_aload_n hx hb dX0_init_0 rfl (lv_at hl 0 rfl) ?_
  refine W.objInit hx hb hown (hts _ cg_48) (hts _ cg_1) (hts _ cg_2) rfl (by rw [hml]; exact hl.1) rfl dX0_init_1 (Nat.le_of_ble_eq_true rfl) (Nat.le_of_ble_eq_true rfl) ?_
  refine W.eq (g2 := F0 m 4 ls []) rfl ?_
  refine lv_aload_n hx hb dX0_init_4 rfl (lv_at hl 0 rfl) ?_
  refine lv_bipush (v := 6) hx hb dX0_init_5 (by decide) ?_
  refine va_newa (atype := .int) (ty := .int) (a0 := (6, .inl (fun _ => 0))) (N' := 6) hx hb (hts _ cg_26) rfl hK hP hD hS hA (fun _ => rfl) (by decide) (by decide) (by decide) (Nat.le_of_ble_eq_true rfl) (Nat.le_of_ble_eq_true rfl) dX0_init_7 (fun q1 c1 H hK hP hD hS => ?_)
  have hP : va_P D vwCl [(h0, .inr (0, [.int 0, .int 0, .null, .null, .null, .null, .null, .null, .null, .null, .null, .int 0, .int 0, .int 0, .int 0, .int 0])), (q1, .inl (c1, 6, .inl (fun _ => 0)))] H := hP
  have hD : va_D A [(h0, .inr (0, [.int 0, .int 0, .null, .null, .null, .null, .null, .null, .null, .null, .null, .int 0, .int 0, .int 0, .int 0, .int 0])), (q1, .inl (c1, 6, .inl (fun _ => 0)))] := hD
  have hK : va_K D vwCl [(c1, .int)] s := hK
  refine W.widen (k := 1) (n := 6) (Nat.le_of_ble_eq_true rfl) (Nat.le_of_ble_eq_true rfl) ?_
  refine va_putF (D := D) (ci := 0) (v := .ref q1) (ty := (.array .int)) (C := RX0) (T := TX0) (N := 16) hx hb hts (bl_cls_ws 0 RX0 TX0 16 rfl) tyX0 tyX0_ok nmX0 hown hK hP hD hS 0 rfl rfl 2 (by decide) (hts _ cg_49) (fun _ h9 => h9) rfl hin rfl (by decide +kernel) rfl rfl (Nat.le_of_ble_eq_true rfl) dX0_init_9 (fun H locs hP hD hS => ?_)
  have hP : va_P D vwCl [(h0, .inr (0, [.int 0, .int 0, .ref q1, .null, .null, .null, .null, .null, .null, .null, .null, .int 0, .int 0, .int 0, .int 0, .int 0])), (q1, .inl (c1, 6, .inl (fun _ => 0)))] H := hP
  have hD : va_D A [(h0, .inr (0, [.int 0, .int 0, .ref q1, .null, .null, .null, .null, .null, .null, .null, .null, .int 0, .int 0, .int 0, .int 0, .int 0])), (q1, .inl (c1, 6, .inl (fun _ => 0)))] := hD
  refine lv_aload_n hx hb dX0_init_12 rfl (lv_at hl 0 rfl) ?_
  refine lv_bipush (v := 6) hx hb dX0_init_13 (by decide) ?_
  refine va_newa (atype := .int) (ty := .int) (a0 := (6, .inl (fun _ => 0))) (N' := 6) hx hb (hts _ cg_26) rfl hK hP hD hS hA (fun _ => rfl) (by decide) (by decide) (by decide) (Nat.le_of_ble_eq_true rfl) (Nat.le_of_ble_eq_true rfl) dX0_init_15 (fun q2 c2 H hK hP hD hS => ?_)
  have hP : va_P D vwCl [(h0, .inr (0, [.int 0, .int 0, .ref q1, .null, .null, .null, .null, .null, .null, .null, .null, .int 0, .int 0, .int 0, .int 0, .int 0])), (q1, .inl (c1, 6, .inl (fun _ => 0))), (q2, .inl (c2, 6, .inl (fun _ => 0)))] H := hP
  have hD : va_D A [(h0, .inr (0, [.int 0, .int 0, .ref q1, .null, .null, .null, .null, .null, .null, .null, .null, .int 0, .int 0, .int 0, .int 0, .int 0])), (q1, .inl (c1, 6, .inl (fun _ => 0))), (q2, .inl (c2, 6, .inl (fun _ => 0)))] := hD
  have hK : va_K D vwCl [(c1, .int), (c2, .int)] s := hK
  refine W.widen (k := 2) (n := 12) (Nat.le_of_ble_eq_true rfl) (Nat.le_of_ble_eq_true rfl) ?_
  refine va_putF (D := D) (ci := 0) (v := .ref q2) (ty := (.array .int)) (C := RX0) (T := TX0) (N := 16) hx hb hts (bl_cls_ws 0 RX0 TX0 16 rfl) tyX0 tyX0_ok nmX0 hown hK hP hD hS 0 rfl rfl 3 (by decide) (hts _ cg_50) (fun _ h9 => h9) rfl hin rfl (by decide +kernel) rfl rfl (Nat.le_of_ble_eq_true rfl) dX0_init_17 (fun H locs hP hD hS => ?_)
  have hP : va_P D vwCl [(h0, .inr (0, [.int 0, .int 0, .ref q1, .ref q2, .null, .null, .null, .null, .null, .null, .null, .int 0, .int 0, .int 0, .int 0, .int 0])), (q1, .inl (c1, 6, .inl (fun _ => 0))), (q2, .inl (c2, 6, .inl (fun _ => 0)))] H := hP
  have hD : va_D A [(h0, .inr (0, [.int 0, .int 0, .ref q1, .ref q2, .null, .null, .null, .null, .null, .null, .null, .int 0, .int 0, .int 0, .int 0, .int 0])), (q1, .inl (c1, 6, .inl (fun _ => 0))), (q2, .inl (c2, 6, .inl (fun _ => 0)))] := hD
  refine lv_aload_n hx hb dX0_init_20 rfl (lv_at hl 0 rfl) ?_
  refine lv_sipush (v := 448) hx hb dX0_init_21 (by decide) ?_
  refine va_newa (atype := .int) (ty := .int) (a0 := (448, .inl (fun _ => 0))) (N' := 448) hx hb (hts _ cg_26) rfl hK hP hD hS hA (fun _ => rfl) (by decide) (by decide) (by decide) (Nat.le_of_ble_eq_true rfl) (Nat.le_of_ble_eq_true rfl) dX0_init_24 (fun q3 c3 H hK hP hD hS => ?_)
  have hP : va_P D vwCl [(h0, .inr (0, [.int 0, .int 0, .ref q1, .ref q2, .null, .null, .null, .null, .null, .null, .null, .int 0, .int 0, .int 0, .int 0, .int 0])), (q1, .inl (c1, 6, .inl (fun _ => 0))), (q2, .inl (c2, 6, .inl (fun _ => 0))), (q3, .inl (c3, 448, .inl (fun _ => 0)))] H := hP
  have hD : va_D A [(h0, .inr (0, [.int 0, .int 0, .ref q1, .ref q2, .null, .null, .null, .null, .null, .null, .null, .int 0, .int 0, .int 0, .int 0, .int 0])), (q1, .inl (c1, 6, .inl (fun _ => 0))), (q2, .inl (c2, 6, .inl (fun _ => 0))), (q3, .inl (c3, 448, .inl (fun _ => 0)))] := hD
  have hK : va_K D vwCl [(c1, .int), (c2, .int), (c3, .int)] s := hK
  refine W.widen (k := 3) (n := 460) (Nat.le_of_ble_eq_true rfl) (Nat.le_of_ble_eq_true rfl) ?_
  refine va_putF (D := D) (ci := 0) (v := .ref q3) (ty := (.array .int)) (C := RX0) (T := TX0) (N := 16) hx hb hts (bl_cls_ws 0 RX0 TX0 16 rfl) tyX0 tyX0_ok nmX0 hown hK hP hD hS 0 rfl rfl 4 (by decide) (hts _ cg_51) (fun _ h9 => h9) rfl hin rfl (by decide +kernel) rfl rfl (Nat.le_of_ble_eq_true rfl) dX0_init_26 (fun H locs hP hD hS => ?_)
  have hP : va_P D vwCl [(h0, .inr (0, [.int 0, .int 0, .ref q1, .ref q2, .ref q3, .null, .null, .null, .null, .null, .null, .int 0, .int 0, .int 0, .int 0, .int 0])), (q1, .inl (c1, 6, .inl (fun _ => 0))), (q2, .inl (c2, 6, .inl (fun _ => 0))), (q3, .inl (c3, 448, .inl (fun _ => 0)))] H := hP
  have hD : va_D A [(h0, .inr (0, [.int 0, .int 0, .ref q1, .ref q2, .ref q3, .null, .null, .null, .null, .null, .null, .int 0, .int 0, .int 0, .int 0, .int 0])), (q1, .inl (c1, 6, .inl (fun _ => 0))), (q2, .inl (c2, 6, .inl (fun _ => 0))), (q3, .inl (c3, 448, .inl (fun _ => 0)))] := hD
  refine lv_aload_n hx hb dX0_init_29 rfl (lv_at hl 0 rfl) ?_
  refine lv_sipush (v := 1600) hx hb dX0_init_30 (by decide) ?_
  refine va_newa (atype := .int) (ty := .int) (a0 := (1600, .inl (fun _ => 0))) (N' := 1600) hx hb (hts _ cg_26) rfl hK hP hD hS hA (fun _ => rfl) (by decide) (by decide) (by decide) (Nat.le_of_ble_eq_true rfl) (Nat.le_of_ble_eq_true rfl) dX0_init_33 (fun q4 c4 H hK hP hD hS => ?_)
  have hP : va_P D vwCl [(h0, .inr (0, [.int 0, .int 0, .ref q1, .ref q2, .ref q3, .null, .null, .null, .null, .null, .null, .int 0, .int 0, .int 0, .int 0, .int 0])), (q1, .inl (c1, 6, .inl (fun _ => 0))), (q2, .inl (c2, 6, .inl (fun _ => 0))), (q3, .inl (c3, 448, .inl (fun _ => 0))), (q4, .inl (c4, 1600, .inl (fun _ => 0)))] H := hP
  have hD : va_D A [(h0, .inr (0, [.int 0, .int 0, .ref q1, .ref q2, .ref q3, .null, .null, .null, .null, .null, .null, .int 0, .int 0, .int 0, .int 0, .int 0])), (q1, .inl (c1, 6, .inl (fun _ => 0))), (q2, .inl (c2, 6, .inl (fun _ => 0))), (q3, .inl (c3, 448, .inl (fun _ => 0))), (q4, .inl (c4, 1600, .inl (fun _ => 0)))] := hD
  have hK : va_K D vwCl [(c1, .int), (c2, .int), (c3, .int), (c4, .int)] s := hK
  refine W.widen (k := 4) (n := 2060) (Nat.le_of_ble_eq_true rfl) (Nat.le_of_ble_eq_true rfl) ?_
  refine va_putF (D := D) (ci := 0) (v := .ref q4) (ty := (.array .int)) (C := RX0) (T := TX0) (N := 16) hx hb hts (bl_cls_ws 0 RX0 TX0 16 rfl) tyX0 tyX0_ok nmX0 hown hK hP hD hS 0 rfl rfl 5 (by decide) (hts _ cg_52) (fun _ h9 => h9) rfl hin rfl (by decide +kernel) rfl rfl (Nat.le_of_ble_eq_true rfl) dX0_init_35 (fun H locs hP hD hS => ?_)
  have hP : va_P D vwCl [(h0, .inr (0, [.int 0, .int 0, .ref q1, .ref q2, .ref q3, .ref q4, .null, .null, .null, .null, .null, .int 0, .int 0, .int 0, .int 0, .int 0])), (q1, .inl (c1, 6, .inl (fun _ => 0))), (q2, .inl (c2, 6, .inl (fun _ => 0))), (q3, .inl (c3, 448, .inl (fun _ => 0))), (q4, .inl (c4, 1600, .inl (fun _ => 0)))] H := hP
  have hD : va_D A [(h0, .inr (0, [.int 0, .int 0, .ref q1, .ref q2, .ref q3, .ref q4, .null, .null, .null, .null, .null, .int 0, .int 0, .int 0, .int 0, .int 0])), (q1, .inl (c1, 6, .inl (fun _ => 0))), (q2, .inl (c2, 6, .inl (fun _ => 0))), (q3, .inl (c3, 448, .inl (fun _ => 0))), (q4, .inl (c4, 1600, .inl (fun _ => 0)))] := hD
  refine lv_aload_n hx hb dX0_init_38 rfl (lv_at hl 0 rfl) ?_
  refine lv_sipush (v := 150) hx hb dX0_init_39 (by decide) ?_
  refine va_newa (atype := .int) (ty := .int) (a0 := (150, .inl (fun _ => 0))) (N' := 150) hx hb (hts _ cg_26) rfl hK hP hD hS hA (fun _ => rfl) (by decide) (by decide) (by decide) (Nat.le_of_ble_eq_true rfl) (Nat.le_of_ble_eq_true rfl) dX0_init_42 (fun q5 c5 H hK hP hD hS => ?_)
  have hP : va_P D vwCl [(h0, .inr (0, [.int 0, .int 0, .ref q1, .ref q2, .ref q3, .ref q4, .null, .null, .null, .null, .null, .int 0, .int 0, .int 0, .int 0, .int 0])), (q1, .inl (c1, 6, .inl (fun _ => 0))), (q2, .inl (c2, 6, .inl (fun _ => 0))), (q3, .inl (c3, 448, .inl (fun _ => 0))), (q4, .inl (c4, 1600, .inl (fun _ => 0))), (q5, .inl (c5, 150, .inl (fun _ => 0)))] H := hP
  have hD : va_D A [(h0, .inr (0, [.int 0, .int 0, .ref q1, .ref q2, .ref q3, .ref q4, .null, .null, .null, .null, .null, .int 0, .int 0, .int 0, .int 0, .int 0])), (q1, .inl (c1, 6, .inl (fun _ => 0))), (q2, .inl (c2, 6, .inl (fun _ => 0))), (q3, .inl (c3, 448, .inl (fun _ => 0))), (q4, .inl (c4, 1600, .inl (fun _ => 0))), (q5, .inl (c5, 150, .inl (fun _ => 0)))] := hD
  have hK : va_K D vwCl [(c1, .int), (c2, .int), (c3, .int), (c4, .int), (c5, .int)] s := hK
  refine W.widen (k := 5) (n := 2210) (Nat.le_of_ble_eq_true rfl) (Nat.le_of_ble_eq_true rfl) ?_
  refine va_putF (D := D) (ci := 0) (v := .ref q5) (ty := (.array .int)) (C := RX0) (T := TX0) (N := 16) hx hb hts (bl_cls_ws 0 RX0 TX0 16 rfl) tyX0 tyX0_ok nmX0 hown hK hP hD hS 0 rfl rfl 6 (by decide) (hts _ cg_53) (fun _ h9 => h9) rfl hin rfl (by decide +kernel) rfl rfl (Nat.le_of_ble_eq_true rfl) dX0_init_44 (fun H locs hP hD hS => ?_)
  have hP : va_P D vwCl [(h0, .inr (0, [.int 0, .int 0, .ref q1, .ref q2, .ref q3, .ref q4, .ref q5, .null, .null, .null, .null, .int 0, .int 0, .int 0, .int 0, .int 0])), (q1, .inl (c1, 6, .inl (fun _ => 0))), (q2, .inl (c2, 6, .inl (fun _ => 0))), (q3, .inl (c3, 448, .inl (fun _ => 0))), (q4, .inl (c4, 1600, .inl (fun _ => 0))), (q5, .inl (c5, 150, .inl (fun _ => 0)))] H := hP
  have hD : va_D A [(h0, .inr (0, [.int 0, .int 0, .ref q1, .ref q2, .ref q3, .ref q4, .ref q5, .null, .null, .null, .null, .int 0, .int 0, .int 0, .int 0, .int 0])), (q1, .inl (c1, 6, .inl (fun _ => 0))), (q2, .inl (c2, 6, .inl (fun _ => 0))), (q3, .inl (c3, 448, .inl (fun _ => 0))), (q4, .inl (c4, 1600, .inl (fun _ => 0))), (q5, .inl (c5, 150, .inl (fun _ => 0)))] := hD
  refine lv_aload_n hx hb dX0_init_47 rfl (lv_at hl 0 rfl) ?_
  refine lv_bipush (v := 6) hx hb dX0_init_48 (by decide) ?_
  refine va_newa (atype := .int) (ty := .int) (a0 := (6, .inl (fun _ => 0))) (N' := 6) hx hb (hts _ cg_26) rfl hK hP hD hS hA (fun _ => rfl) (by decide) (by decide) (by decide) (Nat.le_of_ble_eq_true rfl) (Nat.le_of_ble_eq_true rfl) dX0_init_50 (fun q6 c6 H hK hP hD hS => ?_)
  have hP : va_P D vwCl [(h0, .inr (0, [.int 0, .int 0, .ref q1, .ref q2, .ref q3, .ref q4, .ref q5, .null, .null, .null, .null, .int 0, .int 0, .int 0, .int 0, .int 0])), (q1, .inl (c1, 6, .inl (fun _ => 0))), (q2, .inl (c2, 6, .inl (fun _ => 0))), (q3, .inl (c3, 448, .inl (fun _ => 0))), (q4, .inl (c4, 1600, .inl (fun _ => 0))), (q5, .inl (c5, 150, .inl (fun _ => 0))), (q6, .inl (c6, 6, .inl (fun _ => 0)))] H := hP
  have hD : va_D A [(h0, .inr (0, [.int 0, .int 0, .ref q1, .ref q2, .ref q3, .ref q4, .ref q5, .null, .null, .null, .null, .int 0, .int 0, .int 0, .int 0, .int 0])), (q1, .inl (c1, 6, .inl (fun _ => 0))), (q2, .inl (c2, 6, .inl (fun _ => 0))), (q3, .inl (c3, 448, .inl (fun _ => 0))), (q4, .inl (c4, 1600, .inl (fun _ => 0))), (q5, .inl (c5, 150, .inl (fun _ => 0))), (q6, .inl (c6, 6, .inl (fun _ => 0)))] := hD
  have hK : va_K D vwCl [(c1, .int), (c2, .int), (c3, .int), (c4, .int), (c5, .int), (c6, .int)] s := hK
  refine W.widen (k := 6) (n := 2216) (Nat.le_of_ble_eq_true rfl) (Nat.le_of_ble_eq_true rfl) ?_
  refine va_putF (D := D) (ci := 0) (v := .ref q6) (ty := (.array .int)) (C := RX0) (T := TX0) (N := 16) hx hb hts (bl_cls_ws 0 RX0 TX0 16 rfl) tyX0 tyX0_ok nmX0 hown hK hP hD hS 0 rfl rfl 7 (by decide) (hts _ cg_54) (fun _ h9 => h9) rfl hin rfl (by decide +kernel) rfl rfl (Nat.le_of_ble_eq_true rfl) dX0_init_52 (fun H locs hP hD hS => ?_)
  have hP : va_P D vwCl [(h0, .inr (0, [.int 0, .int 0, .ref q1, .ref q2, .ref q3, .ref q4, .ref q5, .ref q6, .null, .null, .null, .int 0, .int 0, .int 0, .int 0, .int 0])), (q1, .inl (c1, 6, .inl (fun _ => 0))), (q2, .inl (c2, 6, .inl (fun _ => 0))), (q3, .inl (c3, 448, .inl (fun _ => 0))), (q4, .inl (c4, 1600, .inl (fun _ => 0))), (q5, .inl (c5, 150, .inl (fun _ => 0))), (q6, .inl (c6, 6, .inl (fun _ => 0)))] H := hP
  have hD : va_D A [(h0, .inr (0, [.int 0, .int 0, .ref q1, .ref q2, .ref q3, .ref q4, .ref q5, .ref q6, .null, .null, .null, .int 0, .int 0, .int 0, .int 0, .int 0])), (q1, .inl (c1, 6, .inl (fun _ => 0))), (q2, .inl (c2, 6, .inl (fun _ => 0))), (q3, .inl (c3, 448, .inl (fun _ => 0))), (q4, .inl (c4, 1600, .inl (fun _ => 0))), (q5, .inl (c5, 150, .inl (fun _ => 0))), (q6, .inl (c6, 6, .inl (fun _ => 0)))] := hD
  refine lv_aload_n hx hb dX0_init_55 rfl (lv_at hl 0 rfl) ?_
  refine lv_bipush (v := 6) hx hb dX0_init_56 (by decide) ?_
  refine va_newa (atype := .int) (ty := .int) (a0 := (6, .inl (fun _ => 0))) (N' := 6) hx hb (hts _ cg_26) rfl hK hP hD hS hA (fun _ => rfl) (by decide) (by decide) (by decide) (Nat.le_of_ble_eq_true rfl) (Nat.le_of_ble_eq_true rfl) dX0_init_58 (fun q7 c7 H hK hP hD hS => ?_)
  have hP : va_P D vwCl [(h0, .inr (0, [.int 0, .int 0, .ref q1, .ref q2, .ref q3, .ref q4, .ref q5, .ref q6, .null, .null, .null, .int 0, .int 0, .int 0, .int 0, .int 0])), (q1, .inl (c1, 6, .inl (fun _ => 0))), (q2, .inl (c2, 6, .inl (fun _ => 0))), (q3, .inl (c3, 448, .inl (fun _ => 0))), (q4, .inl (c4, 1600, .inl (fun _ => 0))), (q5, .inl (c5, 150, .inl (fun _ => 0))), (q6, .inl (c6, 6, .inl (fun _ => 0))), (q7, .inl (c7, 6, .inl (fun _ => 0)))] H := hP
  have hD : va_D A [(h0, .inr (0, [.int 0, .int 0, .ref q1, .ref q2, .ref q3, .ref q4, .ref q5, .ref q6, .null, .null, .null, .int 0, .int 0, .int 0, .int 0, .int 0])), (q1, .inl (c1, 6, .inl (fun _ => 0))), (q2, .inl (c2, 6, .inl (fun _ => 0))), (q3, .inl (c3, 448, .inl (fun _ => 0))), (q4, .inl (c4, 1600, .inl (fun _ => 0))), (q5, .inl (c5, 150, .inl (fun _ => 0))), (q6, .inl (c6, 6, .inl (fun _ => 0))), (q7, .inl (c7, 6, .inl (fun _ => 0)))] := hD
  have hK : va_K D vwCl [(c1, .int), (c2, .int), (c3, .int), (c4, .int), (c5, .int), (c6, .int), (c7, .int)] s := hK
  refine W.widen (k := 7) (n := 2222) (Nat.le_of_ble_eq_true rfl) (Nat.le_of_ble_eq_true rfl) ?_
  refine va_putF (D := D) (ci := 0) (v := .ref q7) (ty := (.array .int)) (C := RX0) (T := TX0) (N := 16) hx hb hts (bl_cls_ws 0 RX0 TX0 16 rfl) tyX0 tyX0_ok nmX0 hown hK hP hD hS 0 rfl rfl 8 (by decide) (hts _ cg_55) (fun _ h9 => h9) rfl hin rfl (by decide +kernel) rfl rfl (Nat.le_of_ble_eq_true rfl) dX0_init_60 (fun H locs hP hD hS => ?_)
  have hP : va_P D vwCl [(h0, .inr (0, [.int 0, .int 0, .ref q1, .ref q2, .ref q3, .ref q4, .ref q5, .ref q6, .ref q7, .null, .null, .int 0, .int 0, .int 0, .int 0, .int 0])), (q1, .inl (c1, 6, .inl (fun _ => 0))), (q2, .inl (c2, 6, .inl (fun _ => 0))), (q3, .inl (c3, 448, .inl (fun _ => 0))), (q4, .inl (c4, 1600, .inl (fun _ => 0))), (q5, .inl (c5, 150, .inl (fun _ => 0))), (q6, .inl (c6, 6, .inl (fun _ => 0))), (q7, .inl (c7, 6, .inl (fun _ => 0)))] H := hP
  have hD : va_D A [(h0, .inr (0, [.int 0, .int 0, .ref q1, .ref q2, .ref q3, .ref q4, .ref q5, .ref q6, .ref q7, .null, .null, .int 0, .int 0, .int 0, .int 0, .int 0])), (q1, .inl (c1, 6, .inl (fun _ => 0))), (q2, .inl (c2, 6, .inl (fun _ => 0))), (q3, .inl (c3, 448, .inl (fun _ => 0))), (q4, .inl (c4, 1600, .inl (fun _ => 0))), (q5, .inl (c5, 150, .inl (fun _ => 0))), (q6, .inl (c6, 6, .inl (fun _ => 0))), (q7, .inl (c7, 6, .inl (fun _ => 0)))] := hD
  refine lv_aload_n hx hb dX0_init_63 rfl (lv_at hl 0 rfl) ?_
  refine lv_bipush (v := 42) hx hb dX0_init_64 (by decide) ?_
  refine va_newa (atype := .int) (ty := .int) (a0 := (42, .inl (fun _ => 0))) (N' := 42) hx hb (hts _ cg_26) rfl hK hP hD hS hA (fun _ => rfl) (by decide) (by decide) (by decide) (Nat.le_of_ble_eq_true rfl) (Nat.le_of_ble_eq_true rfl) dX0_init_66 (fun q8 c8 H hK hP hD hS => ?_)
  have hP : va_P D vwCl [(h0, .inr (0, [.int 0, .int 0, .ref q1, .ref q2, .ref q3, .ref q4, .ref q5, .ref q6, .ref q7, .null, .null, .int 0, .int 0, .int 0, .int 0, .int 0])), (q1, .inl (c1, 6, .inl (fun _ => 0))), (q2, .inl (c2, 6, .inl (fun _ => 0))), (q3, .inl (c3, 448, .inl (fun _ => 0))), (q4, .inl (c4, 1600, .inl (fun _ => 0))), (q5, .inl (c5, 150, .inl (fun _ => 0))), (q6, .inl (c6, 6, .inl (fun _ => 0))), (q7, .inl (c7, 6, .inl (fun _ => 0))), (q8, .inl (c8, 42, .inl (fun _ => 0)))] H := hP
  have hD : va_D A [(h0, .inr (0, [.int 0, .int 0, .ref q1, .ref q2, .ref q3, .ref q4, .ref q5, .ref q6, .ref q7, .null, .null, .int 0, .int 0, .int 0, .int 0, .int 0])), (q1, .inl (c1, 6, .inl (fun _ => 0))), (q2, .inl (c2, 6, .inl (fun _ => 0))), (q3, .inl (c3, 448, .inl (fun _ => 0))), (q4, .inl (c4, 1600, .inl (fun _ => 0))), (q5, .inl (c5, 150, .inl (fun _ => 0))), (q6, .inl (c6, 6, .inl (fun _ => 0))), (q7, .inl (c7, 6, .inl (fun _ => 0))), (q8, .inl (c8, 42, .inl (fun _ => 0)))] := hD
  have hK : va_K D vwCl [(c1, .int), (c2, .int), (c3, .int), (c4, .int), (c5, .int), (c6, .int), (c7, .int), (c8, .int)] s := hK
  refine W.widen (k := 8) (n := 2264) (Nat.le_of_ble_eq_true rfl) (Nat.le_of_ble_eq_true rfl) ?_
  refine va_putF (D := D) (ci := 0) (v := .ref q8) (ty := (.array .int)) (C := RX0) (T := TX0) (N := 16) hx hb hts (bl_cls_ws 0 RX0 TX0 16 rfl) tyX0 tyX0_ok nmX0 hown hK hP hD hS 0 rfl rfl 9 (by decide) (hts _ cg_56) (fun _ h9 => h9) rfl hin rfl (by decide +kernel) rfl rfl (Nat.le_of_ble_eq_true rfl) dX0_init_68 (fun H locs hP hD hS => ?_)
  have hP : va_P D vwCl [(h0, .inr (0, [.int 0, .int 0, .ref q1, .ref q2, .ref q3, .ref q4, .ref q5, .ref q6, .ref q7, .ref q8, .null, .int 0, .int 0, .int 0, .int 0, .int 0])), (q1, .inl (c1, 6, .inl (fun _ => 0))), (q2, .inl (c2, 6, .inl (fun _ => 0))), (q3, .inl (c3, 448, .inl (fun _ => 0))), (q4, .inl (c4, 1600, .inl (fun _ => 0))), (q5, .inl (c5, 150, .inl (fun _ => 0))), (q6, .inl (c6, 6, .inl (fun _ => 0))), (q7, .inl (c7, 6, .inl (fun _ => 0))), (q8, .inl (c8, 42, .inl (fun _ => 0)))] H := hP
  have hD : va_D A [(h0, .inr (0, [.int 0, .int 0, .ref q1, .ref q2, .ref q3, .ref q4, .ref q5, .ref q6, .ref q7, .ref q8, .null, .int 0, .int 0, .int 0, .int 0, .int 0])), (q1, .inl (c1, 6, .inl (fun _ => 0))), (q2, .inl (c2, 6, .inl (fun _ => 0))), (q3, .inl (c3, 448, .inl (fun _ => 0))), (q4, .inl (c4, 1600, .inl (fun _ => 0))), (q5, .inl (c5, 150, .inl (fun _ => 0))), (q6, .inl (c6, 6, .inl (fun _ => 0))), (q7, .inl (c7, 6, .inl (fun _ => 0))), (q8, .inl (c8, 42, .inl (fun _ => 0)))] := hD
  refine lv_aload_n hx hb dX0_init_71 rfl (lv_at hl 0 rfl) ?_
  refine va_new (ci := 1) (fs := [.int 0, .int 0, .int 0, .int 0, .int 0, .int 0]) (C := RX1) (T := TX1) (N := 6) hx hb hts (bl_cls_ws 1 RX1 TX1 6 rfl) tyX1 tyX1_ok hown (hts _ cg_57) (hts _ cg_17) (hts _ cg_18) hK hP hD hS hA rfl (by decide +kernel) (Nat.le_of_ble_eq_true rfl) (Nat.le_of_ble_eq_true rfl) dX0_init_72 (fun q9 H hP hD hS => ?_)
  have hP : va_P D vwCl [(h0, .inr (0, [.int 0, .int 0, .ref q1, .ref q2, .ref q3, .ref q4, .ref q5, .ref q6, .ref q7, .ref q8, .null, .int 0, .int 0, .int 0, .int 0, .int 0])), (q1, .inl (c1, 6, .inl (fun _ => 0))), (q2, .inl (c2, 6, .inl (fun _ => 0))), (q3, .inl (c3, 448, .inl (fun _ => 0))), (q4, .inl (c4, 1600, .inl (fun _ => 0))), (q5, .inl (c5, 150, .inl (fun _ => 0))), (q6, .inl (c6, 6, .inl (fun _ => 0))), (q7, .inl (c7, 6, .inl (fun _ => 0))), (q8, .inl (c8, 42, .inl (fun _ => 0))), (q9, .inr (1, [.int 0, .int 0, .int 0, .int 0, .int 0, .int 0]))] H := hP
  have hD : va_D A [(h0, .inr (0, [.int 0, .int 0, .ref q1, .ref q2, .ref q3, .ref q4, .ref q5, .ref q6, .ref q7, .ref q8, .null, .int 0, .int 0, .int 0, .int 0, .int 0])), (q1, .inl (c1, 6, .inl (fun _ => 0))), (q2, .inl (c2, 6, .inl (fun _ => 0))), (q3, .inl (c3, 448, .inl (fun _ => 0))), (q4, .inl (c4, 1600, .inl (fun _ => 0))), (q5, .inl (c5, 150, .inl (fun _ => 0))), (q6, .inl (c6, 6, .inl (fun _ => 0))), (q7, .inl (c7, 6, .inl (fun _ => 0))), (q8, .inl (c8, 42, .inl (fun _ => 0))), (q9, .inr (1, [.int 0, .int 0, .int 0, .int 0, .int 0, .int 0]))] := hD
  refine W.widen (k := 9) (n := 2270) (Nat.le_of_ble_eq_true rfl) (Nat.le_of_ble_eq_true rfl) ?_
  refine lv_dup hx hb dX0_init_75 rfl ?_
  have hPc := hP.sub (ws' := [(q9, .inr (1, [.int 0, .int 0, .int 0, .int 0, .int 0, .int 0]))]) [9] rfl
  have hDc := hD.sub (ws' := [(q9, .inr (1, [.int 0, .int 0, .int 0, .int 0, .int 0, .int 0]))]) [9] (by decide) rfl
  have hKc := hK.sub (tys' := []) [] rfl
  have hFc := va_free (wc := [(q9, .inr (1, [.int 0, .int 0, .int 0, .int 0, .int 0, .int 0]))]) hD hS hA [9] rfl
  refine va_callv (va_runIN (As := []) (rest := [.ref q9, .ref h0]) ⟨hx, hb, hml, hown, hts⟩ (k_X1 l D q9 H.size) ⟨va_cnB 0 hts (ct_good cg_19) rfl rfl rfl (hZ.1 _ (List.mem_of_getElem? (i := 5) rfl)) (hts _ cg_18) (by decide +kernel) ⟨Nat.le_of_ble_eq_true rfl, Nat.le_of_ble_eq_true rfl⟩, rfl, hts _ cg_20⟩ ⟨ct_blind, fun U hU hW => ⟨rfl, by rw [hU], by rw [hU]; exact hPc, va_K.moved hW.alike hKc, hDc.weaken (fun _ _ _ _ => trivial), hZ.warm hW⟩⟩ rfl rfl hl.1 rfl (lv_room (Nat.le_of_ble_eq_true rfl)) dX0_init_76 ⟨Nat.le_of_ble_eq_true rfl, Nat.le_of_ble_eq_true rfl⟩) hS (fun q _ h => hFc q h) hFc (fun u_q9 t H1 locs ht hvm hw hB hz1 hk1 hS => ?_)
  obtain ⟨hP1, hK1, hD1⟩ := hB
  rw [ht] at hP1
  have hK1 := va_K.moved hvm.symm hK1
  obtain ⟨hP, hD⟩ := va_join (wr := [(h0, .inr (0, [.int 0, .int 0, .ref q1, .ref q2, .ref q3, .ref q4, .ref q5, .ref q6, .ref q7, .ref q8, .null, .int 0, .int 0, .int 0, .int 0, .int 0])), (q1, .inl (c1, 6, .inl (fun _ => 0))), (q2, .inl (c2, 6, .inl (fun _ => 0))), (q3, .inl (c3, 448, .inl (fun _ => 0))), (q4, .inl (c4, 1600, .inl (fun _ => 0))), (q5, .inl (c5, 150, .inl (fun _ => 0))), (q6, .inl (c6, 6, .inl (fun _ => 0))), (q7, .inl (c7, 6, .inl (fun _ => 0))), (q8, .inl (c8, 42, .inl (fun _ => 0)))]) (w1 := (gX1 q9 u_q9)) hP hD [9] [0, 1, 2, 3, 4, 5, 6, 7, 8] rfl rfl (by decide +kernel) (by decide +kernel) hk1 hFc hP1 hD1
  have hK := (hK.sub (tys' := [(c1, .int), (c2, .int), (c3, .int), (c4, .int), (c5, .int), (c6, .int), (c7, .int), (c8, .int)]) [0, 1, 2, 3, 4, 5, 6, 7] rfl).app hK1
  generalize H1 = H at hP hS ⊢
  have hP : va_P D vwCl [(h0, .inr (0, [.int 0, .int 0, .ref q1, .ref q2, .ref q3, .ref q4, .ref q5, .ref q6, .ref q7, .ref q8, .null, .int 0, .int 0, .int 0, .int 0, .int 0])), (q1, .inl (c1, 6, .inl (fun _ => 0))), (q2, .inl (c2, 6, .inl (fun _ => 0))), (q3, .inl (c3, 448, .inl (fun _ => 0))), (q4, .inl (c4, 1600, .inl (fun _ => 0))), (q5, .inl (c5, 150, .inl (fun _ => 0))), (q6, .inl (c6, 6, .inl (fun _ => 0))), (q7, .inl (c7, 6, .inl (fun _ => 0))), (q8, .inl (c8, 42, .inl (fun _ => 0))), (q9, .inr (1, [.int 0, .int 0, .int 0, .int 0, .int 0, .int 0]))] H := hP
  have hD : va_D A [(h0, .inr (0, [.int 0, .int 0, .ref q1, .ref q2, .ref q3, .ref q4, .ref q5, .ref q6, .ref q7, .ref q8, .null, .int 0, .int 0, .int 0, .int 0, .int 0])), (q1, .inl (c1, 6, .inl (fun _ => 0))), (q2, .inl (c2, 6, .inl (fun _ => 0))), (q3, .inl (c3, 448, .inl (fun _ => 0))), (q4, .inl (c4, 1600, .inl (fun _ => 0))), (q5, .inl (c5, 150, .inl (fun _ => 0))), (q6, .inl (c6, 6, .inl (fun _ => 0))), (q7, .inl (c7, 6, .inl (fun _ => 0))), (q8, .inl (c8, 42, .inl (fun _ => 0))), (q9, .inr (1, [.int 0, .int 0, .int 0, .int 0, .int 0, .int 0]))] := hD
  have hK : va_K D vwCl [(c1, .int), (c2, .int), (c3, .int), (c4, .int), (c5, .int), (c6, .int), (c7, .int), (c8, .int)] s := hK
  refine W.widen (k := 9) (n := 2270) (Nat.le_of_ble_eq_true rfl) (Nat.le_of_ble_eq_true rfl) ?_
  refine va_putF (D := D) (ci := 0) (v := .ref q9) (ty := (.object "BerryLane$Bush")) (C := RX0) (T := TX0) (N := 16) hx hb hts (bl_cls_ws 0 RX0 TX0 16 rfl) tyX0 tyX0_ok nmX0 hown hK hP hD hS 0 rfl rfl 10 (by decide) (hts _ cg_58) (fun _ h9 => h9) rfl hin rfl (by decide +kernel) rfl rfl (Nat.le_of_ble_eq_true rfl) dX0_init_79 (fun H locs hP hD hS => ?_)
  have hP : va_P D vwCl [(h0, .inr (0, [.int 0, .int 0, .ref q1, .ref q2, .ref q3, .ref q4, .ref q5, .ref q6, .ref q7, .ref q8, .ref q9, .int 0, .int 0, .int 0, .int 0, .int 0])), (q1, .inl (c1, 6, .inl (fun _ => 0))), (q2, .inl (c2, 6, .inl (fun _ => 0))), (q3, .inl (c3, 448, .inl (fun _ => 0))), (q4, .inl (c4, 1600, .inl (fun _ => 0))), (q5, .inl (c5, 150, .inl (fun _ => 0))), (q6, .inl (c6, 6, .inl (fun _ => 0))), (q7, .inl (c7, 6, .inl (fun _ => 0))), (q8, .inl (c8, 42, .inl (fun _ => 0))), (q9, .inr (1, [.int 0, .int 0, .int 0, .int 0, .int 0, .int 0]))] H := hP
  have hD : va_D A [(h0, .inr (0, [.int 0, .int 0, .ref q1, .ref q2, .ref q3, .ref q4, .ref q5, .ref q6, .ref q7, .ref q8, .ref q9, .int 0, .int 0, .int 0, .int 0, .int 0])), (q1, .inl (c1, 6, .inl (fun _ => 0))), (q2, .inl (c2, 6, .inl (fun _ => 0))), (q3, .inl (c3, 448, .inl (fun _ => 0))), (q4, .inl (c4, 1600, .inl (fun _ => 0))), (q5, .inl (c5, 150, .inl (fun _ => 0))), (q6, .inl (c6, 6, .inl (fun _ => 0))), (q7, .inl (c7, 6, .inl (fun _ => 0))), (q8, .inl (c8, 42, .inl (fun _ => 0))), (q9, .inr (1, [.int 0, .int 0, .int 0, .int 0, .int 0, .int 0]))] := hD
  exact W.vret hx hb hr (fun t ht hW => ⟨⟨(fun i => [q1, q2, q3, q4, q5, q6, q7, q8, q9].getD i 0, fun i => [c1, c2, c3, c4, c5, c6, c7, c8].getD i c1), rfl, trivial, by rw [ht]; exact hP, va_K.moved hW.alike hK, hD⟩, hS.F ht⟩) hS.2.2 dX0_init_82
abbrev SX6 : Type := (Nat → Nat) × (Nat → ClassId)
abbrev gX6 (h0 : Nat) (u : SX6) : va_W := [(h0, .inr (6, [.int 0, .ref (u.1 0), .ref (u.1 1), .ref (u.1 2), .ref (u.1 3), .int 0, .int 0])), ((u.1 0), .inl ((u.2 0), 24, .inl (fun _ => 0))), ((u.1 1), .inl ((u.2 1), 4, .inl (fun _ => 0))), ((u.1 2), .inl ((u.2 2), 4, .inl (fun _ => 0))), ((u.1 3), .inr (1, [.int 0, .int 0, .int 0, .int 0, .int 0, .int 0]))]
abbrev tX6 (u : SX6) : List (ClassId × FieldType) := [((u.2 0), .int), ((u.2 1), .int), ((u.2 2), .int)]
set_option maxHeartbeats 8000000 in
set_option maxRecDepth 100000 in
theorem k_X6 (l : Launch) (D : va_G) (h0 sz : Nat) : Met l yX6_init (ct_ws yX6_init cX6_init 1) ({ frames := 2, cells := 4, slots := 38, locals := 32 }) (ctPre D [.ref h0] [(h0, .inr (6, [.int 0, .null, .null, .null, .null, .int 0, .int 0]))] sz) (ctPost D [(h0, .inr (6, [.int 0, .null, .null, .null, .null, .int 0, .int 0]))] sz (fun u : SX6 => gX6 h0 u) (fun u => tX6 u)) 4 38 (va_A [(h0, .inr (6, [.int 0, .null, .null, .null, .null, .int 0, .int 0]))] sz) := by
  refine Met.ofW (cc := cX6_init) (maxL := 1) (ret := none) (by decide) rfl ?_
  intro p e s m args below meth c s₁ B hml hv
  obtain ⟨rfl, hsz, hP, hK, hD0, hZ⟩ := hv
  have hx := B.exec
  have hb := B.bytes
  have hr := B.returns
  have hts0 := atoms_spec (ws := ct_ws yX6_init cX6_init 1) B.pre
  have hts : ∀ w ∈ bl_gt, w.before ([.ref h0] : List Value).toArray s = true := fun w hw => hts0 w (List.mem_cons_of_mem _ hw)
  have hown : s.vm.findClass RX6 = some m.cls := findClass_of_methodNamed B.named
  have hin : meth.name = "<init>" := (name_of_methodNamed B.named B.method).1
  subst hsz
  have hD := hD0.self (sz := s.heap.size)
  unfold ctPost
  generalize hAe : va_A [(h0, .inr (6, [.int 0, .null, .null, .null, .null, .int 0, .int 0]))] s.heap.size = A at hD ⊢
  have hA : ∀ q : Nat, s.heap.size ≤ q → A q := fun q h => by rw [← hAe]; exact Or.inr h
  have hS : va_S A s.heap s.heap [] := va_S.rf
  have hP : va_P D vwCl [(h0, .inr (6, [.int 0, .null, .null, .null, .null, .int 0, .int 0]))] s.heap := hP
  have hl := lv_entry ([.ref h0]) (n := 1) (Nat.le_of_ble_eq_true rfl)
  rw [lg_entry_eq]
  generalize (lg_sl ([.ref h0]) ++ List.replicate (1 - (lg_sl ([.ref h0])).length) Slot.unset).toArray = ls at hl ⊢
  have hl : lv_has ls 1 [(0, .ref h0)] := hl
  refine lv_aload_n hx hb dX6_init_0 rfl (lv_at hl 0 rfl) ?_
  refine W.objInit hx hb hown (hts _ cg_59) (hts _ cg_1) (hts _ cg_2) rfl (by rw [hml]; exact hl.1) rfl dX6_init_1 (Nat.le_of_ble_eq_true rfl) (Nat.le_of_ble_eq_true rfl) ?_
  refine W.eq (g2 := F0 m 4 ls []) rfl ?_
  refine lv_aload_n hx hb dX6_init_4 rfl (lv_at hl 0 rfl) ?_
  refine lv_bipush (v := 24) hx hb dX6_init_5 (by decide) ?_
  refine va_newa (atype := .int) (ty := .int) (a0 := (24, .inl (fun _ => 0))) (N' := 24) hx hb (hts _ cg_26) rfl hK hP hD hS hA (fun _ => rfl) (by decide) (by decide) (by decide) (Nat.le_of_ble_eq_true rfl) (Nat.le_of_ble_eq_true rfl) dX6_init_7 (fun q1 c1 H hK hP hD hS => ?_)
  have hP : va_P D vwCl [(h0, .inr (6, [.int 0, .null, .null, .null, .null, .int 0, .int 0])), (q1, .inl (c1, 24, .inl (fun _ => 0)))] H := hP
  have hD : va_D A [(h0, .inr (6, [.int 0, .null, .null, .null, .null, .int 0, .int 0])), (q1, .inl (c1, 24, .inl (fun _ => 0)))] := hD
  have hK : va_K D vwCl [(c1, .int)] s := hK
  refine W.widen (k := 1) (n := 24) (Nat.le_of_ble_eq_true rfl) (Nat.le_of_ble_eq_true rfl) ?_
  refine va_putF (D := D) (ci := 6) (v := .ref q1) (ty := (.array .int)) (C := RX6) (T := TX6) (N := 7) hx hb hts (bl_cls_ws 6 RX6 TX6 7 rfl) tyX6 tyX6_ok nmX6 hown hK hP hD hS 0 rfl rfl 1 (by decide) (hts _ cg_60) (fun _ h9 => h9) rfl hin rfl (by decide +kernel) rfl rfl (Nat.le_of_ble_eq_true rfl) dX6_init_9 (fun H locs hP hD hS => ?_)
  have hP : va_P D vwCl [(h0, .inr (6, [.int 0, .ref q1, .null, .null, .null, .int 0, .int 0])), (q1, .inl (c1, 24, .inl (fun _ => 0)))] H := hP
  have hD : va_D A [(h0, .inr (6, [.int 0, .ref q1, .null, .null, .null, .int 0, .int 0])), (q1, .inl (c1, 24, .inl (fun _ => 0)))] := hD
  refine lv_aload_n hx hb dX6_init_12 rfl (lv_at hl 0 rfl) ?_
  refine lv_iconst (v := 4) hx hb dX6_init_13 (by decide) ?_
  refine va_newa (atype := .int) (ty := .int) (a0 := (4, .inl (fun _ => 0))) (N' := 4) hx hb (hts _ cg_26) rfl hK hP hD hS hA (fun _ => rfl) (by decide) (by decide) (by decide) (Nat.le_of_ble_eq_true rfl) (Nat.le_of_ble_eq_true rfl) dX6_init_14 (fun q2 c2 H hK hP hD hS => ?_)
  have hP : va_P D vwCl [(h0, .inr (6, [.int 0, .ref q1, .null, .null, .null, .int 0, .int 0])), (q1, .inl (c1, 24, .inl (fun _ => 0))), (q2, .inl (c2, 4, .inl (fun _ => 0)))] H := hP
  have hD : va_D A [(h0, .inr (6, [.int 0, .ref q1, .null, .null, .null, .int 0, .int 0])), (q1, .inl (c1, 24, .inl (fun _ => 0))), (q2, .inl (c2, 4, .inl (fun _ => 0)))] := hD
  have hK : va_K D vwCl [(c1, .int), (c2, .int)] s := hK
  refine W.widen (k := 2) (n := 28) (Nat.le_of_ble_eq_true rfl) (Nat.le_of_ble_eq_true rfl) ?_
  refine va_putF (D := D) (ci := 6) (v := .ref q2) (ty := (.array .int)) (C := RX6) (T := TX6) (N := 7) hx hb hts (bl_cls_ws 6 RX6 TX6 7 rfl) tyX6 tyX6_ok nmX6 hown hK hP hD hS 0 rfl rfl 2 (by decide) (hts _ cg_61) (fun _ h9 => h9) rfl hin rfl (by decide +kernel) rfl rfl (Nat.le_of_ble_eq_true rfl) dX6_init_16 (fun H locs hP hD hS => ?_)
  have hP : va_P D vwCl [(h0, .inr (6, [.int 0, .ref q1, .ref q2, .null, .null, .int 0, .int 0])), (q1, .inl (c1, 24, .inl (fun _ => 0))), (q2, .inl (c2, 4, .inl (fun _ => 0)))] H := hP
  have hD : va_D A [(h0, .inr (6, [.int 0, .ref q1, .ref q2, .null, .null, .int 0, .int 0])), (q1, .inl (c1, 24, .inl (fun _ => 0))), (q2, .inl (c2, 4, .inl (fun _ => 0)))] := hD
  refine lv_aload_n hx hb dX6_init_19 rfl (lv_at hl 0 rfl) ?_
  refine lv_iconst (v := 4) hx hb dX6_init_20 (by decide) ?_
  refine va_newa (atype := .int) (ty := .int) (a0 := (4, .inl (fun _ => 0))) (N' := 4) hx hb (hts _ cg_26) rfl hK hP hD hS hA (fun _ => rfl) (by decide) (by decide) (by decide) (Nat.le_of_ble_eq_true rfl) (Nat.le_of_ble_eq_true rfl) dX6_init_21 (fun q3 c3 H hK hP hD hS => ?_)
  have hP : va_P D vwCl [(h0, .inr (6, [.int 0, .ref q1, .ref q2, .null, .null, .int 0, .int 0])), (q1, .inl (c1, 24, .inl (fun _ => 0))), (q2, .inl (c2, 4, .inl (fun _ => 0))), (q3, .inl (c3, 4, .inl (fun _ => 0)))] H := hP
  have hD : va_D A [(h0, .inr (6, [.int 0, .ref q1, .ref q2, .null, .null, .int 0, .int 0])), (q1, .inl (c1, 24, .inl (fun _ => 0))), (q2, .inl (c2, 4, .inl (fun _ => 0))), (q3, .inl (c3, 4, .inl (fun _ => 0)))] := hD
  have hK : va_K D vwCl [(c1, .int), (c2, .int), (c3, .int)] s := hK
  refine W.widen (k := 3) (n := 32) (Nat.le_of_ble_eq_true rfl) (Nat.le_of_ble_eq_true rfl) ?_
  refine va_putF (D := D) (ci := 6) (v := .ref q3) (ty := (.array .int)) (C := RX6) (T := TX6) (N := 7) hx hb hts (bl_cls_ws 6 RX6 TX6 7 rfl) tyX6 tyX6_ok nmX6 hown hK hP hD hS 0 rfl rfl 3 (by decide) (hts _ cg_62) (fun _ h9 => h9) rfl hin rfl (by decide +kernel) rfl rfl (Nat.le_of_ble_eq_true rfl) dX6_init_23 (fun H locs hP hD hS => ?_)
  have hP : va_P D vwCl [(h0, .inr (6, [.int 0, .ref q1, .ref q2, .ref q3, .null, .int 0, .int 0])), (q1, .inl (c1, 24, .inl (fun _ => 0))), (q2, .inl (c2, 4, .inl (fun _ => 0))), (q3, .inl (c3, 4, .inl (fun _ => 0)))] H := hP
  have hD : va_D A [(h0, .inr (6, [.int 0, .ref q1, .ref q2, .ref q3, .null, .int 0, .int 0])), (q1, .inl (c1, 24, .inl (fun _ => 0))), (q2, .inl (c2, 4, .inl (fun _ => 0))), (q3, .inl (c3, 4, .inl (fun _ => 0)))] := hD
  refine lv_aload_n hx hb dX6_init_26 rfl (lv_at hl 0 rfl) ?_
  refine va_new (ci := 1) (fs := [.int 0, .int 0, .int 0, .int 0, .int 0, .int 0]) (C := RX1) (T := TX1) (N := 6) hx hb hts (bl_cls_ws 1 RX1 TX1 6 rfl) tyX1 tyX1_ok hown (hts _ cg_63) (hts _ cg_17) (hts _ cg_18) hK hP hD hS hA rfl (by decide +kernel) (Nat.le_of_ble_eq_true rfl) (Nat.le_of_ble_eq_true rfl) dX6_init_27 (fun q4 H hP hD hS => ?_)
  have hP : va_P D vwCl [(h0, .inr (6, [.int 0, .ref q1, .ref q2, .ref q3, .null, .int 0, .int 0])), (q1, .inl (c1, 24, .inl (fun _ => 0))), (q2, .inl (c2, 4, .inl (fun _ => 0))), (q3, .inl (c3, 4, .inl (fun _ => 0))), (q4, .inr (1, [.int 0, .int 0, .int 0, .int 0, .int 0, .int 0]))] H := hP
  have hD : va_D A [(h0, .inr (6, [.int 0, .ref q1, .ref q2, .ref q3, .null, .int 0, .int 0])), (q1, .inl (c1, 24, .inl (fun _ => 0))), (q2, .inl (c2, 4, .inl (fun _ => 0))), (q3, .inl (c3, 4, .inl (fun _ => 0))), (q4, .inr (1, [.int 0, .int 0, .int 0, .int 0, .int 0, .int 0]))] := hD
  refine W.widen (k := 4) (n := 38) (Nat.le_of_ble_eq_true rfl) (Nat.le_of_ble_eq_true rfl) ?_
  refine lv_dup hx hb dX6_init_30 rfl ?_
  have hPc := hP.sub (ws' := [(q4, .inr (1, [.int 0, .int 0, .int 0, .int 0, .int 0, .int 0]))]) [4] rfl
  have hDc := hD.sub (ws' := [(q4, .inr (1, [.int 0, .int 0, .int 0, .int 0, .int 0, .int 0]))]) [4] (by decide) rfl
  have hKc := hK.sub (tys' := []) [] rfl
  have hFc := va_free (wc := [(q4, .inr (1, [.int 0, .int 0, .int 0, .int 0, .int 0, .int 0]))]) hD hS hA [4] rfl
  refine va_callv (va_runIN (As := []) (rest := [.ref q4, .ref h0]) ⟨hx, hb, hml, hown, hts⟩ (k_X1 l D q4 H.size) ⟨va_cnB 0 hts (ct_good cg_19) rfl rfl rfl (hZ.1 _ (List.mem_of_getElem? (i := 7) rfl)) (hts _ cg_18) (by decide +kernel) ⟨Nat.le_of_ble_eq_true rfl, Nat.le_of_ble_eq_true rfl⟩, rfl, hts _ cg_20⟩ ⟨ct_blind, fun U hU hW => ⟨rfl, by rw [hU], by rw [hU]; exact hPc, va_K.moved hW.alike hKc, hDc.weaken (fun _ _ _ _ => trivial), hZ.warm hW⟩⟩ rfl rfl hl.1 rfl (lv_room (Nat.le_of_ble_eq_true rfl)) dX6_init_31 ⟨Nat.le_of_ble_eq_true rfl, Nat.le_of_ble_eq_true rfl⟩) hS (fun q _ h => hFc q h) hFc (fun u_q4 t H1 locs ht hvm hw hB hz1 hk1 hS => ?_)
  obtain ⟨hP1, hK1, hD1⟩ := hB
  rw [ht] at hP1
  have hK1 := va_K.moved hvm.symm hK1
  obtain ⟨hP, hD⟩ := va_join (wr := [(h0, .inr (6, [.int 0, .ref q1, .ref q2, .ref q3, .null, .int 0, .int 0])), (q1, .inl (c1, 24, .inl (fun _ => 0))), (q2, .inl (c2, 4, .inl (fun _ => 0))), (q3, .inl (c3, 4, .inl (fun _ => 0)))]) (w1 := (gX1 q4 u_q4)) hP hD [4] [0, 1, 2, 3] rfl rfl (by decide +kernel) (by decide +kernel) hk1 hFc hP1 hD1
  have hK := (hK.sub (tys' := [(c1, .int), (c2, .int), (c3, .int)]) [0, 1, 2] rfl).app hK1
  generalize H1 = H at hP hS ⊢
  have hP : va_P D vwCl [(h0, .inr (6, [.int 0, .ref q1, .ref q2, .ref q3, .null, .int 0, .int 0])), (q1, .inl (c1, 24, .inl (fun _ => 0))), (q2, .inl (c2, 4, .inl (fun _ => 0))), (q3, .inl (c3, 4, .inl (fun _ => 0))), (q4, .inr (1, [.int 0, .int 0, .int 0, .int 0, .int 0, .int 0]))] H := hP
  have hD : va_D A [(h0, .inr (6, [.int 0, .ref q1, .ref q2, .ref q3, .null, .int 0, .int 0])), (q1, .inl (c1, 24, .inl (fun _ => 0))), (q2, .inl (c2, 4, .inl (fun _ => 0))), (q3, .inl (c3, 4, .inl (fun _ => 0))), (q4, .inr (1, [.int 0, .int 0, .int 0, .int 0, .int 0, .int 0]))] := hD
  have hK : va_K D vwCl [(c1, .int), (c2, .int), (c3, .int)] s := hK
  refine W.widen (k := 4) (n := 38) (Nat.le_of_ble_eq_true rfl) (Nat.le_of_ble_eq_true rfl) ?_
  refine va_putF (D := D) (ci := 6) (v := .ref q4) (ty := (.object "BerryLane$Bush")) (C := RX6) (T := TX6) (N := 7) hx hb hts (bl_cls_ws 6 RX6 TX6 7 rfl) tyX6 tyX6_ok nmX6 hown hK hP hD hS 0 rfl rfl 4 (by decide) (hts _ cg_64) (fun _ h9 => h9) rfl hin rfl (by decide +kernel) rfl rfl (Nat.le_of_ble_eq_true rfl) dX6_init_34 (fun H locs hP hD hS => ?_)
  have hP : va_P D vwCl [(h0, .inr (6, [.int 0, .ref q1, .ref q2, .ref q3, .ref q4, .int 0, .int 0])), (q1, .inl (c1, 24, .inl (fun _ => 0))), (q2, .inl (c2, 4, .inl (fun _ => 0))), (q3, .inl (c3, 4, .inl (fun _ => 0))), (q4, .inr (1, [.int 0, .int 0, .int 0, .int 0, .int 0, .int 0]))] H := hP
  have hD : va_D A [(h0, .inr (6, [.int 0, .ref q1, .ref q2, .ref q3, .ref q4, .int 0, .int 0])), (q1, .inl (c1, 24, .inl (fun _ => 0))), (q2, .inl (c2, 4, .inl (fun _ => 0))), (q3, .inl (c3, 4, .inl (fun _ => 0))), (q4, .inr (1, [.int 0, .int 0, .int 0, .int 0, .int 0, .int 0]))] := hD
  exact W.vret hx hb hr (fun t ht hW => ⟨⟨(fun i => [q1, q2, q3, q4].getD i 0, fun i => [c1, c2, c3].getD i c1), rfl, trivial, by rw [ht]; exact hP, va_K.moved hW.alike hK, hD⟩, hS.F ht⟩) hS.2.2 dX6_init_37
abbrev SX2 : Type := (Nat → Nat) × (Nat → ClassId)
abbrev gX2 (h0 : Nat) (u : SX2) : va_W := [(h0, .inr (2, [.int 0, .int 0, .int 0, .int 0, .ref (u.1 0)])), ((u.1 0), .inr (1, [.int 0, .int 0, .int 0, .int 0, .int 0, .int 0]))]
abbrev tX2 (u : SX2) : List (ClassId × FieldType) := []
set_option maxHeartbeats 8000000 in
set_option maxRecDepth 100000 in
theorem k_X2 (l : Launch) (D : va_G) (h0 sz : Nat) : Met l yX2_init (ct_ws yX2_init cX2_init 1) ({ frames := 2, cells := 1, slots := 6, locals := 32 }) (ctPre D [.ref h0] [(h0, .inr (2, [.int 0, .int 0, .int 0, .int 0, .null]))] sz) (ctPost D [(h0, .inr (2, [.int 0, .int 0, .int 0, .int 0, .null]))] sz (fun u : SX2 => gX2 h0 u) (fun u => tX2 u)) 1 6 (va_A [(h0, .inr (2, [.int 0, .int 0, .int 0, .int 0, .null]))] sz) := by
  refine Met.ofW (cc := cX2_init) (maxL := 1) (ret := none) (by decide) rfl ?_
  intro p e s m args below meth c s₁ B hml hv
  obtain ⟨rfl, hsz, hP, hK, hD0, hZ⟩ := hv
  have hx := B.exec
  have hb := B.bytes
  have hr := B.returns
  have hts0 := atoms_spec (ws := ct_ws yX2_init cX2_init 1) B.pre
  have hts : ∀ w ∈ bl_gt, w.before ([.ref h0] : List Value).toArray s = true := fun w hw => hts0 w (List.mem_cons_of_mem _ hw)
  have hown : s.vm.findClass RX2 = some m.cls := findClass_of_methodNamed B.named
  have hin : meth.name = "<init>" := (name_of_methodNamed B.named B.method).1
  subst hsz
  have hD := hD0.self (sz := s.heap.size)
  unfold ctPost
  generalize hAe : va_A [(h0, .inr (2, [.int 0, .int 0, .int 0, .int 0, .null]))] s.heap.size = A at hD ⊢
  have hA : ∀ q : Nat, s.heap.size ≤ q → A q := fun q h => by rw [← hAe]; exact Or.inr h
  have hS : va_S A s.heap s.heap [] := va_S.rf
  have hP : va_P D vwCl [(h0, .inr (2, [.int 0, .int 0, .int 0, .int 0, .null]))] s.heap := hP
  have hl := lv_entry ([.ref h0]) (n := 1) (Nat.le_of_ble_eq_true rfl)
  rw [lg_entry_eq]
  generalize (lg_sl ([.ref h0]) ++ List.replicate (1 - (lg_sl ([.ref h0])).length) Slot.unset).toArray = ls at hl ⊢
  have hl : lv_has ls 1 [(0, .ref h0)] := hl
  refine lv_aload_n hx hb dX2_init_0 rfl (lv_at hl 0 rfl) ?_
  refine W.objInit hx hb hown (hts _ cg_65) (hts _ cg_1) (hts _ cg_2) rfl (by rw [hml]; exact hl.1) rfl dX2_init_1 (Nat.le_of_ble_eq_true rfl) (Nat.le_of_ble_eq_true rfl) ?_
  refine W.eq (g2 := F0 m 4 ls []) rfl ?_
  refine lv_aload_n hx hb dX2_init_4 rfl (lv_at hl 0 rfl) ?_
  refine va_new (ci := 1) (fs := [.int 0, .int 0, .int 0, .int 0, .int 0, .int 0]) (C := RX1) (T := TX1) (N := 6) hx hb hts (bl_cls_ws 1 RX1 TX1 6 rfl) tyX1 tyX1_ok hown (hts _ cg_66) (hts _ cg_17) (hts _ cg_18) hK hP hD hS hA rfl (by decide +kernel) (Nat.le_of_ble_eq_true rfl) (Nat.le_of_ble_eq_true rfl) dX2_init_5 (fun q1 H hP hD hS => ?_)
  have hP : va_P D vwCl [(h0, .inr (2, [.int 0, .int 0, .int 0, .int 0, .null])), (q1, .inr (1, [.int 0, .int 0, .int 0, .int 0, .int 0, .int 0]))] H := hP
  have hD : va_D A [(h0, .inr (2, [.int 0, .int 0, .int 0, .int 0, .null])), (q1, .inr (1, [.int 0, .int 0, .int 0, .int 0, .int 0, .int 0]))] := hD
  refine W.widen (k := 1) (n := 6) (Nat.le_of_ble_eq_true rfl) (Nat.le_of_ble_eq_true rfl) ?_
  refine lv_dup hx hb dX2_init_8 rfl ?_
  have hPc := hP.sub (ws' := [(q1, .inr (1, [.int 0, .int 0, .int 0, .int 0, .int 0, .int 0]))]) [1] rfl
  have hDc := hD.sub (ws' := [(q1, .inr (1, [.int 0, .int 0, .int 0, .int 0, .int 0, .int 0]))]) [1] (by decide) rfl
  have hKc := hK.sub (tys' := []) [] rfl
  have hFc := va_free (wc := [(q1, .inr (1, [.int 0, .int 0, .int 0, .int 0, .int 0, .int 0]))]) hD hS hA [1] rfl
  refine va_callv (va_runIN (As := []) (rest := [.ref q1, .ref h0]) ⟨hx, hb, hml, hown, hts⟩ (k_X1 l D q1 H.size) ⟨va_cnB 0 hts (ct_good cg_19) rfl rfl rfl (hZ.1 _ (List.mem_of_getElem? (i := 9) rfl)) (hts _ cg_18) (by decide +kernel) ⟨Nat.le_of_ble_eq_true rfl, Nat.le_of_ble_eq_true rfl⟩, rfl, hts _ cg_20⟩ ⟨ct_blind, fun U hU hW => ⟨rfl, by rw [hU], by rw [hU]; exact hPc, va_K.moved hW.alike hKc, hDc.weaken (fun _ _ _ _ => trivial), hZ.warm hW⟩⟩ rfl rfl hl.1 rfl (lv_room (Nat.le_of_ble_eq_true rfl)) dX2_init_9 ⟨Nat.le_of_ble_eq_true rfl, Nat.le_of_ble_eq_true rfl⟩) hS (fun q _ h => hFc q h) hFc (fun u_q1 t H1 locs ht hvm hw hB hz1 hk1 hS => ?_)
  obtain ⟨hP1, hK1, hD1⟩ := hB
  rw [ht] at hP1
  have hK1 := va_K.moved hvm.symm hK1
  obtain ⟨hP, hD⟩ := va_join (wr := [(h0, .inr (2, [.int 0, .int 0, .int 0, .int 0, .null]))]) (w1 := (gX1 q1 u_q1)) hP hD [1] [0] rfl rfl (by decide +kernel) (by decide +kernel) hk1 hFc hP1 hD1
  have hK := (hK.sub (tys' := []) [] rfl).app hK1
  generalize H1 = H at hP hS ⊢
  have hP : va_P D vwCl [(h0, .inr (2, [.int 0, .int 0, .int 0, .int 0, .null])), (q1, .inr (1, [.int 0, .int 0, .int 0, .int 0, .int 0, .int 0]))] H := hP
  have hD : va_D A [(h0, .inr (2, [.int 0, .int 0, .int 0, .int 0, .null])), (q1, .inr (1, [.int 0, .int 0, .int 0, .int 0, .int 0, .int 0]))] := hD
  have hK : va_K D vwCl [] s := hK
  refine W.widen (k := 1) (n := 6) (Nat.le_of_ble_eq_true rfl) (Nat.le_of_ble_eq_true rfl) ?_
  refine va_putF (D := D) (ci := 2) (v := .ref q1) (ty := (.object "BerryLane$Bush")) (C := RX2) (T := TX2) (N := 5) hx hb hts (bl_cls_ws 2 RX2 TX2 5 rfl) tyX2 tyX2_ok nmX2 hown hK hP hD hS 0 rfl rfl 4 (by decide) (hts _ cg_67) (fun _ h9 => h9) rfl hin rfl (by decide +kernel) rfl rfl (Nat.le_of_ble_eq_true rfl) dX2_init_12 (fun H locs hP hD hS => ?_)
  have hP : va_P D vwCl [(h0, .inr (2, [.int 0, .int 0, .int 0, .int 0, .ref q1])), (q1, .inr (1, [.int 0, .int 0, .int 0, .int 0, .int 0, .int 0]))] H := hP
  have hD : va_D A [(h0, .inr (2, [.int 0, .int 0, .int 0, .int 0, .ref q1])), (q1, .inr (1, [.int 0, .int 0, .int 0, .int 0, .int 0, .int 0]))] := hD
  exact W.vret hx hb hr (fun t ht hW => ⟨⟨(fun i => [q1].getD i 0, fun _ => 0), rfl, trivial, by rw [ht]; exact hP, va_K.moved hW.alike hK, hD⟩, hS.F ht⟩) hS.2.2 dX2_init_15
abbrev SX8 : Type := (Nat → Nat) × (Nat → ClassId) × SX9 × SX9 × SX9
abbrev gX8 (h0 : Nat) (u : SX8) : va_W := (((([(h0, .inr (8, [.ref (u.1 0), .ref (u.1 1), .ref (u.1 2), .int 0, .ref (u.1 3), .ref (u.1 4), .ref (u.1 5), .ref (u.1 6)]))] ++ (gX9 (u.1 0) 8 (u.2.2.1))) ++ (gX9 (u.1 1) 8 (u.2.2.2.1))) ++ (gX9 (u.1 2) 20 (u.2.2.2.2))) ++ [((u.1 3), .inr (1, [.int 0, .int 0, .int 0, .int 0, .int 0, .int 0])), ((u.1 4), .inr (1, [.int 0, .int 0, .int 0, .int 0, .int 0, .int 0])), ((u.1 5), .inr (5, [.int 0, .int 0, .int 0, .int 0, .int 0, .int 0, .int 0, .int 0])), ((u.1 6), .inl ((u.2.1 0), 6, .inl (fun _ => 0)))])
abbrev tX8 (u : SX8) : List (ClassId × FieldType) := ((((tX9 (u.2.2.1)) ++ (tX9 (u.2.2.2.1))) ++ (tX9 (u.2.2.2.2))) ++ [((u.2.1 0), .int)])
set_option maxHeartbeats 8000000 in
set_option maxRecDepth 100000 in
theorem k_X8 (l : Launch) (D : va_G) (h0 sz : Nat) : Met l yX8_init (ct_ws yX8_init cX8_init 1) ({ frames := 2, cells := 19, slots := 284, locals := 35 }) (ctPre D [.ref h0] [(h0, .inr (8, [.null, .null, .null, .int 0, .null, .null, .null, .null]))] sz) (ctPost D [(h0, .inr (8, [.null, .null, .null, .int 0, .null, .null, .null, .null]))] sz (fun u : SX8 => gX8 h0 u) (fun u => tX8 u)) 19 284 (va_A [(h0, .inr (8, [.null, .null, .null, .int 0, .null, .null, .null, .null]))] sz) := by
  refine Met.ofW (cc := cX8_init) (maxL := 1) (ret := none) (by decide) rfl ?_
  intro p e s m args below meth c s₁ B hml hv
  obtain ⟨rfl, hsz, hP, hK, hD0, hZ⟩ := hv
  have hx := B.exec
  have hb := B.bytes
  have hr := B.returns
  have hts0 := atoms_spec (ws := ct_ws yX8_init cX8_init 1) B.pre
  have hts : ∀ w ∈ bl_gt, w.before ([.ref h0] : List Value).toArray s = true := fun w hw => hts0 w (List.mem_cons_of_mem _ hw)
  have hown : s.vm.findClass RX8 = some m.cls := findClass_of_methodNamed B.named
  have hin : meth.name = "<init>" := (name_of_methodNamed B.named B.method).1
  subst hsz
  have hD := hD0.self (sz := s.heap.size)
  unfold ctPost
  generalize hAe : va_A [(h0, .inr (8, [.null, .null, .null, .int 0, .null, .null, .null, .null]))] s.heap.size = A at hD ⊢
  have hA : ∀ q : Nat, s.heap.size ≤ q → A q := fun q h => by rw [← hAe]; exact Or.inr h
  have hS : va_S A s.heap s.heap [] := va_S.rf
  have hP : va_P D vwCl [(h0, .inr (8, [.null, .null, .null, .int 0, .null, .null, .null, .null]))] s.heap := hP
  have hl := lv_entry ([.ref h0]) (n := 1) (Nat.le_of_ble_eq_true rfl)
  rw [lg_entry_eq]
  generalize (lg_sl ([.ref h0]) ++ List.replicate (1 - (lg_sl ([.ref h0])).length) Slot.unset).toArray = ls at hl ⊢
  have hl : lv_has ls 1 [(0, .ref h0)] := hl
  refine lv_aload_n hx hb dX8_init_0 rfl (lv_at hl 0 rfl) ?_
  refine W.objInit hx hb hown (hts _ cg_68) (hts _ cg_1) (hts _ cg_2) rfl (by rw [hml]; exact hl.1) rfl dX8_init_1 (Nat.le_of_ble_eq_true rfl) (Nat.le_of_ble_eq_true rfl) ?_
  refine W.eq (g2 := F0 m 4 ls []) rfl ?_
  refine lv_aload_n hx hb dX8_init_4 rfl (lv_at hl 0 rfl) ?_
  refine va_new (ci := 9) (fs := [.null, .null, .null, .null, .int 0, .int 0]) (C := RX9) (T := TX9) (N := 6) hx hb hts (bl_cls_ws 9 RX9 TX9 6 rfl) tyX9 tyX9_ok hown (hts _ cg_69) (hts _ cg_70) (hts _ cg_71) hK hP hD hS hA rfl (by decide +kernel) (Nat.le_of_ble_eq_true rfl) (Nat.le_of_ble_eq_true rfl) dX8_init_5 (fun q1 H hP hD hS => ?_)
  have hP : va_P D vwCl [(h0, .inr (8, [.null, .null, .null, .int 0, .null, .null, .null, .null])), (q1, .inr (9, [.null, .null, .null, .null, .int 0, .int 0]))] H := hP
  have hD : va_D A [(h0, .inr (8, [.null, .null, .null, .int 0, .null, .null, .null, .null])), (q1, .inr (9, [.null, .null, .null, .null, .int 0, .int 0]))] := hD
  refine W.widen (k := 1) (n := 6) (Nat.le_of_ble_eq_true rfl) (Nat.le_of_ble_eq_true rfl) ?_
  refine lv_dup hx hb dX8_init_8 rfl ?_
  refine lv_bipush (v := 8) hx hb dX8_init_9 (by decide) ?_
  have hPc := hP.sub (ws' := [(q1, .inr (9, [.null, .null, .null, .null, .int 0, .int 0]))]) [1] rfl
  have hDc := hD.sub (ws' := [(q1, .inr (9, [.null, .null, .null, .null, .int 0, .int 0]))]) [1] (by decide) rfl
  have hKc := hK.sub (tys' := []) [] rfl
  have hFc := va_free (wc := [(q1, .inr (9, [.null, .null, .null, .null, .int 0, .int 0]))]) hD hS hA [1] rfl
  refine va_callv (va_runI (As := [.int 8]) (rest := [.ref q1, .ref h0]) ⟨hx, hb, hml, hown, hts⟩ (k_X9 l D q1 H.size 8) (cwI 1 hts (ct_good cg_72) rfl rfl rfl (hts _ cg_71) (hts _ cg_73) (hts _ cg_74) rfl (by decide +kernel) ⟨Nat.le_of_ble_eq_true rfl, Nat.le_of_ble_eq_true rfl⟩) ⟨ct_blind, fun U hU hW => ⟨rfl, by rw [hU], by rw [hU]; exact hPc, va_K.moved hW.alike hKc, hDc.weaken (fun _ _ _ _ => trivial), hZ.warm hW⟩⟩ rfl rfl hl.1 rfl (lv_room (Nat.le_of_ble_eq_true rfl)) dX8_init_11 ⟨Nat.le_of_ble_eq_true rfl, Nat.le_of_ble_eq_true rfl⟩) hS (fun q _ h => hFc q h) hFc (fun u_q1 t H1 locs ht hvm hw hB hz1 hk1 hS => ?_)
  obtain ⟨hP1, hK1, hD1⟩ := hB
  rw [ht] at hP1
  have hK1 := va_K.moved hvm.symm hK1
  obtain ⟨hP, hD⟩ := va_join (wr := [(h0, .inr (8, [.null, .null, .null, .int 0, .null, .null, .null, .null]))]) (w1 := (gX9 q1 8 u_q1)) hP hD [1] [0] rfl rfl (by decide +kernel) (by decide +kernel) hk1 hFc hP1 hD1
  have hK := (hK.sub (tys' := []) [] rfl).app hK1
  generalize H1 = H at hP hS ⊢
  have hP : va_P D vwCl ([(h0, .inr (8, [.null, .null, .null, .int 0, .null, .null, .null, .null]))] ++ (gX9 q1 8 u_q1)) H := hP
  have hD : va_D A ([(h0, .inr (8, [.null, .null, .null, .int 0, .null, .null, .null, .null]))] ++ (gX9 q1 8 u_q1)) := hD
  have hK : va_K D vwCl (tX9 u_q1) s := hK
  refine W.widen (k := 5) (n := 86) (Nat.le_of_ble_eq_true rfl) (Nat.le_of_ble_eq_true rfl) ?_
  refine va_putF (D := D) (ci := 8) (v := .ref q1) (ty := (.object "BerryLane$Sheet")) (C := RX8) (T := TX8) (N := 8) hx hb hts (bl_cls_ws 8 RX8 TX8 8 rfl) tyX8 tyX8_ok nmX8 hown hK hP hD hS 0 rfl rfl 0 (by decide) (hts _ cg_75) (fun _ h9 => h9) rfl hin rfl (by decide +kernel) rfl rfl (Nat.le_of_ble_eq_true rfl) dX8_init_14 (fun H locs hP hD hS => ?_)
  have hP : va_P D vwCl ([(h0, .inr (8, [.ref q1, .null, .null, .int 0, .null, .null, .null, .null]))] ++ (gX9 q1 8 u_q1)) H := hP
  have hD : va_D A ([(h0, .inr (8, [.ref q1, .null, .null, .int 0, .null, .null, .null, .null]))] ++ (gX9 q1 8 u_q1)) := hD
  refine lv_aload_n hx hb dX8_init_17 rfl (lv_at hl 0 rfl) ?_
  refine va_new (ci := 9) (fs := [.null, .null, .null, .null, .int 0, .int 0]) (C := RX9) (T := TX9) (N := 6) hx hb hts (bl_cls_ws 9 RX9 TX9 6 rfl) tyX9 tyX9_ok hown (hts _ cg_69) (hts _ cg_70) (hts _ cg_71) hK hP hD hS hA rfl (by decide +kernel) (Nat.le_of_ble_eq_true rfl) (Nat.le_of_ble_eq_true rfl) dX8_init_18 (fun q2 H hP hD hS => ?_)
  have hP : va_P D vwCl (([(h0, .inr (8, [.ref q1, .null, .null, .int 0, .null, .null, .null, .null]))] ++ (gX9 q1 8 u_q1)) ++ [(q2, .inr (9, [.null, .null, .null, .null, .int 0, .int 0]))]) H := hP
  have hD : va_D A (([(h0, .inr (8, [.ref q1, .null, .null, .int 0, .null, .null, .null, .null]))] ++ (gX9 q1 8 u_q1)) ++ [(q2, .inr (9, [.null, .null, .null, .null, .int 0, .int 0]))]) := hD
  refine W.widen (k := 6) (n := 92) (Nat.le_of_ble_eq_true rfl) (Nat.le_of_ble_eq_true rfl) ?_
  refine lv_dup hx hb dX8_init_21 rfl ?_
  refine lv_bipush (v := 8) hx hb dX8_init_22 (by decide) ?_
  have hPc := hP.sub (ws' := [(q2, .inr (9, [.null, .null, .null, .null, .int 0, .int 0]))]) [6] rfl
  have hDc := hD.sub (ws' := [(q2, .inr (9, [.null, .null, .null, .null, .int 0, .int 0]))]) [6] (by decide) rfl
  have hKc := hK.sub (tys' := []) [] rfl
  have hFc := va_free (wc := [(q2, .inr (9, [.null, .null, .null, .null, .int 0, .int 0]))]) hD hS hA [6] rfl
  refine va_callv (va_runI (As := [.int 8]) (rest := [.ref q2, .ref h0]) ⟨hx, hb, hml, hown, hts⟩ (k_X9 l D q2 H.size 8) (cwI 1 hts (ct_good cg_72) rfl rfl rfl (hts _ cg_71) (hts _ cg_73) (hts _ cg_74) rfl (by decide +kernel) ⟨Nat.le_of_ble_eq_true rfl, Nat.le_of_ble_eq_true rfl⟩) ⟨ct_blind, fun U hU hW => ⟨rfl, by rw [hU], by rw [hU]; exact hPc, va_K.moved hW.alike hKc, hDc.weaken (fun _ _ _ _ => trivial), hZ.warm hW⟩⟩ rfl rfl hl.1 rfl (lv_room (Nat.le_of_ble_eq_true rfl)) dX8_init_24 ⟨Nat.le_of_ble_eq_true rfl, Nat.le_of_ble_eq_true rfl⟩) hS (fun q _ h => hFc q h) hFc (fun u_q2 t H1 locs ht hvm hw hB hz1 hk1 hS => ?_)
  obtain ⟨hP1, hK1, hD1⟩ := hB
  rw [ht] at hP1
  have hK1 := va_K.moved hvm.symm hK1
  obtain ⟨hP, hD⟩ := va_join (wr := ([(h0, .inr (8, [.ref q1, .null, .null, .int 0, .null, .null, .null, .null]))] ++ (gX9 q1 8 u_q1))) (w1 := (gX9 q2 8 u_q2)) hP hD [6] [0, 1, 2, 3, 4, 5] rfl rfl (by decide +kernel) (by decide +kernel) hk1 hFc hP1 hD1
  have hK := (hK.sub (tys' := (tX9 u_q1)) [0, 1, 2, 3] rfl).app hK1
  generalize H1 = H at hP hS ⊢
  have hP : va_P D vwCl (([(h0, .inr (8, [.ref q1, .null, .null, .int 0, .null, .null, .null, .null]))] ++ (gX9 q1 8 u_q1)) ++ (gX9 q2 8 u_q2)) H := hP
  have hD : va_D A (([(h0, .inr (8, [.ref q1, .null, .null, .int 0, .null, .null, .null, .null]))] ++ (gX9 q1 8 u_q1)) ++ (gX9 q2 8 u_q2)) := hD
  have hK : va_K D vwCl ((tX9 u_q1) ++ (tX9 u_q2)) s := hK
  refine W.widen (k := 10) (n := 172) (Nat.le_of_ble_eq_true rfl) (Nat.le_of_ble_eq_true rfl) ?_
  refine va_putF (D := D) (ci := 8) (v := .ref q2) (ty := (.object "BerryLane$Sheet")) (C := RX8) (T := TX8) (N := 8) hx hb hts (bl_cls_ws 8 RX8 TX8 8 rfl) tyX8 tyX8_ok nmX8 hown hK hP hD hS 0 rfl rfl 1 (by decide) (hts _ cg_76) (fun _ h9 => h9) rfl hin rfl (by decide +kernel) rfl rfl (Nat.le_of_ble_eq_true rfl) dX8_init_27 (fun H locs hP hD hS => ?_)
  have hP : va_P D vwCl (([(h0, .inr (8, [.ref q1, .ref q2, .null, .int 0, .null, .null, .null, .null]))] ++ (gX9 q1 8 u_q1)) ++ (gX9 q2 8 u_q2)) H := hP
  have hD : va_D A (([(h0, .inr (8, [.ref q1, .ref q2, .null, .int 0, .null, .null, .null, .null]))] ++ (gX9 q1 8 u_q1)) ++ (gX9 q2 8 u_q2)) := hD
  refine lv_aload_n hx hb dX8_init_30 rfl (lv_at hl 0 rfl) ?_
  refine va_new (ci := 9) (fs := [.null, .null, .null, .null, .int 0, .int 0]) (C := RX9) (T := TX9) (N := 6) hx hb hts (bl_cls_ws 9 RX9 TX9 6 rfl) tyX9 tyX9_ok hown (hts _ cg_69) (hts _ cg_70) (hts _ cg_71) hK hP hD hS hA rfl (by decide +kernel) (Nat.le_of_ble_eq_true rfl) (Nat.le_of_ble_eq_true rfl) dX8_init_31 (fun q3 H hP hD hS => ?_)
  have hP : va_P D vwCl ((([(h0, .inr (8, [.ref q1, .ref q2, .null, .int 0, .null, .null, .null, .null]))] ++ (gX9 q1 8 u_q1)) ++ (gX9 q2 8 u_q2)) ++ [(q3, .inr (9, [.null, .null, .null, .null, .int 0, .int 0]))]) H := hP
  have hD : va_D A ((([(h0, .inr (8, [.ref q1, .ref q2, .null, .int 0, .null, .null, .null, .null]))] ++ (gX9 q1 8 u_q1)) ++ (gX9 q2 8 u_q2)) ++ [(q3, .inr (9, [.null, .null, .null, .null, .int 0, .int 0]))]) := hD
  refine W.widen (k := 11) (n := 178) (Nat.le_of_ble_eq_true rfl) (Nat.le_of_ble_eq_true rfl) ?_
  refine lv_dup hx hb dX8_init_34 rfl ?_
  refine lv_bipush (v := 20) hx hb dX8_init_35 (by decide) ?_
  have hPc := hP.sub (ws' := [(q3, .inr (9, [.null, .null, .null, .null, .int 0, .int 0]))]) [11] rfl
  have hDc := hD.sub (ws' := [(q3, .inr (9, [.null, .null, .null, .null, .int 0, .int 0]))]) [11] (by decide) rfl
  have hKc := hK.sub (tys' := []) [] rfl
  have hFc := va_free (wc := [(q3, .inr (9, [.null, .null, .null, .null, .int 0, .int 0]))]) hD hS hA [11] rfl
  refine va_callv (va_runI (As := [.int 20]) (rest := [.ref q3, .ref h0]) ⟨hx, hb, hml, hown, hts⟩ (k_X9 l D q3 H.size 20) (cwI 1 hts (ct_good cg_72) rfl rfl rfl (hts _ cg_71) (hts _ cg_73) (hts _ cg_74) rfl (by decide +kernel) ⟨Nat.le_of_ble_eq_true rfl, Nat.le_of_ble_eq_true rfl⟩) ⟨ct_blind, fun U hU hW => ⟨rfl, by rw [hU], by rw [hU]; exact hPc, va_K.moved hW.alike hKc, hDc.weaken (fun _ _ _ _ => trivial), hZ.warm hW⟩⟩ rfl rfl hl.1 rfl (lv_room (Nat.le_of_ble_eq_true rfl)) dX8_init_37 ⟨Nat.le_of_ble_eq_true rfl, Nat.le_of_ble_eq_true rfl⟩) hS (fun q _ h => hFc q h) hFc (fun u_q3 t H1 locs ht hvm hw hB hz1 hk1 hS => ?_)
  obtain ⟨hP1, hK1, hD1⟩ := hB
  rw [ht] at hP1
  have hK1 := va_K.moved hvm.symm hK1
  obtain ⟨hP, hD⟩ := va_join (wr := (([(h0, .inr (8, [.ref q1, .ref q2, .null, .int 0, .null, .null, .null, .null]))] ++ (gX9 q1 8 u_q1)) ++ (gX9 q2 8 u_q2))) (w1 := (gX9 q3 20 u_q3)) hP hD [11] [0, 1, 2, 3, 4, 5, 6, 7, 8, 9, 10] rfl rfl (by decide +kernel) (by decide +kernel) hk1 hFc hP1 hD1
  have hK := (hK.sub (tys' := ((tX9 u_q1) ++ (tX9 u_q2))) [0, 1, 2, 3, 4, 5, 6, 7] rfl).app hK1
  generalize H1 = H at hP hS ⊢
  have hP : va_P D vwCl ((([(h0, .inr (8, [.ref q1, .ref q2, .null, .int 0, .null, .null, .null, .null]))] ++ (gX9 q1 8 u_q1)) ++ (gX9 q2 8 u_q2)) ++ (gX9 q3 20 u_q3)) H := hP
  have hD : va_D A ((([(h0, .inr (8, [.ref q1, .ref q2, .null, .int 0, .null, .null, .null, .null]))] ++ (gX9 q1 8 u_q1)) ++ (gX9 q2 8 u_q2)) ++ (gX9 q3 20 u_q3)) := hD
  have hK : va_K D vwCl (((tX9 u_q1) ++ (tX9 u_q2)) ++ (tX9 u_q3)) s := hK
  refine W.widen (k := 15) (n := 258) (Nat.le_of_ble_eq_true rfl) (Nat.le_of_ble_eq_true rfl) ?_
  refine va_putF (D := D) (ci := 8) (v := .ref q3) (ty := (.object "BerryLane$Sheet")) (C := RX8) (T := TX8) (N := 8) hx hb hts (bl_cls_ws 8 RX8 TX8 8 rfl) tyX8 tyX8_ok nmX8 hown hK hP hD hS 0 rfl rfl 2 (by decide) (hts _ cg_77) (fun _ h9 => h9) rfl hin rfl (by decide +kernel) rfl rfl (Nat.le_of_ble_eq_true rfl) dX8_init_40 (fun H locs hP hD hS => ?_)
  have hP : va_P D vwCl ((([(h0, .inr (8, [.ref q1, .ref q2, .ref q3, .int 0, .null, .null, .null, .null]))] ++ (gX9 q1 8 u_q1)) ++ (gX9 q2 8 u_q2)) ++ (gX9 q3 20 u_q3)) H := hP
  have hD : va_D A ((([(h0, .inr (8, [.ref q1, .ref q2, .ref q3, .int 0, .null, .null, .null, .null]))] ++ (gX9 q1 8 u_q1)) ++ (gX9 q2 8 u_q2)) ++ (gX9 q3 20 u_q3)) := hD
  refine lv_aload_n hx hb dX8_init_43 rfl (lv_at hl 0 rfl) ?_
  refine va_new (ci := 1) (fs := [.int 0, .int 0, .int 0, .int 0, .int 0, .int 0]) (C := RX1) (T := TX1) (N := 6) hx hb hts (bl_cls_ws 1 RX1 TX1 6 rfl) tyX1 tyX1_ok hown (hts _ cg_78) (hts _ cg_17) (hts _ cg_18) hK hP hD hS hA rfl (by decide +kernel) (Nat.le_of_ble_eq_true rfl) (Nat.le_of_ble_eq_true rfl) dX8_init_44 (fun q4 H hP hD hS => ?_)
  have hP : va_P D vwCl (((([(h0, .inr (8, [.ref q1, .ref q2, .ref q3, .int 0, .null, .null, .null, .null]))] ++ (gX9 q1 8 u_q1)) ++ (gX9 q2 8 u_q2)) ++ (gX9 q3 20 u_q3)) ++ [(q4, .inr (1, [.int 0, .int 0, .int 0, .int 0, .int 0, .int 0]))]) H := hP
  have hD : va_D A (((([(h0, .inr (8, [.ref q1, .ref q2, .ref q3, .int 0, .null, .null, .null, .null]))] ++ (gX9 q1 8 u_q1)) ++ (gX9 q2 8 u_q2)) ++ (gX9 q3 20 u_q3)) ++ [(q4, .inr (1, [.int 0, .int 0, .int 0, .int 0, .int 0, .int 0]))]) := hD
  refine W.widen (k := 16) (n := 264) (Nat.le_of_ble_eq_true rfl) (Nat.le_of_ble_eq_true rfl) ?_
  refine lv_dup hx hb dX8_init_47 rfl ?_
  have hPc := hP.sub (ws' := [(q4, .inr (1, [.int 0, .int 0, .int 0, .int 0, .int 0, .int 0]))]) [16] rfl
  have hDc := hD.sub (ws' := [(q4, .inr (1, [.int 0, .int 0, .int 0, .int 0, .int 0, .int 0]))]) [16] (by decide) rfl
  have hKc := hK.sub (tys' := []) [] rfl
  have hFc := va_free (wc := [(q4, .inr (1, [.int 0, .int 0, .int 0, .int 0, .int 0, .int 0]))]) hD hS hA [16] rfl
  refine va_callv (va_runIN (As := []) (rest := [.ref q4, .ref h0]) ⟨hx, hb, hml, hown, hts⟩ (k_X1 l D q4 H.size) ⟨va_cnB 0 hts (ct_good cg_19) rfl rfl rfl (hZ.1 _ (List.mem_of_getElem? (i := 11) rfl)) (hts _ cg_18) (by decide +kernel) ⟨Nat.le_of_ble_eq_true rfl, Nat.le_of_ble_eq_true rfl⟩, rfl, hts _ cg_20⟩ ⟨ct_blind, fun U hU hW => ⟨rfl, by rw [hU], by rw [hU]; exact hPc, va_K.moved hW.alike hKc, hDc.weaken (fun _ _ _ _ => trivial), hZ.warm hW⟩⟩ rfl rfl hl.1 rfl (lv_room (Nat.le_of_ble_eq_true rfl)) dX8_init_48 ⟨Nat.le_of_ble_eq_true rfl, Nat.le_of_ble_eq_true rfl⟩) hS (fun q _ h => hFc q h) hFc (fun u_q4 t H1 locs ht hvm hw hB hz1 hk1 hS => ?_)
  obtain ⟨hP1, hK1, hD1⟩ := hB
  rw [ht] at hP1
  have hK1 := va_K.moved hvm.symm hK1
  obtain ⟨hP, hD⟩ := va_join (wr := ((([(h0, .inr (8, [.ref q1, .ref q2, .ref q3, .int 0, .null, .null, .null, .null]))] ++ (gX9 q1 8 u_q1)) ++ (gX9 q2 8 u_q2)) ++ (gX9 q3 20 u_q3))) (w1 := (gX1 q4 u_q4)) hP hD [16] [0, 1, 2, 3, 4, 5, 6, 7, 8, 9, 10, 11, 12, 13, 14, 15] rfl rfl (by decide +kernel) (by decide +kernel) hk1 hFc hP1 hD1
  have hK := (hK.sub (tys' := (((tX9 u_q1) ++ (tX9 u_q2)) ++ (tX9 u_q3))) [0, 1, 2, 3, 4, 5, 6, 7, 8, 9, 10, 11] rfl).app hK1
  generalize H1 = H at hP hS ⊢
  have hP : va_P D vwCl (((([(h0, .inr (8, [.ref q1, .ref q2, .ref q3, .int 0, .null, .null, .null, .null]))] ++ (gX9 q1 8 u_q1)) ++ (gX9 q2 8 u_q2)) ++ (gX9 q3 20 u_q3)) ++ [(q4, .inr (1, [.int 0, .int 0, .int 0, .int 0, .int 0, .int 0]))]) H := hP
  have hD : va_D A (((([(h0, .inr (8, [.ref q1, .ref q2, .ref q3, .int 0, .null, .null, .null, .null]))] ++ (gX9 q1 8 u_q1)) ++ (gX9 q2 8 u_q2)) ++ (gX9 q3 20 u_q3)) ++ [(q4, .inr (1, [.int 0, .int 0, .int 0, .int 0, .int 0, .int 0]))]) := hD
  have hK : va_K D vwCl (((tX9 u_q1) ++ (tX9 u_q2)) ++ (tX9 u_q3)) s := hK
  refine W.widen (k := 16) (n := 264) (Nat.le_of_ble_eq_true rfl) (Nat.le_of_ble_eq_true rfl) ?_
  refine va_putF (D := D) (ci := 8) (v := .ref q4) (ty := (.object "BerryLane$Bush")) (C := RX8) (T := TX8) (N := 8) hx hb hts (bl_cls_ws 8 RX8 TX8 8 rfl) tyX8 tyX8_ok nmX8 hown hK hP hD hS 0 rfl rfl 4 (by decide) (hts _ cg_79) (fun _ h9 => h9) rfl hin rfl (by decide +kernel) rfl rfl (Nat.le_of_ble_eq_true rfl) dX8_init_51 (fun H locs hP hD hS => ?_)
  have hP : va_P D vwCl (((([(h0, .inr (8, [.ref q1, .ref q2, .ref q3, .int 0, .ref q4, .null, .null, .null]))] ++ (gX9 q1 8 u_q1)) ++ (gX9 q2 8 u_q2)) ++ (gX9 q3 20 u_q3)) ++ [(q4, .inr (1, [.int 0, .int 0, .int 0, .int 0, .int 0, .int 0]))]) H := hP
  have hD : va_D A (((([(h0, .inr (8, [.ref q1, .ref q2, .ref q3, .int 0, .ref q4, .null, .null, .null]))] ++ (gX9 q1 8 u_q1)) ++ (gX9 q2 8 u_q2)) ++ (gX9 q3 20 u_q3)) ++ [(q4, .inr (1, [.int 0, .int 0, .int 0, .int 0, .int 0, .int 0]))]) := hD
  refine lv_aload_n hx hb dX8_init_54 rfl (lv_at hl 0 rfl) ?_
  refine va_new (ci := 1) (fs := [.int 0, .int 0, .int 0, .int 0, .int 0, .int 0]) (C := RX1) (T := TX1) (N := 6) hx hb hts (bl_cls_ws 1 RX1 TX1 6 rfl) tyX1 tyX1_ok hown (hts _ cg_78) (hts _ cg_17) (hts _ cg_18) hK hP hD hS hA rfl (by decide +kernel) (Nat.le_of_ble_eq_true rfl) (Nat.le_of_ble_eq_true rfl) dX8_init_55 (fun q5 H hP hD hS => ?_)
  have hP : va_P D vwCl (((([(h0, .inr (8, [.ref q1, .ref q2, .ref q3, .int 0, .ref q4, .null, .null, .null]))] ++ (gX9 q1 8 u_q1)) ++ (gX9 q2 8 u_q2)) ++ (gX9 q3 20 u_q3)) ++ [(q4, .inr (1, [.int 0, .int 0, .int 0, .int 0, .int 0, .int 0])), (q5, .inr (1, [.int 0, .int 0, .int 0, .int 0, .int 0, .int 0]))]) H := hP
  have hD : va_D A (((([(h0, .inr (8, [.ref q1, .ref q2, .ref q3, .int 0, .ref q4, .null, .null, .null]))] ++ (gX9 q1 8 u_q1)) ++ (gX9 q2 8 u_q2)) ++ (gX9 q3 20 u_q3)) ++ [(q4, .inr (1, [.int 0, .int 0, .int 0, .int 0, .int 0, .int 0])), (q5, .inr (1, [.int 0, .int 0, .int 0, .int 0, .int 0, .int 0]))]) := hD
  refine W.widen (k := 17) (n := 270) (Nat.le_of_ble_eq_true rfl) (Nat.le_of_ble_eq_true rfl) ?_
  refine lv_dup hx hb dX8_init_58 rfl ?_
  have hPc := hP.sub (ws' := [(q5, .inr (1, [.int 0, .int 0, .int 0, .int 0, .int 0, .int 0]))]) [17] rfl
  have hDc := hD.sub (ws' := [(q5, .inr (1, [.int 0, .int 0, .int 0, .int 0, .int 0, .int 0]))]) [17] (by decide) rfl
  have hKc := hK.sub (tys' := []) [] rfl
  have hFc := va_free (wc := [(q5, .inr (1, [.int 0, .int 0, .int 0, .int 0, .int 0, .int 0]))]) hD hS hA [17] rfl
  refine va_callv (va_runIN (As := []) (rest := [.ref q5, .ref h0]) ⟨hx, hb, hml, hown, hts⟩ (k_X1 l D q5 H.size) ⟨va_cnB 0 hts (ct_good cg_19) rfl rfl rfl (hZ.1 _ (List.mem_of_getElem? (i := 11) rfl)) (hts _ cg_18) (by decide +kernel) ⟨Nat.le_of_ble_eq_true rfl, Nat.le_of_ble_eq_true rfl⟩, rfl, hts _ cg_20⟩ ⟨ct_blind, fun U hU hW => ⟨rfl, by rw [hU], by rw [hU]; exact hPc, va_K.moved hW.alike hKc, hDc.weaken (fun _ _ _ _ => trivial), hZ.warm hW⟩⟩ rfl rfl hl.1 rfl (lv_room (Nat.le_of_ble_eq_true rfl)) dX8_init_59 ⟨Nat.le_of_ble_eq_true rfl, Nat.le_of_ble_eq_true rfl⟩) hS (fun q _ h => hFc q h) hFc (fun u_q5 t H1 locs ht hvm hw hB hz1 hk1 hS => ?_)
  obtain ⟨hP1, hK1, hD1⟩ := hB
  rw [ht] at hP1
  have hK1 := va_K.moved hvm.symm hK1
  obtain ⟨hP, hD⟩ := va_join (wr := (((([(h0, .inr (8, [.ref q1, .ref q2, .ref q3, .int 0, .ref q4, .null, .null, .null]))] ++ (gX9 q1 8 u_q1)) ++ (gX9 q2 8 u_q2)) ++ (gX9 q3 20 u_q3)) ++ [(q4, .inr (1, [.int 0, .int 0, .int 0, .int 0, .int 0, .int 0]))])) (w1 := (gX1 q5 u_q5)) hP hD [17] [0, 1, 2, 3, 4, 5, 6, 7, 8, 9, 10, 11, 12, 13, 14, 15, 16] rfl rfl (by decide +kernel) (by decide +kernel) hk1 hFc hP1 hD1
  have hK := (hK.sub (tys' := (((tX9 u_q1) ++ (tX9 u_q2)) ++ (tX9 u_q3))) [0, 1, 2, 3, 4, 5, 6, 7, 8, 9, 10, 11] rfl).app hK1
  generalize H1 = H at hP hS ⊢
  have hP : va_P D vwCl (((([(h0, .inr (8, [.ref q1, .ref q2, .ref q3, .int 0, .ref q4, .null, .null, .null]))] ++ (gX9 q1 8 u_q1)) ++ (gX9 q2 8 u_q2)) ++ (gX9 q3 20 u_q3)) ++ [(q4, .inr (1, [.int 0, .int 0, .int 0, .int 0, .int 0, .int 0])), (q5, .inr (1, [.int 0, .int 0, .int 0, .int 0, .int 0, .int 0]))]) H := hP
  have hD : va_D A (((([(h0, .inr (8, [.ref q1, .ref q2, .ref q3, .int 0, .ref q4, .null, .null, .null]))] ++ (gX9 q1 8 u_q1)) ++ (gX9 q2 8 u_q2)) ++ (gX9 q3 20 u_q3)) ++ [(q4, .inr (1, [.int 0, .int 0, .int 0, .int 0, .int 0, .int 0])), (q5, .inr (1, [.int 0, .int 0, .int 0, .int 0, .int 0, .int 0]))]) := hD
  have hK : va_K D vwCl (((tX9 u_q1) ++ (tX9 u_q2)) ++ (tX9 u_q3)) s := hK
  refine W.widen (k := 17) (n := 270) (Nat.le_of_ble_eq_true rfl) (Nat.le_of_ble_eq_true rfl) ?_
  refine va_putF (D := D) (ci := 8) (v := .ref q5) (ty := (.object "BerryLane$Bush")) (C := RX8) (T := TX8) (N := 8) hx hb hts (bl_cls_ws 8 RX8 TX8 8 rfl) tyX8 tyX8_ok nmX8 hown hK hP hD hS 0 rfl rfl 5 (by decide) (hts _ cg_80) (fun _ h9 => h9) rfl hin rfl (by decide +kernel) rfl rfl (Nat.le_of_ble_eq_true rfl) dX8_init_62 (fun H locs hP hD hS => ?_)
  have hP : va_P D vwCl (((([(h0, .inr (8, [.ref q1, .ref q2, .ref q3, .int 0, .ref q4, .ref q5, .null, .null]))] ++ (gX9 q1 8 u_q1)) ++ (gX9 q2 8 u_q2)) ++ (gX9 q3 20 u_q3)) ++ [(q4, .inr (1, [.int 0, .int 0, .int 0, .int 0, .int 0, .int 0])), (q5, .inr (1, [.int 0, .int 0, .int 0, .int 0, .int 0, .int 0]))]) H := hP
  have hD : va_D A (((([(h0, .inr (8, [.ref q1, .ref q2, .ref q3, .int 0, .ref q4, .ref q5, .null, .null]))] ++ (gX9 q1 8 u_q1)) ++ (gX9 q2 8 u_q2)) ++ (gX9 q3 20 u_q3)) ++ [(q4, .inr (1, [.int 0, .int 0, .int 0, .int 0, .int 0, .int 0])), (q5, .inr (1, [.int 0, .int 0, .int 0, .int 0, .int 0, .int 0]))]) := hD
  refine lv_aload_n hx hb dX8_init_65 rfl (lv_at hl 0 rfl) ?_
  refine va_new (ci := 5) (fs := [.int 0, .int 0, .int 0, .int 0, .int 0, .int 0, .int 0, .int 0]) (C := RX5) (T := TX5) (N := 8) hx hb hts (bl_cls_ws 5 RX5 TX5 8 rfl) tyX5 tyX5_ok hown (hts _ cg_81) (hts _ cg_21) (hts _ cg_22) hK hP hD hS hA rfl (by decide +kernel) (Nat.le_of_ble_eq_true rfl) (Nat.le_of_ble_eq_true rfl) dX8_init_66 (fun q6 H hP hD hS => ?_)
  have hP : va_P D vwCl (((([(h0, .inr (8, [.ref q1, .ref q2, .ref q3, .int 0, .ref q4, .ref q5, .null, .null]))] ++ (gX9 q1 8 u_q1)) ++ (gX9 q2 8 u_q2)) ++ (gX9 q3 20 u_q3)) ++ [(q4, .inr (1, [.int 0, .int 0, .int 0, .int 0, .int 0, .int 0])), (q5, .inr (1, [.int 0, .int 0, .int 0, .int 0, .int 0, .int 0])), (q6, .inr (5, [.int 0, .int 0, .int 0, .int 0, .int 0, .int 0, .int 0, .int 0]))]) H := hP
  have hD : va_D A (((([(h0, .inr (8, [.ref q1, .ref q2, .ref q3, .int 0, .ref q4, .ref q5, .null, .null]))] ++ (gX9 q1 8 u_q1)) ++ (gX9 q2 8 u_q2)) ++ (gX9 q3 20 u_q3)) ++ [(q4, .inr (1, [.int 0, .int 0, .int 0, .int 0, .int 0, .int 0])), (q5, .inr (1, [.int 0, .int 0, .int 0, .int 0, .int 0, .int 0])), (q6, .inr (5, [.int 0, .int 0, .int 0, .int 0, .int 0, .int 0, .int 0, .int 0]))]) := hD
  refine W.widen (k := 18) (n := 278) (Nat.le_of_ble_eq_true rfl) (Nat.le_of_ble_eq_true rfl) ?_
  refine lv_dup hx hb dX8_init_69 rfl ?_
  have hPc := hP.sub (ws' := [(q6, .inr (5, [.int 0, .int 0, .int 0, .int 0, .int 0, .int 0, .int 0, .int 0]))]) [18] rfl
  have hDc := hD.sub (ws' := [(q6, .inr (5, [.int 0, .int 0, .int 0, .int 0, .int 0, .int 0, .int 0, .int 0]))]) [18] (by decide) rfl
  have hKc := hK.sub (tys' := []) [] rfl
  have hFc := va_free (wc := [(q6, .inr (5, [.int 0, .int 0, .int 0, .int 0, .int 0, .int 0, .int 0, .int 0]))]) hD hS hA [18] rfl
  refine va_callv (va_runIN (As := []) (rest := [.ref q6, .ref h0]) ⟨hx, hb, hml, hown, hts⟩ (k_X5 l D q6 H.size) ⟨va_cnB 0 hts (ct_good cg_23) rfl rfl rfl (hZ.1 _ (List.mem_of_getElem? (i := 12) rfl)) (hts _ cg_22) (by decide +kernel) ⟨Nat.le_of_ble_eq_true rfl, Nat.le_of_ble_eq_true rfl⟩, rfl, hts _ cg_24⟩ ⟨ct_blind, fun U hU hW => ⟨rfl, by rw [hU], by rw [hU]; exact hPc, va_K.moved hW.alike hKc, hDc.weaken (fun _ _ _ _ => trivial), hZ.warm hW⟩⟩ rfl rfl hl.1 rfl (lv_room (Nat.le_of_ble_eq_true rfl)) dX8_init_70 ⟨Nat.le_of_ble_eq_true rfl, Nat.le_of_ble_eq_true rfl⟩) hS (fun q _ h => hFc q h) hFc (fun u_q6 t H1 locs ht hvm hw hB hz1 hk1 hS => ?_)
  obtain ⟨hP1, hK1, hD1⟩ := hB
  rw [ht] at hP1
  have hK1 := va_K.moved hvm.symm hK1
  obtain ⟨hP, hD⟩ := va_join (wr := (((([(h0, .inr (8, [.ref q1, .ref q2, .ref q3, .int 0, .ref q4, .ref q5, .null, .null]))] ++ (gX9 q1 8 u_q1)) ++ (gX9 q2 8 u_q2)) ++ (gX9 q3 20 u_q3)) ++ [(q4, .inr (1, [.int 0, .int 0, .int 0, .int 0, .int 0, .int 0])), (q5, .inr (1, [.int 0, .int 0, .int 0, .int 0, .int 0, .int 0]))])) (w1 := (gX5 q6 u_q6)) hP hD [18] [0, 1, 2, 3, 4, 5, 6, 7, 8, 9, 10, 11, 12, 13, 14, 15, 16, 17] rfl rfl (by decide +kernel) (by decide +kernel) hk1 hFc hP1 hD1
  have hK := (hK.sub (tys' := (((tX9 u_q1) ++ (tX9 u_q2)) ++ (tX9 u_q3))) [0, 1, 2, 3, 4, 5, 6, 7, 8, 9, 10, 11] rfl).app hK1
  generalize H1 = H at hP hS ⊢
  have hP : va_P D vwCl (((([(h0, .inr (8, [.ref q1, .ref q2, .ref q3, .int 0, .ref q4, .ref q5, .null, .null]))] ++ (gX9 q1 8 u_q1)) ++ (gX9 q2 8 u_q2)) ++ (gX9 q3 20 u_q3)) ++ [(q4, .inr (1, [.int 0, .int 0, .int 0, .int 0, .int 0, .int 0])), (q5, .inr (1, [.int 0, .int 0, .int 0, .int 0, .int 0, .int 0])), (q6, .inr (5, [.int 0, .int 0, .int 0, .int 0, .int 0, .int 0, .int 0, .int 0]))]) H := hP
  have hD : va_D A (((([(h0, .inr (8, [.ref q1, .ref q2, .ref q3, .int 0, .ref q4, .ref q5, .null, .null]))] ++ (gX9 q1 8 u_q1)) ++ (gX9 q2 8 u_q2)) ++ (gX9 q3 20 u_q3)) ++ [(q4, .inr (1, [.int 0, .int 0, .int 0, .int 0, .int 0, .int 0])), (q5, .inr (1, [.int 0, .int 0, .int 0, .int 0, .int 0, .int 0])), (q6, .inr (5, [.int 0, .int 0, .int 0, .int 0, .int 0, .int 0, .int 0, .int 0]))]) := hD
  have hK : va_K D vwCl (((tX9 u_q1) ++ (tX9 u_q2)) ++ (tX9 u_q3)) s := hK
  refine W.widen (k := 18) (n := 278) (Nat.le_of_ble_eq_true rfl) (Nat.le_of_ble_eq_true rfl) ?_
  refine va_putF (D := D) (ci := 8) (v := .ref q6) (ty := (.object "BerryLane$Picker")) (C := RX8) (T := TX8) (N := 8) hx hb hts (bl_cls_ws 8 RX8 TX8 8 rfl) tyX8 tyX8_ok nmX8 hown hK hP hD hS 0 rfl rfl 6 (by decide) (hts _ cg_82) (fun _ h9 => h9) rfl hin rfl (by decide +kernel) rfl rfl (Nat.le_of_ble_eq_true rfl) dX8_init_73 (fun H locs hP hD hS => ?_)
  have hP : va_P D vwCl (((([(h0, .inr (8, [.ref q1, .ref q2, .ref q3, .int 0, .ref q4, .ref q5, .ref q6, .null]))] ++ (gX9 q1 8 u_q1)) ++ (gX9 q2 8 u_q2)) ++ (gX9 q3 20 u_q3)) ++ [(q4, .inr (1, [.int 0, .int 0, .int 0, .int 0, .int 0, .int 0])), (q5, .inr (1, [.int 0, .int 0, .int 0, .int 0, .int 0, .int 0])), (q6, .inr (5, [.int 0, .int 0, .int 0, .int 0, .int 0, .int 0, .int 0, .int 0]))]) H := hP
  have hD : va_D A (((([(h0, .inr (8, [.ref q1, .ref q2, .ref q3, .int 0, .ref q4, .ref q5, .ref q6, .null]))] ++ (gX9 q1 8 u_q1)) ++ (gX9 q2 8 u_q2)) ++ (gX9 q3 20 u_q3)) ++ [(q4, .inr (1, [.int 0, .int 0, .int 0, .int 0, .int 0, .int 0])), (q5, .inr (1, [.int 0, .int 0, .int 0, .int 0, .int 0, .int 0])), (q6, .inr (5, [.int 0, .int 0, .int 0, .int 0, .int 0, .int 0, .int 0, .int 0]))]) := hD
  refine lv_aload_n hx hb dX8_init_76 rfl (lv_at hl 0 rfl) ?_
  refine lv_bipush (v := 6) hx hb dX8_init_77 (by decide) ?_
  refine va_newa (atype := .int) (ty := .int) (a0 := (6, .inl (fun _ => 0))) (N' := 6) hx hb (hts _ cg_26) rfl hK hP hD hS hA (fun _ => rfl) (by decide) (by decide) (by decide) (Nat.le_of_ble_eq_true rfl) (Nat.le_of_ble_eq_true rfl) dX8_init_79 (fun q7 c7 H hK hP hD hS => ?_)
  have hP : va_P D vwCl (((([(h0, .inr (8, [.ref q1, .ref q2, .ref q3, .int 0, .ref q4, .ref q5, .ref q6, .null]))] ++ (gX9 q1 8 u_q1)) ++ (gX9 q2 8 u_q2)) ++ (gX9 q3 20 u_q3)) ++ [(q4, .inr (1, [.int 0, .int 0, .int 0, .int 0, .int 0, .int 0])), (q5, .inr (1, [.int 0, .int 0, .int 0, .int 0, .int 0, .int 0])), (q6, .inr (5, [.int 0, .int 0, .int 0, .int 0, .int 0, .int 0, .int 0, .int 0])), (q7, .inl (c7, 6, .inl (fun _ => 0)))]) H := hP
  have hD : va_D A (((([(h0, .inr (8, [.ref q1, .ref q2, .ref q3, .int 0, .ref q4, .ref q5, .ref q6, .null]))] ++ (gX9 q1 8 u_q1)) ++ (gX9 q2 8 u_q2)) ++ (gX9 q3 20 u_q3)) ++ [(q4, .inr (1, [.int 0, .int 0, .int 0, .int 0, .int 0, .int 0])), (q5, .inr (1, [.int 0, .int 0, .int 0, .int 0, .int 0, .int 0])), (q6, .inr (5, [.int 0, .int 0, .int 0, .int 0, .int 0, .int 0, .int 0, .int 0])), (q7, .inl (c7, 6, .inl (fun _ => 0)))]) := hD
  have hK : va_K D vwCl ((((tX9 u_q1) ++ (tX9 u_q2)) ++ (tX9 u_q3)) ++ [(c7, .int)]) s := hK
  refine W.widen (k := 19) (n := 284) (Nat.le_of_ble_eq_true rfl) (Nat.le_of_ble_eq_true rfl) ?_
  refine va_putF (D := D) (ci := 8) (v := .ref q7) (ty := (.array .int)) (C := RX8) (T := TX8) (N := 8) hx hb hts (bl_cls_ws 8 RX8 TX8 8 rfl) tyX8 tyX8_ok nmX8 hown hK hP hD hS 0 rfl rfl 7 (by decide) (hts _ cg_83) (fun _ h9 => h9) rfl hin rfl (by decide +kernel) rfl rfl (Nat.le_of_ble_eq_true rfl) dX8_init_81 (fun H locs hP hD hS => ?_)
  have hP : va_P D vwCl (((([(h0, .inr (8, [.ref q1, .ref q2, .ref q3, .int 0, .ref q4, .ref q5, .ref q6, .ref q7]))] ++ (gX9 q1 8 u_q1)) ++ (gX9 q2 8 u_q2)) ++ (gX9 q3 20 u_q3)) ++ [(q4, .inr (1, [.int 0, .int 0, .int 0, .int 0, .int 0, .int 0])), (q5, .inr (1, [.int 0, .int 0, .int 0, .int 0, .int 0, .int 0])), (q6, .inr (5, [.int 0, .int 0, .int 0, .int 0, .int 0, .int 0, .int 0, .int 0])), (q7, .inl (c7, 6, .inl (fun _ => 0)))]) H := hP
  have hD : va_D A (((([(h0, .inr (8, [.ref q1, .ref q2, .ref q3, .int 0, .ref q4, .ref q5, .ref q6, .ref q7]))] ++ (gX9 q1 8 u_q1)) ++ (gX9 q2 8 u_q2)) ++ (gX9 q3 20 u_q3)) ++ [(q4, .inr (1, [.int 0, .int 0, .int 0, .int 0, .int 0, .int 0])), (q5, .inr (1, [.int 0, .int 0, .int 0, .int 0, .int 0, .int 0])), (q6, .inr (5, [.int 0, .int 0, .int 0, .int 0, .int 0, .int 0, .int 0, .int 0])), (q7, .inl (c7, 6, .inl (fun _ => 0)))]) := hD
  exact W.vret hx hb hr (fun t ht hW => ⟨⟨(fun i => [q1, q2, q3, q4, q5, q6, q7].getD i 0, fun i => [c7].getD i c7, u_q1, u_q2, u_q3), rfl, trivial, by rw [ht]; exact hP, va_K.moved hW.alike hK, hD⟩, hS.F ht⟩) hS.2.2 dX8_init_84
