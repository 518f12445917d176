section BLC
variable {p : Program} {l : Launch} {e : Env} {R : Room} {s : State} {m : MethodId} {args : Array Value} {below : List Frame} {meth : Method} {c : Code} {cells slots : Nat} {Qf : State → Prop} {D : va_G} {α : Nat → Nat} {cA : Nat → ClassId} {A : Nat → Prop}
theorem bl_callW {H : Heap} {locs : List Loc} {ls : Array Slot} {pc : Nat} {st0 rest : List Value} {a : Array Value} {r : Option Value} {σ' : bl_S} (hr : va_Run p l e R s m args below meth c H locs cells slots 0 0 (F0 m pc ls st0) rest (bl_Qc D α cA r σ' a) (bl_A α)) (hS : va_S A s.heap H locs) (hA : ∀ q, bl_A α q → A q)
    (kk : ∀ (H1 : Heap) (locs1 : List Loc), va_P D vwCl (bl_ws α cA σ') H1 → va_S A s.heap H1 locs1 → W p l e R s m args below meth c H1 locs1 cells slots Qf (F0 m (pc + 3) ls ((r.map (bl_cv α)).toList ++ rest))) : W p l e R s m args below meth c H locs cells slots Qf (F0 m pc ls st0) := by
  intro T hT X
  obtain ⟨v, st₀, t, T', L, h0, X', hL, e1, e2, ⟨⟨hv, hb⟩, hz, hk⟩, st⟩ := hr T hT X
  cases hv
  rw [h0] at hz hk
  obtain ⟨t2, a1, b1⟩ := kk T'.heap (locs ++ L) (by rw [e1]; exact hb)
    ⟨Nat.le_trans hS.1 (by rw [e1]; exact hz), fun q h1 h2 => by rw [e1, hk q (Nat.lt_of_lt_of_le h1 hS.1) (fun z => h2 (hA q z))]; exact hS.2.1 q h1 h2, fun q hq => by
      rcases List.mem_append.mp hq with h | h
      · exact hS.2.2 q h
      · exact hA _ (hL q h)⟩ T' rfl X'
  exact ⟨t2, st t2 a1, b1⟩
theorem bl_blind {as : List Value} {σ : bl_S} : FrameBlind (va_Pc (as.map (bl_cv α)) (bl_Wd D α cA σ)) := by
  intro a U g mk h
  obtain ⟨h1, hP, hK, hi, hR⟩ := h
  exact ⟨h1, hP, va_K.moved (u := U) (U := U.calling g mk a) (Vm.Alike.refl U.vm) hK, hi, hR.calling⟩
theorem bl_split {st : List Value} {a : Nat} (h : a ≤ st.length) : st.map (bl_cv α) = ((bl_ar st a).map (bl_cv α)).reverse ++ (bl_dr st a).map (bl_cv α) := by
  unfold bl_ar bl_dr
  rw [← List.map_reverse, List.reverse_reverse, ← List.map_append, List.take_append_drop]
theorem bl_good {Y : bl_MI} (hY : Y ∈ bl_all) : GoodIn bl_gt (bl_wz Y) := fun w h => by
  rcases List.mem_cons.mp h with h | h
  · rw [h]; exact bl_gt_good _ (bl_code_ok Y hY)
  · exact bl_gt_good w h
theorem bl_world {M : bl_MI} (C : bl_CX M D α cA A p R s m args meth c cells slots) {H : Heap} {locs : List Loc} {σ : bl_S} (hP : va_P D vwCl (bl_ws α cA σ) H) (hS : va_S A s.heap H locs) (U : State) (hU : U.heap = H) (hW : s.WarmedH U.vm) : bl_Wd D α cA σ U := by
  obtain ⟨-, -, -, -, -, -, -, hK, hi, hA, hR, -⟩ := C
  have hAA : ∀ q, bl_A α q → A q := fun q hq => by
    obtain ⟨k, h1, rfl⟩ := hq
    exact hA k h1
  exact ⟨by rw [hU]; exact hP, va_K.moved hW.alike hK, hi, by rw [hU]; exact hR.at hS hAA hW⟩
theorem bl_AA {M : bl_MI} (C : bl_CX M D α cA A p R s m args meth c cells slots) : ∀ q, bl_A α q → A q := fun q hq => by
  obtain ⟨-, -, -, -, -, -, -, -, -, hA, -⟩ := C
  obtain ⟨k, h1, rfl⟩ := hq
  exact hA k h1
theorem bl_w8_le {st : List Value} (h : bl_w8 st = true) : (((st.map (bl_cv α))).map fun v => v.category).sum ≤ 8 := by
  have h1 := bl_ble h
  rw [List.map_map]
  rw [show ((fun v : Value => v.category) ∘ bl_cv α) = fun v : Value => v.category from funext fun v => bl_cv_cat α v]
  exact h1
/-- a call of a method of ours on an object -/
theorem bl_invV {M Y : bl_MI} {pc idx a b : Nat} {st : List Value} {ls : Array Slot} {H : Heap} {locs : List Loc} {σ σ' : bl_S} {r : Option Value} (C : bl_CX M D α cA A p R s m args meth c cells slots) (hP : va_P D vwCl (bl_ws α cA σ) H) (hS : va_S A s.heap H locs) (hsz : ls.size = M.2.2.1)
    (hY : Y ∈ bl_all) (hlk : ∀ w ∈ M.2.2.2.2.2.2, w ∈ bl_gt) (hdg : decode M.2.1 pc = .ok (.invokevirtual idx, 3)) (ha : 0 < a) (hcs : bl_cs st a = true) (hrc : bl_rcv (bl_ar st a) b)
    (h1 : Cond.methodLink M.1.cls idx Y.1 ∈ M.2.2.2.2.2.2) (h2 : Cond.instanceMethod Y.1 ∈ M.2.2.2.2.2.2) (h3 : Cond.selects Y.1.cls Y.1 Y.1 ∈ M.2.2.2.2.2.2) (h4 : Cond.initialized Y.1.cls ∈ M.2.2.2.2.2.2) (h5 : Y.1.cls ≠ "java/lang/invoke/MethodHandle" ∧ Y.1.cls ≠ "java/lang/invoke/VarHandle") (h6 : (parseMethodDescriptor Y.1.desc).map (fun d => d.parameters.length) = some (a - 1)) (h7 : Y.2.2.2.2.1 + 1 ≤ M.2.2.2.2.1) (h8 : 8 + (Y.2.2.1 + 11) + Y.2.2.2.2.2.1 ≤ M.2.2.2.2.2.1) (h9 : (vwCl[b]?).map (fun q => q.1) = some Y.1.cls) (h10 : b < 20)
    (hcon : bl_Con Y (bl_ar st a) σ r σ') (kk : ∀ (H1 : Heap) (locs1 : List Loc), va_P D vwCl (bl_ws α cA σ') H1 → va_S A s.heap H1 locs1 → W p l e R s m args below meth c H1 locs1 cells slots Qf (F0 m (pc + 3) ls ((r.map (bl_cv α)).toList ++ (bl_dr st a).map (bl_cv α)))) :
    W p l e R s m args below meth c H locs cells slots Qf (F0 m pc ls (st.map (bl_cv α))) := by
  obtain ⟨hx, hb, hml, hr, hlocks, hown, hts, hK, hi, hA, hR, hf, hlo, hce, hsl⟩ := id C
  unfold bl_cs at hcs
  rw [Bool.and_eq_true] at hcs
  have hlen : a ≤ st.length := bl_ble hcs.1
  rw [bl_split hlen]
  have hal : (bl_ar st a).length = a := by unfold bl_ar; simp; omega
  cases har : bl_ar st a with
  | nil => rw [har] at hal; simp at hal; omega
  | cons v0 as' =>
    rw [har] at hrc hal hcon
    cases v0 with
    | ref q =>
      have hq : bl_kd q = b := hrc
      have hqn := bl_lt hq (by omega)
      obtain ⟨⟨C0, T0, N0⟩, hv, hC0⟩ : ∃ t, vwCl[b]? = some t ∧ t.1 = Y.1.cls := by
        cases hh : vwCl[b]? with
        | none => rw [hh] at h9; cases h9
        | some t => rw [hh] at h9; exact ⟨t, rfl, Option.some.inj h9⟩
      have hC0 : C0 = Y.1.cls := hC0
      have hgood : GoodIn bl_gt (wsV M.1.cls idx Y.1.cls Y.1 (bl_wz Y)) := by
        intro w hw
        unfold wsV at hw
        rcases List.mem_append.mp hw with hw | hw
        · refine bl_gt_good w (hlk w ?_)
          simp only [List.mem_cons, List.not_mem_nil, or_false] at hw
          rcases hw with rfl | rfl | rfl | rfl <;> assumption
        · exact bl_good hY w hw
      refine bl_callW (va_runV (C := Y.1.cls) (As := as'.map (bl_cv α)) (rest := (bl_dr st a).map (bl_cv α)) (b := α q) ⟨hx, hb, hml, hown, hts⟩ (hcon l D α cA) (cwV (a - 1) hts hgood rfl rfl rfl ⟨rfl, h5.1, h5.2, h6⟩ ⟨by show Y.2.2.2.2.1 + 1 ≤ R.frames; omega, by show 8 + (Y.2.2.1 + 11) + Y.2.2.2.2.2.1 ≤ R.locals; omega⟩) ⟨bl_blind, ?_, fun U hU hW => ⟨rfl, bl_world C hP hS U hU hW⟩⟩ rfl (by rw [List.length_map]; simp at hal; omega) hsz (by show _ ++ _ = _; simp [bl_cv]) (lv_room (bl_w8_le hcs.2)) hdg ⟨by omega, by omega⟩) hS (bl_AA C) kk
      have := va_recv hK hP hv (by rw [bl_ws_at hqn, bl_cell_obj hq h10])
      rw [← hC0]
      exact this
    | _ => exact hrc.elim
/-- a call of a static method of ours -/
theorem bl_invS {M Y : bl_MI} {pc idx a : Nat} {st : List Value} {ls : Array Slot} {H : Heap} {locs : List Loc} {σ σ' : bl_S} {r : Option Value} (C : bl_CX M D α cA A p R s m args meth c cells slots) (hP : va_P D vwCl (bl_ws α cA σ) H) (hS : va_S A s.heap H locs) (hsz : ls.size = M.2.2.1)
    (hY : Y ∈ bl_all) (hlk : ∀ w ∈ M.2.2.2.2.2.2, w ∈ bl_gt) (hdg : decode M.2.1 pc = .ok (.invokestatic idx, 3)) (hcs : bl_cs st a = true)
    (h1 : Cond.methodLink M.1.cls idx Y.1 ∈ M.2.2.2.2.2.2 ∨ (M.1.cls = RX7 ∧ idx = 104 ∧ Y.1 = yX10_within)) (h2 : Cond.static Y.1 ∈ M.2.2.2.2.2.2) (h4 : Cond.initialized Y.1.cls ∈ M.2.2.2.2.2.2) (h5 : Y.1.cls ≠ "java/lang/invoke/MethodHandle" ∧ Y.1.cls ≠ "java/lang/invoke/VarHandle") (h6 : (parseMethodDescriptor Y.1.desc).map (fun d => d.parameters.length) = some a) (h7 : Y.2.2.2.2.1 + 1 ≤ M.2.2.2.2.1) (h8 : 8 + (Y.2.2.1 + 11) + Y.2.2.2.2.2.1 ≤ M.2.2.2.2.2.1)
    (hcon : bl_Con Y (bl_ar st a) σ r σ') (kk : ∀ (H1 : Heap) (locs1 : List Loc), va_P D vwCl (bl_ws α cA σ') H1 → va_S A s.heap H1 locs1 → W p l e R s m args below meth c H1 locs1 cells slots Qf (F0 m (pc + 3) ls ((r.map (bl_cv α)).toList ++ (bl_dr st a).map (bl_cv α)))) :
    W p l e R s m args below meth c H locs cells slots Qf (F0 m pc ls (st.map (bl_cv α))) := by
  obtain ⟨hx, hb, hml, hr, hlocks, hown, hts, hK, hi, hA, hR, hf, hlo, hce, hsl⟩ := id C
  unfold bl_cs at hcs
  rw [Bool.and_eq_true] at hcs
  have hlen : a ≤ st.length := bl_ble hcs.1
  rw [bl_split hlen]
  have hal : (bl_ar st a).length = a := by unfold bl_ar; simp; omega
  have hroom : (bl_rm Y).frames + 1 ≤ R.frames ∧ 8 + (Y.2.2.1 + 11) + (bl_rm Y).locals ≤ R.locals := ⟨by show Y.2.2.2.2.1 + 1 ≤ R.frames; omega, by show 8 + (Y.2.2.1 + 11) + Y.2.2.2.2.2.1 ≤ R.locals; omega⟩
  rcases h1 with h1 | ⟨g1, g2, g3⟩
  · have hgood : GoodIn bl_gt (va_wsS M.1.cls idx Y.1 (bl_wz Y)) := by
      intro w hw
      unfold va_wsS at hw
      rcases List.mem_append.mp hw with hw | hw
      · refine bl_gt_good w (hlk w ?_)
        simp only [List.mem_cons, List.not_mem_nil, or_false] at hw
        rcases hw with rfl | rfl | rfl <;> assumption
      · exact bl_good hY w hw
    exact bl_callW (va_runS (As := (bl_ar st a).map (bl_cv α)) (rest := (bl_dr st a).map (bl_cv α)) ⟨hx, hb, hml, hown, hts⟩ (hcon l D α cA) (va_cwS a hts hgood rfl rfl rfl ⟨h5.1, h5.2, h6⟩ hroom) ⟨bl_blind, fun U hU hW => ⟨rfl, bl_world C hP hS U hU hW⟩⟩ rfl (by rw [List.length_map]; exact hal) hsz rfl (lv_room (bl_w8_le hcs.2)) hdg ⟨by omega, by omega⟩) hS (bl_AA C) kk
  · have hn : va_Nw (.methodLinkNest M.1.cls idx Y.1 RX10) s := by rw [g1, g2, g3]; exact hR.2
    exact bl_callW (va_runSN (As := (bl_ar st a).map (bl_cv α)) (rest := (bl_dr st a).map (bl_cv α)) ⟨hx, hb, hml, hown, hts⟩ (hcon l D α cA) ⟨va_cnB a hts (bl_good hY) rfl rfl rfl hn (hts _ (hlk _ h4)) ⟨h5.1, h5.2, h6⟩ hroom, hts _ (hlk _ h2), trivial⟩ ⟨bl_blind, fun U hU hW => ⟨rfl, bl_world C hP hS U hU hW⟩⟩ rfl (by rw [List.length_map]; exact hal) hsz rfl (lv_room (bl_w8_le hcs.2)) hdg ⟨by omega, by omega⟩) hS (bl_AA C) kk
end BLC
