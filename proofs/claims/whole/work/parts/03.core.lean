/-! THE WORLD: all cells of class and reference after their making. The references among them never change, so a state is the numbers: cell, slot ↦ Int32. -/
abbrev bl_S : Type := Nat → Nat → Int32
def bl_up (σ : bl_S) (c j : Nat) (v : Int32) : bl_S := fun c' j' => if c' = c ∧ j' = j then v else σ c' j'
def bl_gt : List Cond := lw_tbl.filter goodWord
theorem bl_gt_good : GoodIn bl_gt bl_gt := fun w h => ⟨h, good_of_word (List.mem_filter.mp h).2⟩
theorem bl_gt_tbl {w : Cond} (h : w ∈ bl_gt) : w ∈ lw_tbl := (List.mem_filter.mp h).1
def bl_cell (α : Nat → Nat) (cA : Nat → ClassId) (σ : bl_S) (k : Nat) : va_E :=
  if bl_kd k < 20 then .inr (bl_kd k, (List.range (bl_ln k)).map (fun j => if bl_fr (bl_kd k) j then Value.ref (α (bl_rf k j)) else Value.int (σ k j)))
  else if bl_kd k < 23 then .inl (cA k, bl_ln k, .inl (σ k)) else .inl (cA k, bl_ln k, .inr (.inr (.inr (.inr (fun j => some (α (bl_rf k j)))))))
def bl_aty (k : Nat) : FieldType := if bl_kd k = 21 then .char else if bl_kd k = 22 then .boolean else if bl_kd k = 23 then .object RX1 else if bl_kd k = 24 then .object RX5 else if bl_kd k = 25 then .object RX3 else .int
def bl_ws (α : Nat → Nat) (cA : Nat → ClassId) (σ : bl_S) : va_W := (List.range bl_N).map fun k => (α k, bl_cell α cA σ k)
def bl_tys (cA : Nat → ClassId) : List (ClassId × FieldType) := (List.range bl_N).map fun k => (cA k, bl_aty k)
theorem bl_ws_at {α : Nat → Nat} {cA : Nat → ClassId} {σ : bl_S} {k : Nat} (h : k < bl_N) : (bl_ws α cA σ)[k]? = some (α k, bl_cell α cA σ k) := by
  simp [bl_ws, h]
theorem bl_tys_at {cA : Nat → ClassId} {k : Nat} (h : k < bl_N) : (bl_tys cA)[k]? = some (cA k, bl_aty k) := by
  simp [bl_tys, h]
theorem bl_kd_len : bl_kdT.length = bl_N + 4 := by decide +kernel
theorem bl_kd_ro : ∀ i, i < 4 → bl_kd (bl_N + i) = 26 := by decide +kernel
theorem bl_lt {k c : Nat} (h : bl_kd k = c) (hc : c < 26) : k < bl_N := by
  rcases Nat.lt_or_ge k bl_N with q | q
  · exact q
  · exfalso
    rcases Nat.lt_or_ge k (bl_N + 4) with r | r
    · have := bl_kd_ro (k - bl_N) (by omega)
      rw [show bl_N + (k - bl_N) = k by omega] at this
      omega
    · have : bl_kd k = 99 := by
        unfold bl_kd
        rw [List.getD_eq_getElem?_getD, List.getElem?_eq_none (by rw [bl_kd_len]; omega)]
        rfl
      omega
theorem bl_cell_obj {α : Nat → Nat} {cA : Nat → ClassId} {σ : bl_S} {k ci : Nat} (h : bl_kd k = ci) (hc : ci < 20) : bl_cell α cA σ k = .inr (ci, (List.range (bl_ln k)).map (fun j => if bl_fr ci j then Value.ref (α (bl_rf k j)) else Value.int (σ k j))) := by
  unfold bl_cell
  rw [h, if_pos hc]
theorem bl_cell_arr {α : Nat → Nat} {cA : Nat → ClassId} {σ : bl_S} {k ci : Nat} (h : bl_kd k = ci) (h1 : 20 ≤ ci) (h2 : ci < 23) : bl_cell α cA σ k = .inl (cA k, bl_ln k, .inl (σ k)) := by
  unfold bl_cell
  rw [h, if_neg (by omega), if_pos h2]
theorem bl_cell_refs {α : Nat → Nat} {cA : Nat → ClassId} {σ : bl_S} {k ci : Nat} (h : bl_kd k = ci) (h1 : 23 ≤ ci) : bl_cell α cA σ k = .inl (cA k, bl_ln k, .inr (.inr (.inr (.inr (fun j => some (α (bl_rf k j))))))) := by
  unfold bl_cell
  rw [h, if_neg (by omega), if_neg (by omega)]
theorem bl_ws_set {α : Nat → Nat} {cA : Nat → ClassId} {σ σ' : bl_S} {k : Nat} {E : va_E} (hk : k < bl_N) (h1 : bl_cell α cA σ' k = E) (h2 : ∀ c, c ≠ k → σ' c = σ c) : (bl_ws α cA σ).set k (α k, E) = bl_ws α cA σ' := by
  apply List.ext_getElem?
  intro i
  by_cases hi : i = k
  · subst hi
    rw [List.getElem?_set_self (by simp [bl_ws]; exact hk), bl_ws_at hk, h1]
  · rw [List.getElem?_set_ne (Ne.symm hi)]
    by_cases hn : i < bl_N
    · rw [bl_ws_at hn, bl_ws_at hn]
      have e : bl_cell α cA σ i = bl_cell α cA σ' i := by
        unfold bl_cell
        rw [h2 i hi]
      rw [e]
    · rw [List.getElem?_eq_none (by simp [bl_ws]; omega), List.getElem?_eq_none (by simp [bl_ws]; omega)]
theorem bl_up_ne {σ : bl_S} {c j : Nat} {v : Int32} {c' : Nat} (h : c' ≠ c) : bl_up σ c j v c' = σ c' := by
  funext j'
  simp [bl_up, h]
theorem bl_up_eq {σ : bl_S} {c j : Nat} {v : Int32} : bl_up σ c j v c = upd (σ c) j v := by
  funext j'
  simp [bl_up, upd]
theorem bl_ws_put {α : Nat → Nat} {cA : Nat → ClassId} {σ : bl_S} {k ci j : Nat} {x : Int32} (h : bl_kd k = ci) (hc : ci < 20) (hf : bl_fr ci j = false) :
    (bl_ws α cA σ).set k (α k, .inr (ci, ((List.range (bl_ln k)).map (fun j => if bl_fr ci j then Value.ref (α (bl_rf k j)) else Value.int (σ k j))).set j (.int x))) = bl_ws α cA (bl_up σ k j x) := by
  refine bl_ws_set (bl_lt h (by omega)) ?_ (fun c hc => bl_up_ne hc)
  rw [bl_cell_obj h hc]
  congr 2
  apply List.ext_getElem?
  intro i
  by_cases hi : i = j
  · subst hi
    by_cases hl : i < bl_ln k
    · rw [List.getElem?_set_self (by simp; exact hl)]
      simp [hl, hf, bl_up]
    · rw [List.getElem?_eq_none (by simp; omega), List.getElem?_eq_none (by simp; omega)]
  · rw [List.getElem?_set_ne (Ne.symm hi)]
    by_cases hl : i < bl_ln k
    · simp [bl_up, hi, hl]
    · rw [List.getElem?_eq_none (by simp; omega), List.getElem?_eq_none (by simp; omega)]
theorem bl_ws_ast {α : Nat → Nat} {cA : Nat → ClassId} {σ : bl_S} {k ci j : Nat} {x : Int32} (h : bl_kd k = ci) (h1 : 20 ≤ ci) (h2 : ci < 23) : (bl_ws α cA σ).set k (α k, .inl (cA k, bl_ln k, .inl (upd (σ k) j x))) = bl_ws α cA (bl_up σ k j x) := by
  refine bl_ws_set (bl_lt h (by omega)) ?_ (fun c hc => bl_up_ne hc)
  rw [bl_cell_arr h h1 h2, bl_up_eq]
/-- a method: name, code, locals, answer's type, frames, words, the links that its code uses -/
abbrev bl_MI : Type := MethodName × ByteArray × Nat × Option FieldType × Nat × Nat × List Cond
abbrev bl_En : Type := Nat × Instr × Nat × Nat × Nat × Nat × Nat × Int32 × Int64 × List (Int32 × Nat)
def bl_nestW : Cond := .methodLinkNest RX7 104 yX10_within RX10
/-- what is read and never written: the four tables of the reader; one link of a nest mate -/
def bl_RO (α : Nat → Nat) (A : Nat → Prop) (U : State) (H : Heap) : Prop :=
  (∀ i, i < 4 → va_Z RX7 (bl_rn i) "[I" (.ref (α (bl_N + i))) A U H ∧ va_T .int (α (bl_N + i)) (bl_ln (bl_N + i)) (fun j => .int (bl_ro (bl_N + i) j)) A U H) ∧ va_Nw bl_nestW U
theorem bl_RO.at {α : Nat → Nat} {A B : Nat → Prop} {s U : State} {H : Heap} {locs : List Loc} (h : bl_RO α A s s.heap) (hS : va_S A s.heap H locs) (hB : ∀ q, B q → A q) (hW : s.WarmedH U.vm) : bl_RO α B U H := by
  refine ⟨fun i hi => ⟨?_, ?_⟩, va_Nw.warmM hW h.2⟩
  · exact (va_Z.moved hW.alike ((h.1 i hi).1.kept hS.2.1)).narrow hB
  · exact (va_T.moved hW.alike ((h.1 i hi).2.kept hS.2.1)).narrow hB
theorem bl_RO.calling {α : Nat → Nat} {A : Nat → Prop} {U : State} {g : JFrame} {mk : MethodId} {a : Array Value} {H : Heap} (h : bl_RO α A U H) : bl_RO α A (U.calling g mk a) H :=
  ⟨fun i hi => ⟨va_Z.moved (u := U) (U := U.calling g mk a) (Vm.Alike.refl U.vm) (h.1 i hi).1, va_T.moved (u := U) (U := U.calling g mk a) (Vm.Alike.refl U.vm) (h.1 i hi).2⟩, va_Nw.same rfl (rfl : U.vm = (U.calling g mk a).vm) h.2⟩
def bl_A (α : Nat → Nat) : Nat → Prop := fun q => ∃ k, k < bl_N ∧ q = α k
def bl_inj (α : Nat → Nat) : Prop := ∀ i j : Nat, i < bl_N → j < bl_N → α i = α j → i = j
theorem bl_D {α : Nat → Nat} {cA : Nat → ClassId} {σ : bl_S} {A : Nat → Prop} (hi : bl_inj α) (hA : ∀ k, k < bl_N → A (α k)) : va_D A (bl_ws α cA σ) := by
  have key : ∀ (k : Nat) (q : Nat × va_E), (bl_ws α cA σ)[k]? = some q → k < bl_N ∧ q.1 = α k := by
    intro k q hk
    by_cases h : k < bl_N
    · rw [bl_ws_at h] at hk
      cases hk
      exact ⟨h, rfl⟩
    · rw [List.getElem?_eq_none (by simp [bl_ws]; omega)] at hk
      cases hk
  refine ⟨fun i j p q h1 h2 e => ?_, fun k q hk => ?_⟩
  · obtain ⟨a1, a2⟩ := key i p h1
    obtain ⟨b1, b2⟩ := key j q h2
    exact hi i j a1 b1 (by rw [← a2, ← b2]; exact e)
  · obtain ⟨a1, a2⟩ := key k q hk
    rw [a2]
    exact hA k a1
def bl_cv (α : Nat → Nat) : Value → Value
  | .ref a => .ref (α a)
  | v => v
def bl_cl (α : Nat → Nat) (lv : List (Nat × Value)) : List (Nat × Value) := lv.map fun q => (q.1, bl_cv α q.2)
theorem bl_cv_cat (α : Nat → Nat) (v : Value) : (bl_cv α v).category = v.category := by cases v <;> rfl
/-- what holds all along a method's body -/
def bl_CX (M : bl_MI) (D : va_G) (α : Nat → Nat) (cA : Nat → ClassId) (A : Nat → Prop) (p : Program) (R : Room) (s : State) (m : MethodId) (args : Array Value) (meth : Method) (c : Code) (cells slots : Nat) : Prop :=
  p.tables.exec = Jvm.exec ∧ c.code = M.2.1 ∧ c.maxLocals = M.2.2.1 ∧ meth.sig.returnType = M.2.2.2.1 ∧ meth.locks = false ∧ s.vm.findClass M.1.cls = some m.cls ∧ (∀ w ∈ bl_gt, w.before args s = true) ∧ va_K D vwCl (bl_tys cA) s ∧ bl_inj α ∧ (∀ k, k < bl_N → A (α k)) ∧ bl_RO α A s s.heap ∧ M.2.2.2.2.1 ≤ R.frames ∧ M.2.2.2.2.2.1 ≤ R.locals ∧ cells ≤ R.cells ∧ slots ≤ R.slots
/-- an answer stands at a return instruction -/
def bl_ret (M : bl_MI) (pc : Nat) (v : Option Value) : Prop := match v with
  | none => decode M.2.1 pc = .ok (.return_, 1) ∧ M.2.2.2.1 = none
  | some (.int x) => decode M.2.1 pc = .ok (.ireturn, 1) ∧ ∃ ty, M.2.2.2.1 = some ty ∧ narrow ty (.int x) = .int x
  | some (.ref _) => decode M.2.1 pc = .ok (.areturn, 1) ∧ ∃ ty, M.2.2.2.1 = some (.array ty)
  | _ => False
/-- from here, in any machine that holds the world σ, the method comes to an end with Q -/
def bl_Wx (M : bl_MI) (pc : Nat) (lv : List (Nat × Value)) (st : List Value) (σ : bl_S) (Q : Option Value → bl_S → Prop) : Prop :=
  ∀ (p : Program) (l : Launch) (e : Env) (R : Room) (s : State) (m : MethodId) (args : Array Value) (below : List Frame) (meth : Method) (c : Code) (cells slots : Nat) (Qf : State → Prop) (D : va_G) (α : Nat → Nat) (cA : Nat → ClassId) (A : Nat → Prop),
    bl_CX M D α cA A p R s m args meth c cells slots →
    (∀ (pc : Nat) (v : Option Value) (σ : bl_S) (H : Heap) (locs : List Loc) (ls : Array Slot), Q v σ → va_P D vwCl (bl_ws α cA σ) H → va_S A s.heap H locs → bl_ret M pc v → W p l e R s m args below meth c H locs cells slots Qf (F0 m pc ls (v.map (bl_cv α)).toList)) →
    ∀ (H : Heap) (locs : List Loc) (ls : Array Slot), va_P D vwCl (bl_ws α cA σ) H → va_S A s.heap H locs → lv_has ls M.2.2.1 (bl_cl α lv) → W p l e R s m args below meth c H locs cells slots Qf (F0 m pc ls (st.map (bl_cv α)))
def bl_wz (M : bl_MI) : List Cond := Cond.code M.1 M.2.1 M.2.2.1 M.2.2.2.1 :: bl_gt
def bl_rm (M : bl_MI) : Room := { frames := M.2.2.2.2.1, cells := 0, slots := 0, locals := M.2.2.2.2.2.1 }
def bl_Wd (D : va_G) (α : Nat → Nat) (cA : Nat → ClassId) (σ : bl_S) (U : State) : Prop := va_P D vwCl (bl_ws α cA σ) U.heap ∧ va_K D vwCl (bl_tys cA) U ∧ bl_inj α ∧ bl_RO α (bl_A α) U U.heap
def bl_Qc (D : va_G) (α : Nat → Nat) (cA : Nat → ClassId) (r : Option Value) (σ : bl_S) : Array Value → State → Outcome → State → Prop := fun _ st oc t => (oc = .returned (r.map (bl_cv α)) ∧ va_P D vwCl (bl_ws α cA σ) t.heap) ∧ va_F (bl_A α) st t
/-- a method's contract: from the world σ it answers r and leaves the world σ' -/
def bl_Con (M : bl_MI) (as : List Value) (σ : bl_S) (r : Option Value) (σ' : bl_S) : Prop :=
  ∀ (l : Launch) (D : va_G) (α : Nat → Nat) (cA : Nat → ClassId), Met l M.1 (bl_wz M) (bl_rm M) (va_Pc (as.map (bl_cv α)) (bl_Wd D α cA σ)) (bl_Qc D α cA r σ') 0 0 (bl_A α)
