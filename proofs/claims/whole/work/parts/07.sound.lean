theorem bl_go {M : bl_MI} {pc pc' : Nat} {lv lv' : List (Nat × Value)} {st st' : List Value} {σ σ' : bl_S} {Q : Option Value → bl_S → Prop} (h : bl_Wx M pc' lv' st' σ' Q)
    (f : ∀ (p : Program) (l : Launch) (e : Env) (R : Room) (s : State) (m : MethodId) (args : Array Value) (below : List Frame) (meth : Method) (c : Code) (cells slots : Nat) (Qf : State → Prop) (D : va_G) (α : Nat → Nat) (cA : Nat → ClassId) (A : Nat → Prop),
      bl_CX M D α cA A p R s m args meth c cells slots → ∀ (H : Heap) (locs : List Loc) (ls : Array Slot), va_P D vwCl (bl_ws α cA σ) H → va_S A s.heap H locs → lv_has ls M.2.2.1 (bl_cl α lv) →
      (∀ (H' : Heap) (locs' : List Loc) (ls' : Array Slot), va_P D vwCl (bl_ws α cA σ') H' → va_S A s.heap H' locs' → lv_has ls' M.2.2.1 (bl_cl α lv') → W p l e R s m args below meth c H' locs' cells slots Qf (F0 m pc' ls' (st'.map (bl_cv α)))) →
      W p l e R s m args below meth c H locs cells slots Qf (F0 m pc ls (st.map (bl_cv α)))) : bl_Wx M pc lv st σ Q :=
  fun p l e R s m args below meth c cells slots Qf D α cA A hC hret H locs ls hP hS hl => f p l e R s m args below meth c cells slots Qf D α cA A hC H locs ls hP hS hl (fun H' locs' ls' hP' hS' hl' => h p l e R s m args below meth c cells slots Qf D α cA A hC hret H' locs' ls' hP' hS' hl')
/-- classes and their tables -/
theorem bl_cls_ws : ∀ (ci : Nat) (C : String) (T : u_T) (N : Nat), vwCl[ci]? = some (C, T, N) → ∀ w ∈ u_ws C T N, w ∈ bl_gt := by
  intro ci C T N h
  have key : ∀ q ∈ vwCl, ∀ w ∈ u_ws q.1 q.2.1 q.2.2, w ∈ lw_tbl ∧ goodWord w = true := by decide +kernel
  intro w hw
  exact List.mem_filter.mpr (key _ (List.mem_of_getElem? h) w hw)
def bl_tyT : List (Nat → FieldType) := [tyX0, tyX1, tyX2, tyX3, tyX4, tyX5, tyX6, tyX7, tyX8, tyX9, tyX10, tyX11]
theorem bl_cls_ty : ∀ (ci : Nat) (C : String) (T : u_T) (N : Nat), vwCl[ci]? = some (C, T, N) → ∀ k, k < N → parseFieldDescriptor (T k).2.2.1 = some ((bl_tyT.getD ci tyX0) k) := by
  intro ci C T N h
  match ci, h with
  | 0, h => cases h; exact tyX0_ok
  | 1, h => cases h; exact tyX1_ok
  | 2, h => cases h; exact tyX2_ok
  | 3, h => cases h; exact tyX3_ok
  | 4, h => cases h; exact tyX4_ok
  | 5, h => cases h; exact tyX5_ok
  | 6, h => cases h; exact tyX6_ok
  | 7, h => cases h; exact tyX7_ok
  | 8, h => cases h; exact tyX8_ok
  | 9, h => cases h; exact tyX9_ok
  | 10, h => cases h; exact tyX10_ok
  | 11, h => cases h; exact tyX11_ok
  | k + 12, h => simp [vwCl] at h
theorem bl_cls_nm : ∀ (ci : Nat) (C : String) (T : u_T) (N : Nat), vwCl[ci]? = some (C, T, N) → ∀ a, a < N → ∀ b, b < N → a ≠ b → (T a).2.1 ≠ (T b).2.1 := by
  intro ci C T N h
  match ci, h with
  | 0, h => cases h; exact nmX0
  | 1, h => cases h; exact nmX1
  | 2, h => cases h; exact nmX2
  | 3, h => cases h; exact nmX3
  | 4, h => cases h; exact nmX4
  | 5, h => cases h; exact nmX5
  | 6, h => cases h; exact nmX6
  | 7, h => cases h; exact nmX7
  | 8, h => cases h; exact nmX8
  | 9, h => cases h; exact nmX9
  | 10, h => cases h; exact nmX10
  | 11, h => cases h; exact nmX11
  | k + 12, h => simp [vwCl] at h
theorem bl_cls_ln : ∀ k, k < bl_N → bl_kd k < 20 → (vwCl[bl_kd k]?).map (fun q => q.2.2) = some (bl_ln k) := by decide +kernel
theorem bl_ln_of {k ci N : Nat} {C : String} {T : u_T} (h : bl_kd k = ci) (hc : ci < 20) (hv : vwCl[ci]? = some (C, T, N)) : bl_ln k = N := by
  have h1 := bl_cls_ln k (bl_lt h (by omega)) (by omega)
  rw [h, hv] at h1
  exact (Option.some.inj h1).symm
theorem bl_bool {x : Int32} (h : x = 0 ∨ x = 1) : narrow .boolean (.int x) = .int x ∧ fits .boolean (.int x) = true := by
  rcases h with rfl | rfl <;> exact ⟨rfl, rfl⟩
theorem bl_sw_e {x : Int32} {K : Nat → Prop} {d : Nat} : ∀ {sw : List (Int32 × Nat)}, bl_sw x sw K d → (∃ (k : Nat) (q : Int32 × Nat), sw[k]? = some q ∧ x = q.1 ∧ (∀ j q', j < k → sw[j]? = some q' → ¬ x = q'.1) ∧ K q.2) ∨ ((∀ q ∈ sw, ¬ x = q.1) ∧ K d)
  | [], h => Or.inr ⟨fun _ h => (List.not_mem_nil h).elim, h⟩
  | q :: r, h => by
    by_cases hx : x = q.1
    · exact Or.inl ⟨0, q, rfl, hx, fun j q' hj => (by omega), h.1 hx⟩
    · rcases bl_sw_e (h.2 hx) with ⟨k, q', h1, h2, h3, h4⟩ | ⟨h1, h2⟩
      · refine Or.inl ⟨k + 1, q', h1, h2, fun j q'' hj hq => ?_, h4⟩
        cases j with
        | zero => cases hq; exact hx
        | succ j => exact h3 j q'' (by omega) hq
      · exact Or.inr ⟨fun q' hq => (List.mem_cons.mp hq).elim (fun e => by rw [e]; exact hx) (h1 q'), h2⟩
theorem bl_icmp {P : Prop} {x y : Int32} (h : ¬ x < y → P) : y ≤ x → P := fun q => h (Int32.not_lt.mpr q)
theorem bl_icmp' {P : Prop} {x y : Int32} (h : x < y → P) : ¬ y ≤ x → P := fun q => h (Int32.not_le.mp q)
theorem bl_nn {P : Prop} {A : Prop} (h : A → P) : ¬ ¬ A → P := fun q => h (Classical.not_not.mp q)
