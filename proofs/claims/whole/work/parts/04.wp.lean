/-! THE WALK AS A PROPOSITION: what must hold for a stretch of code to run through. -/
def bl_pi (st : List Value) (K : Int32 → List Value → Prop) : Prop := match st with
  | .int x :: r => K x r
  | _ => False
def bl_pii (st : List Value) (K : Int32 → Int32 → List Value → Prop) : Prop := match st with
  | .int y :: .int x :: r => K x y r
  | _ => False
def bl_pl (st : List Value) (K : Int64 → List Value → Prop) : Prop := match st with
  | .long x :: r => K x r
  | _ => False
def bl_pll (st : List Value) (K : Int64 → Int64 → List Value → Prop) : Prop := match st with
  | .long y :: .long x :: r => K x y r
  | _ => False
def bl_pr (st : List Value) (K : Nat → List Value → Prop) : Prop := match st with
  | .ref a :: r => K a r
  | _ => False
def bl_pir (st : List Value) (K : Nat → Int32 → List Value → Prop) : Prop := match st with
  | .int i :: .ref a :: r => K a i r
  | _ => False
def bl_piir (st : List Value) (K : Nat → Int32 → Int32 → List Value → Prop) : Prop := match st with
  | .int x :: .int i :: .ref a :: r => K a i x r
  | _ => False
def bl_p1 (st : List Value) (K : Value → List Value → Prop) : Prop := match st with
  | v :: r => v.category = 1 ∧ K v r
  | _ => False
def bl_p2 (st : List Value) (K : Value → Value → List Value → Prop) : Prop := match st with
  | v :: w :: r => v.category = 1 ∧ w.category = 1 ∧ K v w r
  | _ => False
def bl_pcopy (st : List Value) (K : Nat → Int32 → Nat → Int32 → Int32 → List Value → Prop) : Prop := match st with
  | .int n :: .int dp :: .ref a :: .int sp :: .ref a0 :: r => K a0 sp a dp n r
  | _ => False
theorem bl_pi_e {st : List Value} {K : Int32 → List Value → Prop} (h : bl_pi st K) : ∃ x r, st = .int x :: r ∧ K x r := by
  unfold bl_pi at h
  split at h
  · exact ⟨_, _, rfl, h⟩
  · exact h.elim
theorem bl_pii_e {st : List Value} {K : Int32 → Int32 → List Value → Prop} (h : bl_pii st K) : ∃ x y r, st = .int y :: .int x :: r ∧ K x y r := by
  unfold bl_pii at h
  split at h
  · exact ⟨_, _, _, rfl, h⟩
  · exact h.elim
theorem bl_pl_e {st : List Value} {K : Int64 → List Value → Prop} (h : bl_pl st K) : ∃ x r, st = .long x :: r ∧ K x r := by
  unfold bl_pl at h
  split at h
  · exact ⟨_, _, rfl, h⟩
  · exact h.elim
theorem bl_pll_e {st : List Value} {K : Int64 → Int64 → List Value → Prop} (h : bl_pll st K) : ∃ x y r, st = .long y :: .long x :: r ∧ K x y r := by
  unfold bl_pll at h
  split at h
  · exact ⟨_, _, _, rfl, h⟩
  · exact h.elim
theorem bl_pr_e {st : List Value} {K : Nat → List Value → Prop} (h : bl_pr st K) : ∃ x r, st = .ref x :: r ∧ K x r := by
  unfold bl_pr at h
  split at h
  · exact ⟨_, _, rfl, h⟩
  · exact h.elim
theorem bl_pir_e {st : List Value} {K : Nat → Int32 → List Value → Prop} (h : bl_pir st K) : ∃ a i r, st = .int i :: .ref a :: r ∧ K a i r := by
  unfold bl_pir at h
  split at h
  · exact ⟨_, _, _, rfl, h⟩
  · exact h.elim
theorem bl_piir_e {st : List Value} {K : Nat → Int32 → Int32 → List Value → Prop} (h : bl_piir st K) : ∃ a i x r, st = .int x :: .int i :: .ref a :: r ∧ K a i x r := by
  unfold bl_piir at h
  split at h
  · exact ⟨_, _, _, _, rfl, h⟩
  · exact h.elim
theorem bl_p1_e {st : List Value} {K : Value → List Value → Prop} (h : bl_p1 st K) : ∃ v r, st = v :: r ∧ v.category = 1 ∧ K v r := by
  unfold bl_p1 at h
  split at h
  · exact ⟨_, _, rfl, h⟩
  · exact h.elim
theorem bl_p2_e {st : List Value} {K : Value → Value → List Value → Prop} (h : bl_p2 st K) : ∃ v w r, st = v :: w :: r ∧ v.category = 1 ∧ w.category = 1 ∧ K v w r := by
  unfold bl_p2 at h
  split at h
  · exact ⟨_, _, _, rfl, h⟩
  · exact h.elim
theorem bl_pcopy_e {st : List Value} {K : Nat → Int32 → Nat → Int32 → Int32 → List Value → Prop} (h : bl_pcopy st K) : ∃ a0 sp a dp n r, st = .int n :: .int dp :: .ref a :: .int sp :: .ref a0 :: r ∧ K a0 sp a dp n r := by
  unfold bl_pcopy at h
  split at h
  · exact ⟨_, _, _, _, _, _, rfl, h⟩
  · exact h.elim
def bl_lk : List (Nat × Value) → Nat → Option Value
  | [], _ => none
  | q :: r, i => bif Nat.beq q.1 i then some q.2 else bl_lk r i
theorem bl_lk_mem : ∀ {lv : List (Nat × Value)} {i : Nat} {v : Value}, bl_lk lv i = some v → (i, v) ∈ lv
  | [], _, _, h => by cases h
  | q :: r, i, v, h => by
    unfold bl_lk at h
    cases hb : Nat.beq q.1 i with
    | true =>
      rw [hb] at h
      have : q.1 = i := Nat.eq_of_beq_eq_true hb
      have h2 : q.2 = v := Option.some.inj h
      have h3 : (i, v) = q := by rw [← this, ← h2]
      rw [h3]
      exact List.mem_cons_self
    | false =>
      rw [hb] at h
      exact List.mem_cons_of_mem _ (bl_lk_mem h)
theorem bl_lk_has {α : Nat → Nat} {ls : Array Slot} {n : Nat} {lv : List (Nat × Value)} {i : Nat} {v : Value} (hl : lv_has ls n (bl_cl α lv)) (h : bl_lk lv i = some v) : ls[i]? = some (.val (bl_cv α v)) :=
  hl.2.2 (i, bl_cv α v) (List.mem_map.mpr ⟨(i, v), bl_lk_mem h, rfl⟩)
def bl_li (lv : List (Nat × Value)) (i : Nat) (K : Int32 → Prop) : Prop := match bl_lk lv i with
  | some (.int x) => K x
  | _ => False
def bl_ll (lv : List (Nat × Value)) (i : Nat) (K : Int64 → Prop) : Prop := match bl_lk lv i with
  | some (.long x) => K x
  | _ => False
def bl_lr (lv : List (Nat × Value)) (i : Nat) (K : Nat → Prop) : Prop := match bl_lk lv i with
  | some (.ref x) => K x
  | _ => False
theorem bl_li_e {lv : List (Nat × Value)} {i : Nat} {K : Int32 → Prop} (h : bl_li lv i K) : ∃ x, bl_lk lv i = some (.int x) ∧ K x := by
  unfold bl_li at h
  split at h
  · next hh => exact ⟨_, hh, h⟩
  · exact h.elim
theorem bl_ll_e {lv : List (Nat × Value)} {i : Nat} {K : Int64 → Prop} (h : bl_ll lv i K) : ∃ x, bl_lk lv i = some (.long x) ∧ K x := by
  unfold bl_ll at h
  split at h
  · next hh => exact ⟨_, hh, h⟩
  · exact h.elim
theorem bl_lr_e {lv : List (Nat × Value)} {i : Nat} {K : Nat → Prop} (h : bl_lr lv i K) : ∃ x, bl_lk lv i = some (.ref x) ∧ K x := by
  unfold bl_lr at h
  split at h
  · next hh => exact ⟨_, hh, h⟩
  · exact h.elim
def bl_ins (i : Nat) (v : Value) : List (Nat × Value) → List (Nat × Value)
  | [] => [(i, v)]
  | q :: r => bif Nat.blt i q.1 then (i, v) :: q :: r else q :: bl_ins i v r
theorem bl_ins_mem {i : Nat} {v : Value} {q : Nat × Value} : ∀ {l : List (Nat × Value)}, q ∈ bl_ins i v l → q = (i, v) ∨ q ∈ l
  | [], h => Or.inl (List.mem_singleton.mp h)
  | x :: r, h => by
    unfold bl_ins at h
    cases hb : Nat.blt i x.1 with
    | true =>
      rw [hb] at h
      exact List.mem_cons.mp h
    | false =>
      rw [hb] at h
      rcases List.mem_cons.mp h with h | h
      · exact Or.inr (by rw [h]; exact List.mem_cons_self)
      · rcases bl_ins_mem h with h | h
        · exact Or.inl h
        · exact Or.inr (List.mem_cons_of_mem _ h)
def bl_f1 (i : Nat) (q : Nat × Value) : Bool := !(q.1 == i) && !(q.1 + 1 == i && q.2.category == 2)
def bl_f2 (i : Nat) (q : Nat × Value) : Bool := !(q.1 == i) && (!(q.1 == i + 1) && !(q.1 + 1 == i && q.2.category == 2))
def bl_s1 (lv : List (Nat × Value)) (i : Nat) (v : Value) : List (Nat × Value) := bl_ins i v (lv.filter (bl_f1 i))
def bl_s2 (lv : List (Nat × Value)) (i : Nat) (v : Value) : List (Nat × Value) := bl_ins i v (lv.filter (bl_f2 i))
theorem bl_s1_has {α : Nat → Nat} {ls : Array Slot} {n : Nat} {lv : List (Nat × Value)} {i : Nat} {v : Value} (h : lv_has ls n ((i, bl_cv α v) :: (bl_cl α lv).filter (fun q => !(q.1 == i) && !(q.1 + 1 == i && q.2.category == 2)))) : lv_has ls n (bl_cl α (bl_s1 lv i v)) := by
  refine ⟨h.1, h.2.1, fun q hq => h.2.2 q ?_⟩
  obtain ⟨x, hx, rfl⟩ := List.mem_map.mp hq
  rcases bl_ins_mem hx with rfl | hx
  · exact List.mem_cons_self
  · refine List.mem_cons_of_mem _ (List.mem_filter.mpr ⟨List.mem_map.mpr ⟨x, (List.mem_filter.mp hx).1, rfl⟩, ?_⟩)
    have := (List.mem_filter.mp hx).2
    unfold bl_f1 at this
    rw [bl_cv_cat]
    exact this
theorem bl_s2_has {α : Nat → Nat} {ls : Array Slot} {n : Nat} {lv : List (Nat × Value)} {i : Nat} {v : Value} (h : lv_has ls n ((i, bl_cv α v) :: (bl_cl α lv).filter (fun q => !(q.1 == i) && (!(q.1 == i + 1) && !(q.1 + 1 == i && q.2.category == 2))))) : lv_has ls n (bl_cl α (bl_s2 lv i v)) := by
  refine ⟨h.1, h.2.1, fun q hq => h.2.2 q ?_⟩
  obtain ⟨x, hx, rfl⟩ := List.mem_map.mp hq
  rcases bl_ins_mem hx with rfl | hx
  · exact List.mem_cons_self
  · refine List.mem_cons_of_mem _ (List.mem_filter.mpr ⟨List.mem_map.mpr ⟨x, (List.mem_filter.mp hx).1, rfl⟩, ?_⟩)
    have := (List.mem_filter.mp hx).2
    unfold bl_f2 at this
    rw [bl_cv_cat]
    exact this
def bl_sw (x : Int32) : List (Int32 × Nat) → (Nat → Prop) → Nat → Prop
  | [], K, d => K d
  | q :: r, K, d => (x = q.1 → K q.2) ∧ (¬ x = q.1 → bl_sw x r K d)
def bl_to (es : List bl_En) (t : Nat) : List bl_En := es.dropWhile (fun e => !(Nat.beq e.1 t))
def bl_w8 (st : List Value) : Bool := Nat.ble (st.map fun v => v.category).sum 8
def bl_rcv (st : List Value) (b : Nat) : Prop := match st with
  | .ref q :: _ => bl_kd q = b
  | _ => False
def bl_dr (st : List Value) (a : Nat) : List Value := st.drop a
def bl_ar (st : List Value) (a : Nat) : List Value := (st.take a).reverse
def bl_cpy (σ : bl_S) (a0 a sp dp n : Nat) : bl_S := fun c => if c = a then va_cpy (σ a0) (σ a) sp dp n else σ c
