/-! GUARDS: within, in, isBush, isPicker -/
def wi (x lo hi : Int32) : Int32 := if x < lo then 0 else (if hi < x then 0 else 1)
theorem wi01 (x lo hi : Int32) : wi x lo hi = 0 ∨ wi x lo hi = 1 := by
  unfold wi
  (repeat' split) <;> first | exact Or.inl rfl | exact Or.inr rfl
theorem wi_t {x lo hi : Int32} (h : ¬ wi x lo hi = 0) : ¬ x < lo ∧ ¬ hi < x := by
  unfold wi at h
  split at h
  · exact absurd rfl h
  · split at h
    · exact absurd rfl h
    · next a b => exact ⟨a, b⟩
theorem bl_toInt64_lt (x y : Int32) : x.toInt64 < y.toInt64 ↔ x < y := by
  rw [Int64.lt_iff_toInt_lt, Int32.lt_iff_toInt_lt, Int32.toInt_toInt64, Int32.toInt_toInt64]
theorem bl_cmp_lt (x y : Int32) : lg_cmp x.toInt64 y.toInt64 < 0 ↔ x < y := by
  have h := lg_cmp_ge x.toInt64 y.toInt64
  rw [← Int32.not_le, h, Int64.le_iff_toInt_le, Int32.toInt_toInt64, Int32.toInt_toInt64, Int32.lt_iff_toInt_lt]
  omega
theorem bl_cmp_gt (x y : Int32) : 0 < lg_cmp x.toInt64 y.toInt64 ↔ y < x := by
  unfold lg_cmp
  have e1 : x.toInt64 > y.toInt64 ↔ y < x := bl_toInt64_lt y x
  by_cases h : y < x
  · rw [if_pos (e1.mpr h)]
    exact ⟨fun _ => h, fun _ => by decide⟩
  · rw [if_neg (fun z => h (e1.mp z))]
    refine ⟨fun q => ?_, fun q => absurd q h⟩
    split at q
    · exact absurd q (by decide)
    · exact absurd q (by decide)
theorem c_X10_within (σ : bl_S) (x lo hi : Int32) : bl_Con (bl_mi 48) [.int x, .int lo, .int hi] σ (some (.int (wi x lo hi))) σ :=
  bl_c (Nat.le_of_ble_eq_true rfl) (vc_X10_within_0 σ x lo hi (fun v e => ⟨by rw [e]; exact wi01 x lo hi, by rw [e]; rfl, rfl⟩))
theorem c_X11_in (σ : bl_S) (x lo hi : Int32) {a b : Int64} (ha : lo.toInt64 = a) (hb : hi.toInt64 = b) : bl_Con (bl_mi 101) [.long x.toInt64, .long a, .long b] σ (some (.int (wi x lo hi))) σ := by
  subst ha
  subst hb
  refine bl_c (Nat.le_of_ble_eq_true rfl) (vc_X11_in_0 σ _ _ _ (fun v e => ?_))
  have e2 : v = wi x lo hi := by
    rw [e]
    unfold wi
    by_cases h1 : x < lo
    · rw [if_pos ((bl_cmp_lt x lo).mpr h1), if_pos h1]
    · rw [if_neg (fun z => h1 ((bl_cmp_lt x lo).mp z)), if_neg h1]
      by_cases h2 : hi < x
      · rw [if_pos ((bl_cmp_gt x hi).mpr h2), if_pos h2]
      · rw [if_neg (fun z => h2 ((bl_cmp_gt x hi).mp z)), if_neg h2]
  exact ⟨by rw [e2]; exact wi01 x lo hi, by rw [e2], rfl⟩
theorem c_X10_isBush (σ : bl_S) (x : Int32) : bl_Con (bl_mi 69) [.ref 0, .int x] σ (some (.int (wi x 0 (σ 10 3 - 1)))) σ :=
  bl_c (Nat.le_of_ble_eq_true rfl) (vc_X10_isBush_0 σ x ⟨_, _, c_X10_within σ x 0 _, wi01 _ _ _, rfl, rfl⟩)
theorem c_X10_isPicker (σ : bl_S) (x : Int32) : bl_Con (bl_mi 71) [.ref 0, .int x] σ (some (.int (wi x 0 (σ 10 4 - 1)))) σ :=
  bl_c (Nat.le_of_ble_eq_true rfl) (vc_X10_isPicker_0 σ x ⟨_, _, c_X10_within σ x 0 _, wi01 _ _ _, rfl, rfl⟩)
theorem c_X11_isBush (σ : bl_S) (x : Int32) : bl_Con (bl_mi 103) [.ref 1, .int x] σ (some (.int (wi x 0 (σ 1 4 - 1)))) σ :=
  bl_c (Nat.le_of_ble_eq_true rfl) (vc_X11_isBush_0 σ x ⟨_, _, c_X11_in σ x 0 _ (by decide) rfl, wi01 _ _ _, rfl, rfl⟩)
theorem c_X11_isPicker (σ : bl_S) (x : Int32) : bl_Con (bl_mi 104) [.ref 1, .int x] σ (some (.int (wi x 0 (σ 1 11 - 1)))) σ :=
  bl_c (Nat.le_of_ble_eq_true rfl) (vc_X11_isPicker_0 σ x ⟨_, _, c_X11_in σ x 0 _ (by decide) rfl, wi01 _ _ _, rfl, rfl⟩)
/-- what a guard says, in numbers -/
theorem wi_n {x : Int32} {n : Nat} (hn : n < 2 ^ 30) (h : ¬ wi x 0 (nI n - 1) = 0) : ∃ j, j < n ∧ x = nI j := by
  obtain ⟨h1, h2⟩ := wi_t h
  obtain ⟨j, hj, rfl⟩ := nI_of h1
  refine ⟨j, ?_, rfl⟩
  rcases Nat.lt_or_ge j n with q | q
  · exact q
  · exfalso
    apply h2
    cases n with
    | zero =>
      rw [show nI 0 - 1 = (-1 : Int32) by decide, Int32.lt_iff_toInt_lt, nI_toInt hj]
      have : (-1 : Int32).toInt = -1 := by decide
      omega
    | succ k =>
      rw [nI_pred]
      exact nI_lt (by omega) (by omega)
theorem wi_c {x : Int32} {a b : Nat} (ha : a < 2 ^ 31) (hb : b < 2 ^ 31) (h : ¬ wi x (nI a) (nI b) = 0) : ∃ j, a ≤ j ∧ j ≤ b ∧ x = nI j := by
  obtain ⟨h1, h2⟩ := wi_t h
  have hx : ¬ x < 0 := by
    intro z
    apply h1
    rw [Int32.lt_iff_toInt_lt] at z ⊢
    have := nI_toInt ha
    rw [this]
    have e0 : (0 : Int32).toInt = 0 := by decide
    omega
  obtain ⟨j, hj, rfl⟩ := nI_of hx
  refine ⟨j, ?_, ?_, rfl⟩
  · rcases Nat.lt_or_ge j a with q | q
    · exact absurd (nI_lt q ha) h1
    · exact q
  · rcases Nat.lt_or_ge b j with q | q
    · exact absurd (nI_lt q hj) h2
    · exact q
theorem nI_nt {j n : Nat} (h : j < n) (hn : n ≤ 2 ^ 31) : Int32.toNatClampNeg (nI j) = j := nI_clamp (by omega)
