/-! WHAT IS SEEN: left, can, write, tear; seed; feed -/
theorem Iv.seen {nb np nt a b c a' b' c' : Nat} {σ τ : bl_S} (h : Iv nb np nt a b c σ) (f : ∀ d, d ≠ 1 → ¬ (83 ≤ d ∧ d ≤ 85) → ¬ (90 ≤ d ∧ d ≤ 101) → ¬ (135 ≤ d ∧ d ≤ 144) → τ d = σ d) (f1 : ∀ k, k ≠ 49 → k ≠ 53 → k ≠ 58 → τ 1 k = σ 1 k) (hs : Js nb np a' b' c' τ) : Iv nb np nt a' b' c' τ := by
  obtain ⟨hl, hb, hp, hz, ht, -, hm⟩ := h
  have hn := hl.1
  have hn2 := hl.2.1
  have g : ∀ d, d ≠ 1 ∧ ¬ (83 ≤ d ∧ d ≤ 85) ∧ ¬ (90 ≤ d ∧ d ≤ 101) ∧ ¬ (135 ≤ d ∧ d ≤ 144) → τ d = σ d := fun d z => f d z.1 z.2.1 z.2.2.1 z.2.2.2
  exact ⟨hl.fr (g _ (by omega)) (g _ (by omega)) (fun k hk => f1 k (by omega) (by omega) (by omega)), hb.fr hn (fun c z => g c (by omega)), hp.fr hn2 (fun c z => g c (by omega)), hz.fr (fun c z => g c (by omega)), ht.fr (g _ (by omega)) (by rw [g 2 (by omega)]) (g _ (by omega)) (g _ (by omega)) (fun k hk => f1 k (by omega) (by omega) (by omega)), hs, hm.fr hn hn2 (fun d z => g d (by omega)) (fun b k _ _ => by rw [g (14 + b) (by omega)]) (fun p k _ _ => by rw [g (20 + p) (by omega)])⟩
def isS (S A : Nat) : Prop := (S = 83 ∧ A = 90) ∨ (S = 84 ∧ A = 94) ∨ (S = 85 ∧ A = 98)
theorem isS_f {S A : Nat} (h : isS S A) : bl_kd S = 9 ∧ bl_rf S 0 = A ∧ bl_rf S 1 = A + 1 ∧ bl_rf S 2 = A + 2 ∧ bl_rf S 3 = A + 3 ∧ bl_kd A = 20 ∧ bl_kd (A + 1) = 20 ∧ bl_kd (A + 2) = 20 ∧ bl_kd (A + 3) = 20 ∧ bl_ln A = 20 ∧ bl_ln (A + 1) = 20 ∧ bl_ln (A + 2) = 20 ∧ bl_ln (A + 3) = 20 := by
  rcases h with ⟨rfl, rfl⟩ | ⟨rfl, rfl⟩ | ⟨rfl, rfl⟩ <;> exact ⟨rfl, rfl, rfl, rfl, rfl, rfl, rfl, rfl, rfl, rfl, rfl, rfl, rfl⟩
theorem isS_n {S A : Nat} (h : isS S A) : 83 ≤ S ∧ S ≤ 85 ∧ 90 ≤ A ∧ A ≤ 98 := by
  rcases h with ⟨rfl, rfl⟩ | ⟨rfl, rfl⟩ | ⟨rfl, rfl⟩ <;> omega
def apS (σ : bl_S) (S A m : Nat) (x1 x2 x3 x4 : Int32) : bl_S := bl_up (bl_up (bl_up (bl_up (bl_up σ A m x1) (A + 1) m x2) (A + 2) m x3) (A + 3) m x4) S 4 (nI (m + 1))
theorem c_X9_isFull (σ : bl_S) {S A : Nat} (h : isS S A) : bl_Con (bl_mi 63) [.ref S] σ (some (.int (if σ S 4 < σ S 5 then 0 else 1))) σ :=
  bl_c (Nat.le_of_ble_eq_true rfl) (vc_X9_isFull_0 σ S (isS_f h).1 (fun v e => ⟨by rw [e]; split <;> first | exact Or.inl rfl | exact Or.inr rfl, by rw [e], rfl⟩))
set_option maxHeartbeats 2000000 in
theorem c_X9_append (σ : bl_S) {S A m R : Nat} (x1 x2 x3 x4 : Int32) (h : isS S A) (hm : σ S 4 = nI m) (hR : σ S 5 = nI R) (hmR : m < R) (hR2 : R ≤ 20) : bl_Con (bl_mi 64) [.ref S, .int x1, .int x2, .int x3, .int x4] σ (some (.int (nI (m + 1)))) (apS σ S A m x1 x2 x3 x4) := by
  obtain ⟨k0, r0, r1, r2, r3, k1, k2, k3, k4, l1, l2, l3, l4⟩ := isS_f h
  obtain ⟨n1, n2, n3, n4⟩ := isS_n h
  have hlt : σ S 4 < σ S 5 := by rw [hm, hR]; exact nI_lt hmR (by omega)
  have hv : vp_in (nI m) 20 := vp_in_nI (by omega) (by omega)
  have hc : Int32.toNatClampNeg (nI m) = m := nI_clamp (by omega)
  have s1 : ∀ d j v, d ≠ S → (bl_up σ d j v) S 4 = nI m := fun d j v z => by rw [bl_up_c (Ne.symm z)]; exact hm
  have s2 : ∀ d j v d' j' v', d ≠ S → d' ≠ S → (bl_up (bl_up σ d j v) d' j' v') S 4 = nI m := fun d j v d' j' v' z z' => by rw [bl_up_c (Ne.symm z'), s1 d j v z]
  have s3 : ∀ d j v d' j' v' d2 j2 v2, d ≠ S → d' ≠ S → d2 ≠ S → (bl_up (bl_up (bl_up σ d j v) d' j' v') d2 j2 v2) S 4 = nI m := fun d j v d' j' v' d2 j2 v2 z z' z2 => by rw [bl_up_c (Ne.symm z2), s2 _ _ _ _ _ _ z z']
  have s4 : ∀ d j v d' j' v' d2 j2 v2 d3 j3 v3, d ≠ S → d' ≠ S → d2 ≠ S → d3 ≠ S → (bl_up (bl_up (bl_up (bl_up σ d j v) d' j' v') d2 j2 v2) d3 j3 v3) S 4 = nI m := fun d j v d' j' v' d2 j2 v2 d3 j3 v3 z z' z2 z3 => by rw [bl_up_c (Ne.symm z3), s3 _ _ _ _ _ _ _ _ _ z z' z2]
  refine bl_c (Nat.le_of_ble_eq_true rfl) (vc_X9_append_0 σ S x1 x2 x3 x4 k0 ⟨fun _ => ?_, fun σ' e => ?_⟩)
  · simp only [r0, r1, r2, r3, l1, l2, l3, l4, hm, hc, s1 A _ _ (by omega), s2 A _ _ (A + 1) _ _ (by omega) (by omega), s3 A _ _ (A + 1) _ _ (A + 2) _ _ (by omega) (by omega) (by omega)]
    exact ⟨k1, hv, k2, hv, k3, hv, k4, hv⟩
  · rw [if_pos hlt] at e
    simp only [r0, r1, r2, r3, hm, hc, s1 A _ _ (by omega), s2 A _ _ (A + 1) _ _ (by omega) (by omega), s3 A _ _ (A + 1) _ _ (A + 2) _ _ (by omega) (by omega) (by omega), s4 A _ _ (A + 1) _ _ (A + 2) _ _ (A + 3) _ _ (by omega) (by omega) (by omega) (by omega), nI_1] at e
    rw [e]
    exact ⟨by rw [bl_up_s], rfl⟩
theorem apS_c {σ : bl_S} {S A m d : Nat} {x1 x2 x3 x4 : Int32} (h1 : d ≠ S) (h2 : d < A ∨ A + 3 < d) : apS σ S A m x1 x2 x3 x4 d = σ d := by
  unfold apS
  rw [bl_up_ne h1, bl_up_ne (by omega), bl_up_ne (by omega), bl_up_ne (by omega), bl_up_ne (by omega)]
theorem apS_j {σ : bl_S} {S A m d j : Nat} {x1 x2 x3 x4 : Int32} (h1 : d ≠ S) (h2 : j ≠ m) : apS σ S A m x1 x2 x3 x4 d j = σ d j := by
  unfold apS
  rw [bl_up_c h1, bl_up_j h2, bl_up_j h2, bl_up_j h2, bl_up_j h2]
theorem apS_0 {σ : bl_S} {S A m : Nat} {x1 x2 x3 x4 : Int32} (h : A ≠ S) : apS σ S A m x1 x2 x3 x4 A m = x1 := by
  unfold apS
  rw [bl_up_c h, bl_up_c (by omega), bl_up_c (by omega), bl_up_c (by omega), bl_up_s]
theorem apS_1 {σ : bl_S} {S A m : Nat} {x1 x2 x3 x4 : Int32} (h : A + 1 ≠ S) : apS σ S A m x1 x2 x3 x4 (A + 1) m = x2 := by
  unfold apS
  rw [bl_up_c h, bl_up_c (by omega), bl_up_c (by omega), bl_up_s]
theorem apS_2 {σ : bl_S} {S A m : Nat} {x1 x2 x3 x4 : Int32} (h : A + 2 ≠ S) : apS σ S A m x1 x2 x3 x4 (A + 2) m = x3 := by
  unfold apS
  rw [bl_up_c h, bl_up_c (by omega), bl_up_s]
theorem apS_3 {σ : bl_S} {S A m : Nat} {x1 x2 x3 x4 : Int32} (h : A + 3 ≠ S) : apS σ S A m x1 x2 x3 x4 (A + 3) m = x4 := by
  unfold apS
  rw [bl_up_c h, bl_up_s]
theorem apS_4 {σ : bl_S} {S A m : Nat} {x1 x2 x3 x4 : Int32} : apS σ S A m x1 x2 x3 x4 S 4 = nI (m + 1) := by
  unfold apS
  rw [bl_up_s]
theorem apS_5 {σ : bl_S} {S A m j : Nat} {x1 x2 x3 x4 : Int32} (h : isS S A) (hj : j ≠ 4) : apS σ S A m x1 x2 x3 x4 S j = σ S j := by
  have := isS_n h
  unfold apS
  rw [bl_up_j hj, bl_up_c (by omega), bl_up_c (by omega), bl_up_c (by omega), bl_up_c (by omega)]
