/-! THE REFERENCE READS: the numbers of a clause, one behind the other -/
/-- behind k numbers: they lie at ρ, ι -/
def NS (T : Nat → Nat) (n i : Nat) (ρ ι : Nat → Nat) (k : Nat) (s0 s : bl_S) : Prop := (∀ d j, d ≠ 1 → (∀ k', k' < k → ¬ (d = ρ k' ∧ j = ι k')) → s d j = s0 d j) ∧ (∀ j, ¬ (24 ≤ j ∧ j ≤ 27) → s 1 j = s0 1 j) ∧ s 1 24 = s0 1 24 ∧ s 1 25 = nI (eK T n i k) ∧ ∀ k', k' < k → s (ρ k') (ι k') = nI (nv T n (sK T n i k'))
/-- behind a fault -/
def NF (q : Nat) (s0 s : bl_S) : Prop := (∀ d, d ≠ 1 → ¬ (117 ≤ d ∧ d ≤ 128) → s d = s0 d) ∧ (∀ j, ¬ (24 ≤ j ∧ j ≤ 27) → s 1 j = s0 1 j) ∧ s 1 24 = nI q
/-- where the numbers may lie -/
def rhoOk (ρ ι : Nat → Nat) (m : Nat) : Prop := (∀ k, k < m → 117 ≤ ρ k ∧ ρ k ≤ 128 ∧ bl_kd (ρ k) = 20 ∧ ι k < bl_ln (ρ k) ∧ bl_ln (ρ k) ≤ 6) ∧ ∀ k k', k < m → k' < m → ρ k = ρ k' → ι k = ι k' → k = k'
theorem stpM {s0 s : bl_S} {T : Nat → Nat} {n w i k m : Nat} {ρ ι : Nat → Nat} (hT : TX 116 T n s0) (h23 : s0 1 23 = nI n) (hi : i ≤ n) (hρ : rhoOk ρ ι m) (hk : k < m) (hm : m ≤ mW w) (hN : NS T n i ρ ι k s0 s) : ∃ τ, ((nf T n (loW w k) (hiW w k) (sK T n i k) = 0 → NS T n i ρ ι (k + 1) s0 τ) ∧ (nf T n (loW w k) (hiW w k) (sK T n i k) ≠ 0 → NF (sK T n i k) s0 τ)) ∧ bl_Con (bl_mi 109) [.ref 1, .ref (ρ k), .int (nI (ι k)), .int (nI (loW w k)), .int (nI (hiW w k))] s (some (.int (nI (nf T n (loW w k) (hiW w k) (sK T n i k))))) τ := by
  obtain ⟨n1, n2, n3, n4, n5⟩ := hN
  obtain ⟨r1, r2, r3, r4, r5⟩ := hρ.1 k hk
  obtain ⟨-, -, -, -, w5⟩ := rW_ok w
  obtain ⟨-, -, w6, w7⟩ := w5 k (by omega)
  have hn := hT.1
  have hTs : TX 116 T n s := ⟨hT.1, hT.2.1, fun j hj => by
    rw [n1 116 j (by omega) (fun k' hk' z => by have := (hρ.1 k' (by omega)).1; omega)]
    exact hT.2.2 j hj⟩
  obtain ⟨τ1, ⟨t1, t2, t3, t4⟩, hC⟩ := tnM (lo := loW w k) (hi := hiW w k) hTs (by rw [n2 23 (by omega)]; exact h23) n4 (eK_b (T := T) hi k).2 w6 w7
  rw [← sK_e] at t3 t4 hC
  refine ⟨bl_up τ1 (ρ k) (ι k) (τ1 1 26), ⟨fun z => ?_, fun z => ?_⟩, bl_c (Nat.le_of_ble_eq_true rfl) (vc_X11_into_0 s (ρ k) _ _ _ r3 ⟨_, _, hC, vp_in_nI r4 (by omega), ?_⟩)⟩
  · obtain ⟨a1, a2, a3⟩ := t3 z
    refine ⟨fun d j z1 z2 => ?_, fun j z1 => by rw [bl_up_c (by omega), t2 j z1]; exact n2 j z1, by rw [bl_up_c (by omega), a1]; exact n3, by rw [bl_up_c (by omega), a2]; rfl, fun k' hk' => ?_⟩
    · have hne : ¬ (d = ρ k ∧ j = ι k) := z2 k (by omega)
      have e : bl_up τ1 (ρ k) (ι k) (τ1 1 26) d j = τ1 d j := if_neg hne
      rw [e, t1 d z1]
      exact n1 d j z1 (fun k' hk' => z2 k' (by omega))
    · by_cases e : k' = k
      · rw [e, bl_up_s, a3]
      · have hne : ¬ (ρ k' = ρ k ∧ ι k' = ι k) := fun y => e (hρ.2 k' k (by omega) hk y.1 y.2)
        have e2 : bl_up τ1 (ρ k) (ι k) (τ1 1 26) (ρ k') (ι k') = τ1 (ρ k') (ι k') := if_neg hne
        have := (hρ.1 k' (by omega)).1
        rw [e2, t1 (ρ k') (by omega)]
        exact n5 k' (by omega)
  · refine ⟨fun d z1 z2 => ?_, fun j z1 => by rw [bl_up_c (by omega), t2 j z1]; exact n2 j z1, by rw [bl_up_c (by omega)]; exact t4 z⟩
    funext j
    rw [bl_up_c (by omega), t1 d z1]
    exact n1 d j z1 (fun k' hk' y => by have := hρ.1 k' (by omega); omega)
  · rw [nI_clamp (show ι k < 2 ^ 31 by omega)]
    exact ⟨rfl, rfl⟩
theorem nfs_go {T : Nat → Nat} {n w i k : Nat} (h : (nfs T n w i k).1 = 0) (h2 : nf T n (loW w k) (hiW w k) (sK T n i k) = 0) : (nfs T n w i (k + 1)).1 = 0 := by
  unfold nfs
  rw [if_pos h, if_pos h2]
theorem nfs_fl {T : Nat → Nat} {n w i k m : Nat} (h : (nfs T n w i k).1 = 0) (h2 : ¬ nf T n (loW w k) (hiW w k) (sK T n i k) = 0) (hk : k < m) : nfs T n w i m = (nf T n (loW w k) (hiW w k) (sK T n i k), sK T n i k) := by
  have e : nfs T n w i (k + 1) = (nf T n (loW w k) (hiW w k) (sK T n i k), sK T n i k) := by
    show (if (nfs T n w i k).1 = 0 then _ else _) = _
    rw [if_pos h, if_neg h2]
  rw [nfs_st (k := k + 1) (by rw [e]; exact h2) m (by omega), e]
theorem NS.z {T : Nat → Nat} {n i : Nat} {ρ ι : Nat → Nat} {s : bl_S} (h25 : s 1 25 = nI i) : NS T n i ρ ι 0 s s := ⟨fun _ _ _ _ => rfl, fun _ _ => rfl, rfl, h25, fun k hk => by omega⟩
theorem pos0 {f : Nat} (h : f = 0) : ¬ (0 : Int32) < nI f := by rw [h]; decide
theorem posn {f : Nat} (h : ¬ f = 0) (h2 : f ≤ 3) : (0 : Int32) < nI f := nI_lt (a := 0) (by omega) (by omega)
theorem rho_law : rhoOk (fun _ => 117) (fun k => k) 3 := by
  refine ⟨fun k hk => ⟨?_, ?_, ?_, ?_, ?_⟩, fun k k' _ _ _ h => h⟩
  · show 117 ≤ 117; omega
  · show 117 ≤ 128; omega
  · show bl_kd 117 = 20; decide
  · show k < 3; exact hk
  · show bl_ln 117 ≤ 6; decide
theorem rho_can : rhoOk (fun _ => 118) (fun k => k) 1 := by
  refine ⟨fun k hk => ⟨?_, ?_, ?_, ?_, ?_⟩, fun k k' _ _ _ h => h⟩
  · show 117 ≤ 118; omega
  · show 118 ≤ 128; omega
  · show bl_kd 118 = 20; decide
  · show k < 1; exact hk
  · show bl_ln 118 ≤ 6; decide
theorem rho_bush {b : Nat} (h : b < 6) : rhoOk (fun k => 119 + k) (fun _ => b) 6 := by
  have h1 : ∀ k, k < 6 → bl_kd (119 + k) = 20 := by decide
  have h2 : ∀ k, k < 6 → bl_ln (119 + k) = 6 := by decide
  refine ⟨fun k hk => ⟨?_, ?_, h1 k hk, ?_, ?_⟩, fun k k' _ _ e _ => ?_⟩
  · show 117 ≤ 119 + k; omega
  · show 119 + k ≤ 128; omega
  · show b < bl_ln (119 + k); rw [h2 k hk]; exact h
  · show bl_ln (119 + k) ≤ 6; rw [h2 k hk]; omega
  · have e : 119 + k = 119 + k' := e
    omega
theorem rho_pick {b : Nat} (h : b < 4) : rhoOk (fun k => 125 + k) (fun _ => b) 4 := by
  have h1 : ∀ k, k < 4 → bl_kd (125 + k) = 20 := by decide
  have h2 : ∀ k, k < 4 → bl_ln (125 + k) = 4 := by decide
  refine ⟨fun k hk => ⟨?_, ?_, h1 k hk, ?_, ?_⟩, fun k k' _ _ e _ => ?_⟩
  · show 117 ≤ 125 + k; omega
  · show 125 + k ≤ 128; omega
  · show b < bl_ln (125 + k); rw [h2 k hk]; exact h
  · show bl_ln (125 + k) ≤ 6; rw [h2 k hk]; omega
  · have e : 125 + k = 125 + k' := e
    omega
theorem lawM {s : bl_S} {T : Nat → Nat} {n i : Nat} (hT : TX 116 T n s) (h23 : s 1 23 = nI n) (h25 : s 1 25 = nI i) (hi : i ≤ n) : ∃ τ, (((nfs T n 108 i 3).1 = 0 → NS T n i (fun _ => 117) (fun k => k) 3 (bl_up s 1 29 1) τ) ∧ ((nfs T n 108 i 3).1 ≠ 0 → NF (nfs T n 108 i 3).2 (bl_up s 1 29 1) τ)) ∧ bl_Con (bl_mi 110) [.ref 1] s (some (.int (nI (nfs T n 108 i 3).1))) τ := by
  obtain ⟨s0, e0⟩ : ∃ s0, s0 = bl_up s 1 29 1 := ⟨_, rfl⟩
  rw [← e0]
  have hT0 : TX 116 T n s0 := ⟨hT.1, hT.2.1, fun j hj => by rw [e0, bl_up_c (by omega)]; exact hT.2.2 j hj⟩
  have h230 : s0 1 23 = nI n := by rw [e0, bl_up_j (by omega)]; exact h23
  have h250 : s0 1 25 = nI i := by rw [e0, bl_up_j (by omega)]; exact h25
  have hρ : rhoOk (fun _ => 117) (fun k => k) 3 := rho_law
  have hm : 3 ≤ mW 108 := Nat.le_of_ble_eq_true rfl
  have N0 : NS T n i (fun _ => 117) (fun k => k) 0 s0 s0 := NS.z h250
  have z0 : (nfs T n 108 i 0).1 = 0 := rfl
  obtain ⟨τ0, ⟨g0, b0⟩, hC0⟩ := stpM (w := 108) (k := 0) hT0 h230 hi hρ (by omega) hm N0
  have l0 := nf_le T n (loW 108 0) (hiW 108 0) (sK T n i 0)
  obtain ⟨f0, ef0⟩ : ∃ f, f = nf T n (loW 108 0) (hiW 108 0) (sK T n i 0) := ⟨_, rfl⟩
  rw [← ef0] at g0 b0 hC0 l0
  have hC0 : bl_Con (bl_mi 109) [.ref 1, .ref 117, .int 0, .int 1, .int 20] s0 (some (.int (nI f0))) τ0 := hC0
  by_cases c0 : f0 = 0
  case neg =>
    have ef : nfs T n 108 i 3 = (f0, sK T n i 0) := by
      rw [ef0]
      exact nfs_fl z0 (by rw [← ef0]; exact c0) (by omega)
    rw [ef]
    generalize sK T n i 0 = qq at *
    refine ⟨τ0, ⟨fun z => absurd z c0, fun _ => b0 c0⟩, bl_c (Nat.le_of_ble_eq_true rfl) (vc_X11_takeLaw_0 s ?_)⟩
    rw [← e0]
    exact ⟨_, _, hC0, fun _ => ⟨rfl, rfl⟩, fun z => absurd (posn c0 (by omega)) z⟩
  have N1 := g0 c0
  have z1 : (nfs T n 108 i 1).1 = 0 := nfs_go z0 (by rw [← ef0]; exact c0)
  obtain ⟨τ1, ⟨g1, b1⟩, hC1⟩ := stpM (w := 108) (k := 1) hT0 h230 hi hρ (by omega) hm N1
  have l1 := nf_le T n (loW 108 1) (hiW 108 1) (sK T n i 1)
  obtain ⟨f1, ef1⟩ : ∃ f, f = nf T n (loW 108 1) (hiW 108 1) (sK T n i 1) := ⟨_, rfl⟩
  rw [← ef1] at g1 b1 hC1 l1
  have hC1 : bl_Con (bl_mi 109) [.ref 1, .ref 117, .int 1, .int 1, .int 20] τ0 (some (.int (nI f1))) τ1 := hC1
  by_cases c1 : f1 = 0
  case neg =>
    have ef : nfs T n 108 i 3 = (f1, sK T n i 1) := by
      rw [ef1]
      exact nfs_fl z1 (by rw [← ef1]; exact c1) (by omega)
    rw [ef]
    generalize sK T n i 1 = qq at *
    refine ⟨τ1, ⟨fun z => absurd z c1, fun _ => b1 c1⟩, bl_c (Nat.le_of_ble_eq_true rfl) (vc_X11_takeLaw_0 s ?_)⟩
    rw [← e0]
    exact ⟨_, _, hC0, fun z => absurd z (pos0 c0), fun _ => ⟨_, _, hC1, fun _ => ⟨rfl, rfl⟩, fun z => absurd (posn c1 (by omega)) z⟩⟩
  have N2 := g1 c1
  have z2 : (nfs T n 108 i 2).1 = 0 := nfs_go z1 (by rw [← ef1]; exact c1)
  obtain ⟨τ2, ⟨g2, b2⟩, hC2⟩ := stpM (w := 108) (k := 2) hT0 h230 hi hρ (by omega) hm N2
  have l2 := nf_le T n (loW 108 2) (hiW 108 2) (sK T n i 2)
  obtain ⟨f2, ef2⟩ : ∃ f, f = nf T n (loW 108 2) (hiW 108 2) (sK T n i 2) := ⟨_, rfl⟩
  rw [← ef2] at g2 b2 hC2 l2
  have hC2 : bl_Con (bl_mi 109) [.ref 1, .ref 117, .int 2, .int 1, .int 20] τ1 (some (.int (nI f2))) τ2 := hC2
  by_cases c2 : f2 = 0
  case neg =>
    have ef : nfs T n 108 i 3 = (f2, sK T n i 2) := by
      rw [ef2]
      exact nfs_fl z2 (by rw [← ef2]; exact c2) (by omega)
    rw [ef]
    generalize sK T n i 2 = qq at *
    refine ⟨τ2, ⟨fun z => absurd z c2, fun _ => b2 c2⟩, bl_c (Nat.le_of_ble_eq_true rfl) (vc_X11_takeLaw_0 s ?_)⟩
    rw [← e0]
    exact ⟨_, _, hC0, fun z => absurd z (pos0 c0), fun _ => ⟨_, _, hC1, fun z => absurd z (pos0 c1), fun _ => ⟨_, _, hC2, rfl, rfl⟩⟩⟩
  have N3 := g2 c2
  have z3 : (nfs T n 108 i 3).1 = 0 := nfs_go z2 (by rw [← ef2]; exact c2)
  rw [z3]
  rw [c2] at hC2
  refine ⟨τ2, ⟨fun _ => N3, fun z => absurd rfl z⟩, bl_c (Nat.le_of_ble_eq_true rfl) (vc_X11_takeLaw_0 s ?_)⟩
  rw [← e0]
  exact ⟨_, _, hC0, fun z => absurd z (pos0 c0), fun _ => ⟨_, _, hC1, fun z => absurd z (pos0 c1), fun _ => ⟨_, _, hC2, rfl, rfl⟩⟩⟩
theorem bushM {s : bl_S} {T : Nat → Nat} {n i b : Nat} (hT : TX 116 T n s) (h23 : s 1 23 = nI n) (h25 : s 1 25 = nI i) (hi : i ≤ n) (hb6 : b < 6) (hb3 : s 1 31 = nI b) : ∃ τ, (((nfs T n 98 i 6).1 = 0 → NS T n i (fun k => 119 + k) (fun _ => b) 6 (bl_up s 1 31 (nI (b + 1))) τ) ∧ ((nfs T n 98 i 6).1 ≠ 0 → NF (nfs T n 98 i 6).2 (bl_up s 1 31 (nI (b + 1))) τ)) ∧ bl_Con (bl_mi 111) [.ref 1] s (some (.int (nI (nfs T n 98 i 6).1))) τ := by
  obtain ⟨s0, e0⟩ : ∃ s0, s0 = bl_up s 1 31 (nI (b + 1)) := ⟨_, rfl⟩
  rw [← e0]
  have hT0 : TX 116 T n s0 := ⟨hT.1, hT.2.1, fun j hj => by rw [e0, bl_up_c (by omega)]; exact hT.2.2 j hj⟩
  have h230 : s0 1 23 = nI n := by rw [e0, bl_up_j (by omega)]; exact h23
  have h250 : s0 1 25 = nI i := by rw [e0, bl_up_j (by omega)]; exact h25
  have hρ : rhoOk (fun k => 119 + k) (fun _ => b) 6 := rho_bush hb6
  have hm : 6 ≤ mW 98 := Nat.le_of_ble_eq_true rfl
  have N0 : NS T n i (fun k => 119 + k) (fun _ => b) 0 s0 s0 := NS.z h250
  have z0 : (nfs T n 98 i 0).1 = 0 := rfl
  obtain ⟨τ0, ⟨g0, b0⟩, hC0⟩ := stpM (w := 98) (k := 0) hT0 h230 hi hρ (by omega) hm N0
  have l0 := nf_le T n (loW 98 0) (hiW 98 0) (sK T n i 0)
  obtain ⟨f0, ef0⟩ : ∃ f, f = nf T n (loW 98 0) (hiW 98 0) (sK T n i 0) := ⟨_, rfl⟩
  rw [← ef0] at g0 b0 hC0 l0
  have hC0 : bl_Con (bl_mi 109) [.ref 1, .ref 119, .int (nI b), .int 0, .int 99] s0 (some (.int (nI f0))) τ0 := hC0
  by_cases c0 : f0 = 0
  case neg =>
    have ef : nfs T n 98 i 6 = (f0, sK T n i 0) := by
      rw [ef0]
      exact nfs_fl z0 (by rw [← ef0]; exact c0) (by omega)
    rw [ef]
    generalize sK T n i 0 = qq at *
    refine ⟨τ0, ⟨fun z => absurd z c0, fun _ => b0 c0⟩, bl_c (Nat.le_of_ble_eq_true rfl) (vc_X11_takeBush_0 s ?_)⟩
    rw [hb3, nI_1, ← e0]
    exact ⟨_, _, hC0, fun _ => ⟨rfl, rfl⟩, fun z => absurd (posn c0 (by omega)) z⟩
  have N1 := g0 c0
  have z1 : (nfs T n 98 i 1).1 = 0 := nfs_go z0 (by rw [← ef0]; exact c0)
  obtain ⟨τ1, ⟨g1, b1⟩, hC1⟩ := stpM (w := 98) (k := 1) hT0 h230 hi hρ (by omega) hm N1
  have l1 := nf_le T n (loW 98 1) (hiW 98 1) (sK T n i 1)
  obtain ⟨f1, ef1⟩ : ∃ f, f = nf T n (loW 98 1) (hiW 98 1) (sK T n i 1) := ⟨_, rfl⟩
  rw [← ef1] at g1 b1 hC1 l1
  have hC1 : bl_Con (bl_mi 109) [.ref 1, .ref 120, .int (nI b), .int 0, .int 1] τ0 (some (.int (nI f1))) τ1 := hC1
  by_cases c1 : f1 = 0
  case neg =>
    have ef : nfs T n 98 i 6 = (f1, sK T n i 1) := by
      rw [ef1]
      exact nfs_fl z1 (by rw [← ef1]; exact c1) (by omega)
    rw [ef]
    generalize sK T n i 1 = qq at *
    refine ⟨τ1, ⟨fun z => absurd z c1, fun _ => b1 c1⟩, bl_c (Nat.le_of_ble_eq_true rfl) (vc_X11_takeBush_0 s ?_)⟩
    rw [hb3, nI_1, ← e0]
    exact ⟨_, _, hC0, fun z => absurd z (pos0 c0), fun _ => ⟨_, _, hC1, fun _ => ⟨rfl, rfl⟩, fun z => absurd (posn c1 (by omega)) z⟩⟩
  have N2 := g1 c1
  have z2 : (nfs T n 98 i 2).1 = 0 := nfs_go z1 (by rw [← ef1]; exact c1)
  obtain ⟨τ2, ⟨g2, b2⟩, hC2⟩ := stpM (w := 98) (k := 2) hT0 h230 hi hρ (by omega) hm N2
  have l2 := nf_le T n (loW 98 2) (hiW 98 2) (sK T n i 2)
  obtain ⟨f2, ef2⟩ : ∃ f, f = nf T n (loW 98 2) (hiW 98 2) (sK T n i 2) := ⟨_, rfl⟩
  rw [← ef2] at g2 b2 hC2 l2
  have hC2 : bl_Con (bl_mi 109) [.ref 1, .ref 121, .int (nI b), .int 0, .int 3] τ1 (some (.int (nI f2))) τ2 := hC2
  by_cases c2 : f2 = 0
  case neg =>
    have ef : nfs T n 98 i 6 = (f2, sK T n i 2) := by
      rw [ef2]
      exact nfs_fl z2 (by rw [← ef2]; exact c2) (by omega)
    rw [ef]
    generalize sK T n i 2 = qq at *
    refine ⟨τ2, ⟨fun z => absurd z c2, fun _ => b2 c2⟩, bl_c (Nat.le_of_ble_eq_true rfl) (vc_X11_takeBush_0 s ?_)⟩
    rw [hb3, nI_1, ← e0]
    exact ⟨_, _, hC0, fun z => absurd z (pos0 c0), fun _ => ⟨_, _, hC1, fun z => absurd z (pos0 c1), fun _ => ⟨_, _, hC2, fun _ => ⟨rfl, rfl⟩, fun z => absurd (posn c2 (by omega)) z⟩⟩⟩
  have N3 := g2 c2
  have z3 : (nfs T n 98 i 3).1 = 0 := nfs_go z2 (by rw [← ef2]; exact c2)
  obtain ⟨τ3, ⟨g3, b3⟩, hC3⟩ := stpM (w := 98) (k := 3) hT0 h230 hi hρ (by omega) hm N3
  have l3 := nf_le T n (loW 98 3) (hiW 98 3) (sK T n i 3)
  obtain ⟨f3, ef3⟩ : ∃ f, f = nf T n (loW 98 3) (hiW 98 3) (sK T n i 3) := ⟨_, rfl⟩
  rw [← ef3] at g3 b3 hC3 l3
  have hC3 : bl_Con (bl_mi 109) [.ref 1, .ref 122, .int (nI b), .int 0, .int 300] τ2 (some (.int (nI f3))) τ3 := hC3
  by_cases c3 : f3 = 0
  case neg =>
    have ef : nfs T n 98 i 6 = (f3, sK T n i 3) := by
      rw [ef3]
      exact nfs_fl z3 (by rw [← ef3]; exact c3) (by omega)
    rw [ef]
    generalize sK T n i 3 = qq at *
    refine ⟨τ3, ⟨fun z => absurd z c3, fun _ => b3 c3⟩, bl_c (Nat.le_of_ble_eq_true rfl) (vc_X11_takeBush_0 s ?_)⟩
    rw [hb3, nI_1, ← e0]
    exact ⟨_, _, hC0, fun z => absurd z (pos0 c0), fun _ => ⟨_, _, hC1, fun z => absurd z (pos0 c1), fun _ => ⟨_, _, hC2, fun z => absurd z (pos0 c2), fun _ => ⟨_, _, hC3, fun _ => ⟨rfl, rfl⟩, fun z => absurd (posn c3 (by omega)) z⟩⟩⟩⟩
  have N4 := g3 c3
  have z4 : (nfs T n 98 i 4).1 = 0 := nfs_go z3 (by rw [← ef3]; exact c3)
  obtain ⟨τ4, ⟨g4, b4⟩, hC4⟩ := stpM (w := 98) (k := 4) hT0 h230 hi hρ (by omega) hm N4
  have l4 := nf_le T n (loW 98 4) (hiW 98 4) (sK T n i 4)
  obtain ⟨f4, ef4⟩ : ∃ f, f = nf T n (loW 98 4) (hiW 98 4) (sK T n i 4) := ⟨_, rfl⟩
  rw [← ef4] at g4 b4 hC4 l4
  have hC4 : bl_Con (bl_mi 109) [.ref 1, .ref 123, .int (nI b), .int 0, .int 300] τ3 (some (.int (nI f4))) τ4 := hC4
  by_cases c4 : f4 = 0
  case neg =>
    have ef : nfs T n 98 i 6 = (f4, sK T n i 4) := by
      rw [ef4]
      exact nfs_fl z4 (by rw [← ef4]; exact c4) (by omega)
    rw [ef]
    generalize sK T n i 4 = qq at *
    refine ⟨τ4, ⟨fun z => absurd z c4, fun _ => b4 c4⟩, bl_c (Nat.le_of_ble_eq_true rfl) (vc_X11_takeBush_0 s ?_)⟩
    rw [hb3, nI_1, ← e0]
    exact ⟨_, _, hC0, fun z => absurd z (pos0 c0), fun _ => ⟨_, _, hC1, fun z => absurd z (pos0 c1), fun _ => ⟨_, _, hC2, fun z => absurd z (pos0 c2), fun _ => ⟨_, _, hC3, fun z => absurd z (pos0 c3), fun _ => ⟨_, _, hC4, fun _ => ⟨rfl, rfl⟩, fun z => absurd (posn c4 (by omega)) z⟩⟩⟩⟩⟩
  have N5 := g4 c4
  have z5 : (nfs T n 98 i 5).1 = 0 := nfs_go z4 (by rw [← ef4]; exact c4)
  obtain ⟨τ5, ⟨g5, b5⟩, hC5⟩ := stpM (w := 98) (k := 5) hT0 h230 hi hρ (by omega) hm N5
  have l5 := nf_le T n (loW 98 5) (hiW 98 5) (sK T n i 5)
  obtain ⟨f5, ef5⟩ : ∃ f, f = nf T n (loW 98 5) (hiW 98 5) (sK T n i 5) := ⟨_, rfl⟩
  rw [← ef5] at g5 b5 hC5 l5
  have hC5 : bl_Con (bl_mi 109) [.ref 1, .ref 124, .int (nI b), .int 0, .int 300] τ4 (some (.int (nI f5))) τ5 := hC5
  by_cases c5 : f5 = 0
  case neg =>
    have ef : nfs T n 98 i 6 = (f5, sK T n i 5) := by
      rw [ef5]
      exact nfs_fl z5 (by rw [← ef5]; exact c5) (by omega)
    rw [ef]
    generalize sK T n i 5 = qq at *
    refine ⟨τ5, ⟨fun z => absurd z c5, fun _ => b5 c5⟩, bl_c (Nat.le_of_ble_eq_true rfl) (vc_X11_takeBush_0 s ?_)⟩
    rw [hb3, nI_1, ← e0]
    exact ⟨_, _, hC0, fun z => absurd z (pos0 c0), fun _ => ⟨_, _, hC1, fun z => absurd z (pos0 c1), fun _ => ⟨_, _, hC2, fun z => absurd z (pos0 c2), fun _ => ⟨_, _, hC3, fun z => absurd z (pos0 c3), fun _ => ⟨_, _, hC4, fun z => absurd z (pos0 c4), fun _ => ⟨_, _, hC5, rfl, rfl⟩⟩⟩⟩⟩⟩
  have N6 := g5 c5
  have z6 : (nfs T n 98 i 6).1 = 0 := nfs_go z5 (by rw [← ef5]; exact c5)
  rw [z6]
  rw [c5] at hC5
  refine ⟨τ5, ⟨fun _ => N6, fun z => absurd rfl z⟩, bl_c (Nat.le_of_ble_eq_true rfl) (vc_X11_takeBush_0 s ?_)⟩
  rw [hb3, nI_1, ← e0]
  exact ⟨_, _, hC0, fun z => absurd z (pos0 c0), fun _ => ⟨_, _, hC1, fun z => absurd z (pos0 c1), fun _ => ⟨_, _, hC2, fun z => absurd z (pos0 c2), fun _ => ⟨_, _, hC3, fun z => absurd z (pos0 c3), fun _ => ⟨_, _, hC4, fun z => absurd z (pos0 c4), fun _ => ⟨_, _, hC5, rfl, rfl⟩⟩⟩⟩⟩⟩
theorem pickM {s : bl_S} {T : Nat → Nat} {n i b : Nat} (hT : TX 116 T n s) (h23 : s 1 23 = nI n) (h25 : s 1 25 = nI i) (hi : i ≤ n) (hb6 : b < 4) (hb3 : s 1 38 = nI b) : ∃ τ, (((nfs T n 112 i 4).1 = 0 → NS T n i (fun k => 125 + k) (fun _ => b) 4 (bl_up s 1 38 (nI (b + 1))) τ) ∧ ((nfs T n 112 i 4).1 ≠ 0 → NF (nfs T n 112 i 4).2 (bl_up s 1 38 (nI (b + 1))) τ)) ∧ bl_Con (bl_mi 112) [.ref 1] s (some (.int (nI (nfs T n 112 i 4).1))) τ := by
  obtain ⟨s0, e0⟩ : ∃ s0, s0 = bl_up s 1 38 (nI (b + 1)) := ⟨_, rfl⟩
  rw [← e0]
  have hT0 : TX 116 T n s0 := ⟨hT.1, hT.2.1, fun j hj => by rw [e0, bl_up_c (by omega)]; exact hT.2.2 j hj⟩
  have h230 : s0 1 23 = nI n := by rw [e0, bl_up_j (by omega)]; exact h23
  have h250 : s0 1 25 = nI i := by rw [e0, bl_up_j (by omega)]; exact h25
  have hρ : rhoOk (fun k => 125 + k) (fun _ => b) 4 := rho_pick hb6
  have hm : 4 ≤ mW 112 := Nat.le_of_ble_eq_true rfl
  have N0 : NS T n i (fun k => 125 + k) (fun _ => b) 0 s0 s0 := NS.z h250
  have z0 : (nfs T n 112 i 0).1 = 0 := rfl
  obtain ⟨τ0, ⟨g0, b0⟩, hC0⟩ := stpM (w := 112) (k := 0) hT0 h230 hi hρ (by omega) hm N0
  have l0 := nf_le T n (loW 112 0) (hiW 112 0) (sK T n i 0)
  obtain ⟨f0, ef0⟩ : ∃ f, f = nf T n (loW 112 0) (hiW 112 0) (sK T n i 0) := ⟨_, rfl⟩
  rw [← ef0] at g0 b0 hC0 l0
  have hC0 : bl_Con (bl_mi 109) [.ref 1, .ref 125, .int (nI b), .int 0, .int 99] s0 (some (.int (nI f0))) τ0 := hC0
  by_cases c0 : f0 = 0
  case neg =>
    have ef : nfs T n 112 i 4 = (f0, sK T n i 0) := by
      rw [ef0]
      exact nfs_fl z0 (by rw [← ef0]; exact c0) (by omega)
    rw [ef]
    generalize sK T n i 0 = qq at *
    refine ⟨τ0, ⟨fun z => absurd z c0, fun _ => b0 c0⟩, bl_c (Nat.le_of_ble_eq_true rfl) (vc_X11_takePicker_0 s ?_)⟩
    rw [hb3, nI_1, ← e0]
    exact ⟨_, _, hC0, fun _ => ⟨rfl, rfl⟩, fun z => absurd (posn c0 (by omega)) z⟩
  have N1 := g0 c0
  have z1 : (nfs T n 112 i 1).1 = 0 := nfs_go z0 (by rw [← ef0]; exact c0)
  obtain ⟨τ1, ⟨g1, b1⟩, hC1⟩ := stpM (w := 112) (k := 1) hT0 h230 hi hρ (by omega) hm N1
  have l1 := nf_le T n (loW 112 1) (hiW 112 1) (sK T n i 1)
  obtain ⟨f1, ef1⟩ : ∃ f, f = nf T n (loW 112 1) (hiW 112 1) (sK T n i 1) := ⟨_, rfl⟩
  rw [← ef1] at g1 b1 hC1 l1
  have hC1 : bl_Con (bl_mi 109) [.ref 1, .ref 126, .int (nI b), .int 1, .int 20] τ0 (some (.int (nI f1))) τ1 := hC1
  by_cases c1 : f1 = 0
  case neg =>
    have ef : nfs T n 112 i 4 = (f1, sK T n i 1) := by
      rw [ef1]
      exact nfs_fl z1 (by rw [← ef1]; exact c1) (by omega)
    rw [ef]
    generalize sK T n i 1 = qq at *
    refine ⟨τ1, ⟨fun z => absurd z c1, fun _ => b1 c1⟩, bl_c (Nat.le_of_ble_eq_true rfl) (vc_X11_takePicker_0 s ?_)⟩
    rw [hb3, nI_1, ← e0]
    exact ⟨_, _, hC0, fun z => absurd z (pos0 c0), fun _ => ⟨_, _, hC1, fun _ => ⟨rfl, rfl⟩, fun z => absurd (posn c1 (by omega)) z⟩⟩
  have N2 := g1 c1
  have z2 : (nfs T n 112 i 2).1 = 0 := nfs_go z1 (by rw [← ef1]; exact c1)
  obtain ⟨τ2, ⟨g2, b2⟩, hC2⟩ := stpM (w := 112) (k := 2) hT0 h230 hi hρ (by omega) hm N2
  have l2 := nf_le T n (loW 112 2) (hiW 112 2) (sK T n i 2)
  obtain ⟨f2, ef2⟩ : ∃ f, f = nf T n (loW 112 2) (hiW 112 2) (sK T n i 2) := ⟨_, rfl⟩
  rw [← ef2] at g2 b2 hC2 l2
  have hC2 : bl_Con (bl_mi 109) [.ref 1, .ref 127, .int (nI b), .int 0, .int 9] τ1 (some (.int (nI f2))) τ2 := hC2
  by_cases c2 : f2 = 0
  case neg =>
    have ef : nfs T n 112 i 4 = (f2, sK T n i 2) := by
      rw [ef2]
      exact nfs_fl z2 (by rw [← ef2]; exact c2) (by omega)
    rw [ef]
    generalize sK T n i 2 = qq at *
    refine ⟨τ2, ⟨fun z => absurd z c2, fun _ => b2 c2⟩, bl_c (Nat.le_of_ble_eq_true rfl) (vc_X11_takePicker_0 s ?_)⟩
    rw [hb3, nI_1, ← e0]
    exact ⟨_, _, hC0, fun z => absurd z (pos0 c0), fun _ => ⟨_, _, hC1, fun z => absurd z (pos0 c1), fun _ => ⟨_, _, hC2, fun _ => ⟨rfl, rfl⟩, fun z => absurd (posn c2 (by omega)) z⟩⟩⟩
  have N3 := g2 c2
  have z3 : (nfs T n 112 i 3).1 = 0 := nfs_go z2 (by rw [← ef2]; exact c2)
  obtain ⟨τ3, ⟨g3, b3⟩, hC3⟩ := stpM (w := 112) (k := 3) hT0 h230 hi hρ (by omega) hm N3
  have l3 := nf_le T n (loW 112 3) (hiW 112 3) (sK T n i 3)
  obtain ⟨f3, ef3⟩ : ∃ f, f = nf T n (loW 112 3) (hiW 112 3) (sK T n i 3) := ⟨_, rfl⟩
  rw [← ef3] at g3 b3 hC3 l3
  have hC3 : bl_Con (bl_mi 109) [.ref 1, .ref 128, .int (nI b), .int 0, .int 1] τ2 (some (.int (nI f3))) τ3 := hC3
  by_cases c3 : f3 = 0
  case neg =>
    have ef : nfs T n 112 i 4 = (f3, sK T n i 3) := by
      rw [ef3]
      exact nfs_fl z3 (by rw [← ef3]; exact c3) (by omega)
    rw [ef]
    generalize sK T n i 3 = qq at *
    refine ⟨τ3, ⟨fun z => absurd z c3, fun _ => b3 c3⟩, bl_c (Nat.le_of_ble_eq_true rfl) (vc_X11_takePicker_0 s ?_)⟩
    rw [hb3, nI_1, ← e0]
    exact ⟨_, _, hC0, fun z => absurd z (pos0 c0), fun _ => ⟨_, _, hC1, fun z => absurd z (pos0 c1), fun _ => ⟨_, _, hC2, fun z => absurd z (pos0 c2), fun _ => ⟨_, _, hC3, rfl, rfl⟩⟩⟩⟩
  have N4 := g3 c3
  have z4 : (nfs T n 112 i 4).1 = 0 := nfs_go z3 (by rw [← ef3]; exact c3)
  rw [z4]
  rw [c3] at hC3
  refine ⟨τ3, ⟨fun _ => N4, fun z => absurd rfl z⟩, bl_c (Nat.le_of_ble_eq_true rfl) (vc_X11_takePicker_0 s ?_)⟩
  rw [hb3, nI_1, ← e0]
  exact ⟨_, _, hC0, fun z => absurd z (pos0 c0), fun _ => ⟨_, _, hC1, fun z => absurd z (pos0 c1), fun _ => ⟨_, _, hC2, fun z => absurd z (pos0 c2), fun _ => ⟨_, _, hC3, rfl, rfl⟩⟩⟩⟩
theorem canM {s : bl_S} {T : Nat → Nat} {n i : Nat} (hT : TX 116 T n s) (h23 : s 1 23 = nI n) (h25 : s 1 25 = nI i) (hi : i ≤ n) : ∃ τ, (((nfs T n 99 i 1).1 = 0 → NS T n i (fun _ => 118) (fun k => k) 1 s τ) ∧ ((nfs T n 99 i 1).1 ≠ 0 → NF (nfs T n 99 i 1).2 s τ)) ∧ bl_Con (bl_mi 109) [.ref 1, .ref 118, .int 0, .int 1, .int 999] s (some (.int (nI (nfs T n 99 i 1).1))) τ := by
  have hρ := rho_can
  have hm : 1 ≤ mW 99 := Nat.le_of_ble_eq_true rfl
  obtain ⟨τ0, ⟨g0, b0⟩, hC0⟩ := stpM (w := 99) (k := 0) hT h23 hi hρ (by omega) hm (NS.z h25)
  have hC0 : bl_Con (bl_mi 109) [.ref 1, .ref 118, .int 0, .int 1, .int 999] s (some (.int (nI (nf T n (loW 99 0) (hiW 99 0) (sK T n i 0))))) τ0 := hC0
  by_cases c0 : nf T n (loW 99 0) (hiW 99 0) (sK T n i 0) = 0
  · have z1 : (nfs T n 99 i 1).1 = 0 := nfs_go (k := 0) rfl c0
    rw [z1]
    rw [c0] at hC0
    exact ⟨τ0, ⟨fun _ => g0 c0, fun z => absurd rfl z⟩, hC0⟩
  · have ef : nfs T n 99 i 1 = _ := nfs_fl (k := 0) (m := 1) rfl c0 (by omega)
    rw [ef]
    exact ⟨τ0, ⟨fun z => absurd z c0, fun _ => b0 c0⟩, hC0⟩
