/-! PAIRS, the plain ones -/
theorem ntb {b : Nat} (h : b < 6) : Int32.toNatClampNeg (nI b) = b := nI_clamp (by omega)
theorem ntp {p : Nat} (h : p < 4) : Int32.toNatClampNeg (nI p) = p := nI_clamp (by omega)
theorem vib {b : Nat} (h : b < 6) : vp_in (nI b) 6 := vp_in_nI h (by omega)
theorem vip {p : Nat} (h : p < 4) : vp_in (nI p) 4 := vp_in_nI h (by omega)
theorem kdb : ∀ b, b < 6 → bl_kd (14 + b) = 1 := by decide
theorem kdp : ∀ p, p < 4 → bl_kd (20 + p) = 5 := by decide
theorem g71 {nb np : Nat} {σ : bl_S} (hl : Jl nb np σ) (x : Int32) : bl_Con (bl_mi 71) [.ref 0, .int x] σ (some (.int (wi x 0 (nI np - 1)))) σ := by
  have := c_X10_isPicker σ x
  rwa [hl.2.2.2.2.1] at this
theorem g69 {nb np : Nat} {σ : bl_S} (hl : Jl nb np σ) (x : Int32) : bl_Con (bl_mi 69) [.ref 0, .int x] σ (some (.int (wi x 0 (nI nb - 1)))) σ := by
  have := c_X10_isBush σ x
  rwa [hl.2.2.1] at this
theorem g104 {nb np : Nat} {σ : bl_S} (hl : Jl nb np σ) (x : Int32) : bl_Con (bl_mi 104) [.ref 1, .int x] σ (some (.int (wi x 0 (nI np - 1)))) σ := by
  have := c_X11_isPicker σ x
  rwa [hl.2.2.2.2.2.1] at this
theorem g103 {nb np : Nat} {σ : bl_S} (hl : Jl nb np σ) (x : Int32) : bl_Con (bl_mi 103) [.ref 1, .int x] σ (some (.int (wi x 0 (nI nb - 1)))) σ := by
  have := c_X11_isBush σ x
  rwa [hl.2.2.2.1] at this
/-- sums over a row -/
def sm (f : Nat → Int32) : Nat → Int32
  | 0 => 0
  | n + 1 => sm f n + f n
theorem sm_eq {f g : Nat → Int32} : ∀ {n : Nat}, (∀ i, i < n → f i = g i) → sm f n = sm g n
  | 0, _ => rfl
  | n + 1, h => by
    show sm f n + f n = sm g n + g n
    rw [sm_eq (fun i hi => h i (by omega)), h n (by omega)]
/-- the four lanes: 10, 24, 38, 52 -/
def isL (L : Nat) : Prop := L = 10 ∨ L = 24 ∨ L = 38 ∨ L = 52
theorem isL_kd {L : Nat} (h : isL L) : bl_kd L = 3 ∧ bl_rf L 0 = L + 1 ∧ bl_rf L 1 = L + 2 ∧ bl_rf L 2 = L + 3 ∧ bl_kd (L + 1) = 4 ∧ bl_kd (L + 2) = 23 ∧ bl_kd (L + 3) = 24 ∧ bl_ln (L + 2) = 6 ∧ bl_ln (L + 3) = 4 := by
  rcases h with rfl | rfl | rfl | rfl <;> exact ⟨rfl, rfl, rfl, rfl, rfl, rfl, rfl, rfl, rfl⟩
theorem isL_b {L : Nat} (h : isL L) (j : Nat) : bl_rf (L + 2) j = L + 4 + j := by
  rcases h with rfl | rfl | rfl | rfl <;> rfl
theorem isL_p {L : Nat} (h : isL L) (j : Nat) : bl_rf (L + 3) j = L + 10 + j := by
  rcases h with rfl | rfl | rfl | rfl <;> rfl
theorem isL_kb {L : Nat} (h : isL L) : ∀ j, j < 6 → bl_kd (L + 4 + j) = 1 := by
  rcases h with rfl | rfl | rfl | rfl <;> decide
theorem isL_kp {L : Nat} (h : isL L) : ∀ j, j < 4 → bl_kd (L + 10 + j) = 5 := by
  rcases h with rfl | rfl | rfl | rfl <;> decide
theorem c_X3_ripeInAll (σ : bl_S) {L n : Nat} (hL : isL L) (hn : n ≤ 6) (h : σ L 3 = nI n) : bl_Con (bl_mi 28) [.ref L] σ (some (.int (sm (fun b => σ (L + 4 + b) 4) n))) σ := by
  obtain ⟨k1, k2, k3, k4, k5, k6, k7, k8, k9⟩ := isL_kd hL
  refine bl_c (Nat.le_of_ble_eq_true rfl) (vc_X3_ripeInAll_0 σ L k1 ?_)
  refine bl_dn (N := n) (P := fun i => bl_Wx (bl_mi 28) 4 [(0, .ref L), (1, .int (sm (fun b => σ (L + 4 + b) 4) i)), (2, .int (nI i))] [] σ (fun v τ => v = some (.int (sm (fun b => σ (L + 4 + b) 4) n)) ∧ τ = σ)) ?_ ?_
  · refine vc_X3_ripeInAll_4 σ L _ _ k1 ⟨fun q => absurd q ?_, fun _ => ⟨rfl, rfl⟩⟩
    rw [h]
    exact nI_nlt (Nat.le_refl n) (by omega)
  · intro i hi ih
    refine vc_X3_ripeInAll_4 σ L _ _ k1 ⟨fun _ => ?_, fun q => absurd (by rw [h]; exact nI_lt hi (by omega)) q⟩
    rw [k3, isL_b hL, ntb (by omega), k8]
    refine ⟨k6, vib (by omega), isL_kb hL i (by omega), fun v e => ?_⟩
    rw [e, nI_1]
    exact ih
theorem c_X11_ripeInAll (σ : bl_S) {n : Nat} (hn : n ≤ 6) (h : σ 1 4 = nI n) : bl_Con (bl_mi 117) [.ref 1] σ (some (.int (sm (fun b => σ 106 b) n))) σ := by
  refine bl_c (Nat.le_of_ble_eq_true rfl) (vc_X11_ripeInAll_0 σ ?_)
  refine bl_dn (N := n) (P := fun i => bl_Wx (bl_mi 117) 4 [(0, .ref 1), (1, .int (sm (fun b => σ 106 b) i)), (2, .int (nI i))] [] σ (fun v τ => v = some (.int (sm (fun b => σ 106 b) n)) ∧ τ = σ)) ?_ ?_
  · refine vc_X11_ripeInAll_4 σ _ _ ⟨fun q => absurd q ?_, fun _ => ⟨rfl, rfl⟩⟩
    rw [h]
    exact nI_nlt (Nat.le_refl n) (by omega)
  · intro i hi ih
    refine vc_X11_ripeInAll_4 σ _ _ ⟨fun _ => ⟨vib (by omega), ?_⟩, fun q => absurd (by rw [h]; exact nI_lt hi (by omega)) q⟩
    rw [ntb (by omega), nI_1]
    exact ih
/-- ripe berries in all: the same on both sides -/
theorem sm_ripe {nb : Nat} {σ : bl_S} (hb : Jb nb σ) : sm (fun b => σ (10 + 4 + b) 4) nb = sm (fun b => σ 106 b) nb := sm_eq (fun i hi => (hb i hi).1 4 (by omega))
theorem pr_fault {σ : bl_S} (h : Inv σ) : Pr 67 116 [] σ := by
  obtain ⟨nb, np, nt, a, b, c, hl, hb, hp, hz, ht, hs, hm⟩ := id h
  exact ⟨σ 0 10, σ, σ, bl_c (Nat.le_of_ble_eq_true rfl) (vc_X10_fault_0 σ ⟨rfl, rfl⟩), bl_c (Nat.le_of_ble_eq_true rfl) (vc_X11_fault_0 σ ⟨by rw [ht.2.2.2.2], rfl⟩), h⟩
theorem pr_told {σ : bl_S} (h : Inv σ) (x : Int32) : Pr 68 118 [.int x] σ := by
  obtain ⟨nb, np, nt, a, b, c, hl, hb, hp, hz, ht, hs, hm⟩ := id h
  by_cases n0 : x = 0
  · subst n0
    exact ⟨σ 11 0, σ, σ, bl_c (Nat.le_of_ble_eq_true rfl) (vc_X10_told_0 σ _ ⟨fun _ => ⟨rfl, rfl⟩, fun q => absurd rfl q⟩), bl_c (Nat.le_of_ble_eq_true rfl) (vc_X11_told_0 σ _ ⟨fun _ => ⟨by rw [show σ 11 0 = _ from (hl.2.2.2.2.2.2.1 0 (by omega))], rfl⟩, fun q => absurd rfl q⟩), h⟩
  by_cases n1 : x = 1
  · subst n1
    exact ⟨σ 11 1, σ, σ, bl_c (Nat.le_of_ble_eq_true rfl) (vc_X10_told_0 σ _ ⟨fun e => absurd e (by decide), fun _ => ⟨fun _ => ⟨rfl, rfl⟩, fun q => absurd rfl q⟩⟩), bl_c (Nat.le_of_ble_eq_true rfl) (vc_X11_told_0 σ _ ⟨fun e => absurd e (by decide), fun _ => ⟨fun _ => ⟨by rw [show σ 11 1 = _ from (hl.2.2.2.2.2.2.1 1 (by omega))], rfl⟩, fun q => absurd rfl q⟩⟩), h⟩
  by_cases n2 : x = 2
  · subst n2
    exact ⟨σ 11 2, σ, σ, bl_c (Nat.le_of_ble_eq_true rfl) (vc_X10_told_0 σ _ ⟨fun e => absurd e (by decide), fun _ => ⟨fun e => absurd e (by decide), fun _ => ⟨fun _ => ⟨rfl, rfl⟩, fun q => absurd rfl q⟩⟩⟩), bl_c (Nat.le_of_ble_eq_true rfl) (vc_X11_told_0 σ _ ⟨fun e => absurd e (by decide), fun _ => ⟨fun e => absurd e (by decide), fun _ => ⟨fun _ => ⟨by rw [show σ 11 2 = _ from (hl.2.2.2.2.2.2.1 2 (by omega))], rfl⟩, fun q => absurd rfl q⟩⟩⟩), h⟩
  by_cases n3 : x = 3
  · subst n3
    exact ⟨σ 10 3, σ, σ, bl_c (Nat.le_of_ble_eq_true rfl) (vc_X10_told_0 σ _ ⟨fun e => absurd e (by decide), fun _ => ⟨fun e => absurd e (by decide), fun _ => ⟨fun e => absurd e (by decide), fun _ => ⟨fun _ => ⟨rfl, rfl⟩, fun q => absurd rfl q⟩⟩⟩⟩), bl_c (Nat.le_of_ble_eq_true rfl) (vc_X11_told_0 σ _ ⟨fun e => absurd e (by decide), fun _ => ⟨fun e => absurd e (by decide), fun _ => ⟨fun e => absurd e (by decide), fun _ => ⟨fun _ => ⟨by rw [show σ 10 3 = _ from (hl.2.2.1.trans hl.2.2.2.1.symm)], rfl⟩, fun q => absurd rfl q⟩⟩⟩⟩), h⟩
  by_cases n4 : x = 4
  · subst n4
    exact ⟨σ 10 4, σ, σ, bl_c (Nat.le_of_ble_eq_true rfl) (vc_X10_told_0 σ _ ⟨fun e => absurd e (by decide), fun _ => ⟨fun e => absurd e (by decide), fun _ => ⟨fun e => absurd e (by decide), fun _ => ⟨fun e => absurd e (by decide), fun _ => ⟨fun _ => ⟨rfl, rfl⟩, fun q => absurd rfl q⟩⟩⟩⟩⟩), bl_c (Nat.le_of_ble_eq_true rfl) (vc_X11_told_0 σ _ ⟨fun e => absurd e (by decide), fun _ => ⟨fun e => absurd e (by decide), fun _ => ⟨fun e => absurd e (by decide), fun _ => ⟨fun e => absurd e (by decide), fun _ => ⟨fun _ => ⟨by rw [show σ 10 4 = _ from (hl.2.2.2.2.1.trans hl.2.2.2.2.2.1.symm)], rfl⟩, fun q => absurd rfl q⟩⟩⟩⟩⟩), h⟩
  by_cases n5 : x = 5
  · subst n5
    exact ⟨σ 11 3, σ, σ, bl_c (Nat.le_of_ble_eq_true rfl) (vc_X10_told_0 σ _ ⟨fun e => absurd e (by decide), fun _ => ⟨fun e => absurd e (by decide), fun _ => ⟨fun e => absurd e (by decide), fun _ => ⟨fun e => absurd e (by decide), fun _ => ⟨fun e => absurd e (by decide), fun _ => ⟨fun _ => ⟨rfl, rfl⟩, fun q => absurd rfl q⟩⟩⟩⟩⟩⟩), bl_c (Nat.le_of_ble_eq_true rfl) (vc_X11_told_0 σ _ ⟨fun e => absurd e (by decide), fun _ => ⟨fun e => absurd e (by decide), fun _ => ⟨fun e => absurd e (by decide), fun _ => ⟨fun e => absurd e (by decide), fun _ => ⟨fun e => absurd e (by decide), fun _ => ⟨fun _ => ⟨by rw [show σ 11 3 = _ from (hl.2.2.2.2.2.2.1 3 (by omega))], rfl⟩, fun q => absurd rfl q⟩⟩⟩⟩⟩⟩), h⟩
  by_cases n6 : x = 6
  · subst n6
    exact ⟨σ 2 1, σ, σ, bl_c (Nat.le_of_ble_eq_true rfl) (vc_X10_told_0 σ _ ⟨fun e => absurd e (by decide), fun _ => ⟨fun e => absurd e (by decide), fun _ => ⟨fun e => absurd e (by decide), fun _ => ⟨fun e => absurd e (by decide), fun _ => ⟨fun e => absurd e (by decide), fun _ => ⟨fun e => absurd e (by decide), fun _ => ⟨fun _ => ⟨rfl, rfl⟩, fun q => absurd rfl q⟩⟩⟩⟩⟩⟩⟩), bl_c (Nat.le_of_ble_eq_true rfl) (vc_X11_told_0 σ _ ⟨fun e => absurd e (by decide), fun _ => ⟨fun e => absurd e (by decide), fun _ => ⟨fun e => absurd e (by decide), fun _ => ⟨fun e => absurd e (by decide), fun _ => ⟨fun e => absurd e (by decide), fun _ => ⟨fun e => absurd e (by decide), fun _ => ⟨fun _ => ⟨by rw [show σ 2 1 = _ from (ht.2.1.trans ht.2.2.1.symm)], rfl⟩, fun q => absurd rfl q⟩⟩⟩⟩⟩⟩⟩), h⟩
  by_cases n7 : x = 7
  · subst n7
    exact ⟨σ 10 5, σ, σ, bl_c (Nat.le_of_ble_eq_true rfl) (vc_X10_told_0 σ _ ⟨fun e => absurd e (by decide), fun _ => ⟨fun e => absurd e (by decide), fun _ => ⟨fun e => absurd e (by decide), fun _ => ⟨fun e => absurd e (by decide), fun _ => ⟨fun e => absurd e (by decide), fun _ => ⟨fun e => absurd e (by decide), fun _ => ⟨fun e => absurd e (by decide), fun _ => ⟨fun _ => ⟨rfl, rfl⟩, fun q => absurd rfl q⟩⟩⟩⟩⟩⟩⟩⟩), bl_c (Nat.le_of_ble_eq_true rfl) (vc_X11_told_0 σ _ ⟨fun e => absurd e (by decide), fun _ => ⟨fun e => absurd e (by decide), fun _ => ⟨fun e => absurd e (by decide), fun _ => ⟨fun e => absurd e (by decide), fun _ => ⟨fun e => absurd e (by decide), fun _ => ⟨fun e => absurd e (by decide), fun _ => ⟨fun e => absurd e (by decide), fun _ => ⟨fun _ => ⟨by rw [show σ 10 5 = _ from hl.2.2.2.2.2.2.2.1], rfl⟩, fun q => absurd rfl q⟩⟩⟩⟩⟩⟩⟩⟩), h⟩
  by_cases n8 : x = 8
  · subst n8
    exact ⟨_, σ, σ, bl_c (Nat.le_of_ble_eq_true rfl) (vc_X10_told_0 σ _ ⟨fun e => absurd e (by decide), fun _ => ⟨fun e => absurd e (by decide), fun _ => ⟨fun e => absurd e (by decide), fun _ => ⟨fun e => absurd e (by decide), fun _ => ⟨fun e => absurd e (by decide), fun _ => ⟨fun e => absurd e (by decide), fun _ => ⟨fun e => absurd e (by decide), fun _ => ⟨fun e => absurd e (by decide), fun _ => ⟨fun _ => ⟨_, _, c_X3_ripeInAll σ (L := 10) (Or.inl rfl) hl.1 hl.2.2.1, rfl, rfl⟩, fun q => absurd rfl q⟩⟩⟩⟩⟩⟩⟩⟩⟩), bl_c (Nat.le_of_ble_eq_true rfl) (vc_X11_told_0 σ _ ⟨fun e => absurd e (by decide), fun _ => ⟨fun e => absurd e (by decide), fun _ => ⟨fun e => absurd e (by decide), fun _ => ⟨fun e => absurd e (by decide), fun _ => ⟨fun e => absurd e (by decide), fun _ => ⟨fun e => absurd e (by decide), fun _ => ⟨fun e => absurd e (by decide), fun _ => ⟨fun e => absurd e (by decide), fun _ => ⟨fun _ => ⟨_, _, c_X11_ripeInAll σ hl.1 hl.2.2.2.1, by rw [sm_ripe hb], rfl⟩, fun q => absurd rfl q⟩⟩⟩⟩⟩⟩⟩⟩⟩), h⟩
  by_cases n9 : x = 9
  · subst n9
    exact ⟨σ 83 4, σ, σ, bl_c (Nat.le_of_ble_eq_true rfl) (vc_X10_told_0 σ _ ⟨fun e => absurd e (by decide), fun _ => ⟨fun e => absurd e (by decide), fun _ => ⟨fun e => absurd e (by decide), fun _ => ⟨fun e => absurd e (by decide), fun _ => ⟨fun e => absurd e (by decide), fun _ => ⟨fun e => absurd e (by decide), fun _ => ⟨fun e => absurd e (by decide), fun _ => ⟨fun e => absurd e (by decide), fun _ => ⟨fun e => absurd e (by decide), fun _ => ⟨fun _ => ⟨rfl, rfl⟩, fun q => absurd rfl q⟩⟩⟩⟩⟩⟩⟩⟩⟩⟩), bl_c (Nat.le_of_ble_eq_true rfl) (vc_X11_told_0 σ _ ⟨fun e => absurd e (by decide), fun _ => ⟨fun e => absurd e (by decide), fun _ => ⟨fun e => absurd e (by decide), fun _ => ⟨fun e => absurd e (by decide), fun _ => ⟨fun e => absurd e (by decide), fun _ => ⟨fun e => absurd e (by decide), fun _ => ⟨fun e => absurd e (by decide), fun _ => ⟨fun e => absurd e (by decide), fun _ => ⟨fun e => absurd e (by decide), fun _ => ⟨fun _ => ⟨by rw [show σ 83 4 = _ from (hs.2.2.2.1.trans hs.2.2.2.2.1.symm)], rfl⟩, fun q => absurd rfl q⟩⟩⟩⟩⟩⟩⟩⟩⟩⟩), h⟩
  by_cases n10 : x = 10
  · subst n10
    exact ⟨σ 84 4, σ, σ, bl_c (Nat.le_of_ble_eq_true rfl) (vc_X10_told_0 σ _ ⟨fun e => absurd e (by decide), fun _ => ⟨fun e => absurd e (by decide), fun _ => ⟨fun e => absurd e (by decide), fun _ => ⟨fun e => absurd e (by decide), fun _ => ⟨fun e => absurd e (by decide), fun _ => ⟨fun e => absurd e (by decide), fun _ => ⟨fun e => absurd e (by decide), fun _ => ⟨fun e => absurd e (by decide), fun _ => ⟨fun e => absurd e (by decide), fun _ => ⟨fun e => absurd e (by decide), fun _ => ⟨fun _ => ⟨rfl, rfl⟩, fun q => absurd rfl q⟩⟩⟩⟩⟩⟩⟩⟩⟩⟩⟩), bl_c (Nat.le_of_ble_eq_true rfl) (vc_X11_told_0 σ _ ⟨fun e => absurd e (by decide), fun _ => ⟨fun e => absurd e (by decide), fun _ => ⟨fun e => absurd e (by decide), fun _ => ⟨fun e => absurd e (by decide), fun _ => ⟨fun e => absurd e (by decide), fun _ => ⟨fun e => absurd e (by decide), fun _ => ⟨fun e => absurd e (by decide), fun _ => ⟨fun e => absurd e (by decide), fun _ => ⟨fun e => absurd e (by decide), fun _ => ⟨fun e => absurd e (by decide), fun _ => ⟨fun _ => ⟨by rw [show σ 84 4 = _ from (hs.2.2.2.2.2.2.1.trans hs.2.2.2.2.2.2.2.1.symm)], rfl⟩, fun q => absurd rfl q⟩⟩⟩⟩⟩⟩⟩⟩⟩⟩⟩), h⟩
  by_cases n11 : x = 11
  · subst n11
    exact ⟨σ 85 4, σ, σ, bl_c (Nat.le_of_ble_eq_true rfl) (vc_X10_told_0 σ _ ⟨fun e => absurd e (by decide), fun _ => ⟨fun e => absurd e (by decide), fun _ => ⟨fun e => absurd e (by decide), fun _ => ⟨fun e => absurd e (by decide), fun _ => ⟨fun e => absurd e (by decide), fun _ => ⟨fun e => absurd e (by decide), fun _ => ⟨fun e => absurd e (by decide), fun _ => ⟨fun e => absurd e (by decide), fun _ => ⟨fun e => absurd e (by decide), fun _ => ⟨fun e => absurd e (by decide), fun _ => ⟨fun e => absurd e (by decide), fun _ => ⟨fun _ => ⟨rfl, rfl⟩, fun q => absurd rfl q⟩⟩⟩⟩⟩⟩⟩⟩⟩⟩⟩⟩), bl_c (Nat.le_of_ble_eq_true rfl) (vc_X11_told_0 σ _ ⟨fun e => absurd e (by decide), fun _ => ⟨fun e => absurd e (by decide), fun _ => ⟨fun e => absurd e (by decide), fun _ => ⟨fun e => absurd e (by decide), fun _ => ⟨fun e => absurd e (by decide), fun _ => ⟨fun e => absurd e (by decide), fun _ => ⟨fun e => absurd e (by decide), fun _ => ⟨fun e => absurd e (by decide), fun _ => ⟨fun e => absurd e (by decide), fun _ => ⟨fun e => absurd e (by decide), fun _ => ⟨fun e => absurd e (by decide), fun _ => ⟨fun _ => ⟨by rw [show σ 85 4 = _ from (hs.2.2.2.2.2.2.2.2.2.1.trans hs.2.2.2.2.2.2.2.2.2.2.1.symm)], rfl⟩, fun q => absurd rfl q⟩⟩⟩⟩⟩⟩⟩⟩⟩⟩⟩⟩), h⟩
  exact ⟨-1000000002, σ, σ, bl_c (Nat.le_of_ble_eq_true rfl) (vc_X10_told_0 σ _ ⟨fun e => absurd e n0, fun _ => ⟨fun e => absurd e n1, fun _ => ⟨fun e => absurd e n2, fun _ => ⟨fun e => absurd e n3, fun _ => ⟨fun e => absurd e n4, fun _ => ⟨fun e => absurd e n5, fun _ => ⟨fun e => absurd e n6, fun _ => ⟨fun e => absurd e n7, fun _ => ⟨fun e => absurd e n8, fun _ => ⟨fun e => absurd e n9, fun _ => ⟨fun e => absurd e n10, fun _ => ⟨fun e => absurd e n11, fun _ => ⟨rfl, rfl⟩⟩⟩⟩⟩⟩⟩⟩⟩⟩⟩⟩⟩), bl_c (Nat.le_of_ble_eq_true rfl) (vc_X11_told_0 σ _ ⟨fun e => absurd e n0, fun _ => ⟨fun e => absurd e n1, fun _ => ⟨fun e => absurd e n2, fun _ => ⟨fun e => absurd e n3, fun _ => ⟨fun e => absurd e n4, fun _ => ⟨fun e => absurd e n5, fun _ => ⟨fun e => absurd e n6, fun _ => ⟨fun e => absurd e n7, fun _ => ⟨fun e => absurd e n8, fun _ => ⟨fun e => absurd e n9, fun _ => ⟨fun e => absurd e n10, fun _ => ⟨fun e => absurd e n11, fun _ => ⟨rfl, rfl⟩⟩⟩⟩⟩⟩⟩⟩⟩⟩⟩⟩⟩), h⟩
theorem pr_bush {σ : bl_S} (h : Inv σ) (x y : Int32) : Pr 70 119 [.int x, .int y] σ := by
  obtain ⟨nb, np, nt, a, b, c, hl, hb, hp, hz, ht, hs, hm⟩ := id h
  have hn := hl.1
  by_cases g : wi x 0 (nI nb - 1) = 0
  · exact ⟨-1000000001, σ, σ, bl_c (Nat.le_of_ble_eq_true rfl) (vc_X10_bush_0 σ x y ⟨_, _, g69 hl x, fun _ => ⟨rfl, rfl⟩, fun q => absurd g q⟩), bl_c (Nat.le_of_ble_eq_true rfl) (vc_X11_bush_0 σ x y ⟨_, _, g103 hl x, fun _ => ⟨rfl, rfl⟩, fun q => absurd g q⟩), h⟩
  · obtain ⟨i, hi, rfl⟩ := wi_n (by omega) g
    have hv := vib (show i < 6 by omega)
    have hk := kdb i (by omega)
    have hJ := (hb i hi).1
    have hN := ntb (show i < 6 by omega)
    by_cases n0 : y = 0
    · subst n0
      refine ⟨σ (14 + i) 0, σ, σ, bl_c (Nat.le_of_ble_eq_true rfl) (vc_X10_bush_0 σ _ _ ⟨_, _, g69 hl _, fun q => absurd q g, fun _ => ?_⟩), bl_c (Nat.le_of_ble_eq_true rfl) (vc_X11_bush_0 σ _ _ ⟨_, _, g103 hl _, fun q => absurd q g, fun _ => ?_⟩), h⟩
      · rw [hN]
        exact ⟨hv, ⟨fun _ => ⟨hk, rfl, rfl⟩, fun q => absurd rfl q⟩⟩
      · rw [hN]
        exact ⟨fun _ => ⟨hv, by rw [← hJ 0 (by omega)], rfl⟩, fun q => absurd rfl q⟩
    by_cases n1 : y = 1
    · subst n1
      refine ⟨σ (14 + i) 1, σ, σ, bl_c (Nat.le_of_ble_eq_true rfl) (vc_X10_bush_0 σ _ _ ⟨_, _, g69 hl _, fun q => absurd q g, fun _ => ?_⟩), bl_c (Nat.le_of_ble_eq_true rfl) (vc_X11_bush_0 σ _ _ ⟨_, _, g103 hl _, fun q => absurd q g, fun _ => ?_⟩), h⟩
      · rw [hN]
        exact ⟨hv, ⟨fun e => absurd e (by decide), fun _ => ⟨fun _ => ⟨hk, rfl, rfl⟩, fun q => absurd rfl q⟩⟩⟩
      · rw [hN]
        exact ⟨fun e => absurd e (by decide), fun _ => ⟨fun _ => ⟨hv, by rw [← hJ 1 (by omega)], rfl⟩, fun q => absurd rfl q⟩⟩
    by_cases n2 : y = 2
    · subst n2
      refine ⟨σ (14 + i) 2, σ, σ, bl_c (Nat.le_of_ble_eq_true rfl) (vc_X10_bush_0 σ _ _ ⟨_, _, g69 hl _, fun q => absurd q g, fun _ => ?_⟩), bl_c (Nat.le_of_ble_eq_true rfl) (vc_X11_bush_0 σ _ _ ⟨_, _, g103 hl _, fun q => absurd q g, fun _ => ?_⟩), h⟩
      · rw [hN]
        exact ⟨hv, ⟨fun e => absurd e (by decide), fun _ => ⟨fun e => absurd e (by decide), fun _ => ⟨fun _ => ⟨hk, rfl, rfl⟩, fun q => absurd rfl q⟩⟩⟩⟩
      · rw [hN]
        exact ⟨fun e => absurd e (by decide), fun _ => ⟨fun e => absurd e (by decide), fun _ => ⟨fun _ => ⟨hv, by rw [← hJ 2 (by omega)], rfl⟩, fun q => absurd rfl q⟩⟩⟩
    by_cases n3 : y = 3
    · subst n3
      refine ⟨σ (14 + i) 3, σ, σ, bl_c (Nat.le_of_ble_eq_true rfl) (vc_X10_bush_0 σ _ _ ⟨_, _, g69 hl _, fun q => absurd q g, fun _ => ?_⟩), bl_c (Nat.le_of_ble_eq_true rfl) (vc_X11_bush_0 σ _ _ ⟨_, _, g103 hl _, fun q => absurd q g, fun _ => ?_⟩), h⟩
      · rw [hN]
        exact ⟨hv, ⟨fun e => absurd e (by decide), fun _ => ⟨fun e => absurd e (by decide), fun _ => ⟨fun e => absurd e (by decide), fun _ => ⟨fun _ => ⟨hk, rfl, rfl⟩, fun q => absurd rfl q⟩⟩⟩⟩⟩
      · rw [hN]
        exact ⟨fun e => absurd e (by decide), fun _ => ⟨fun e => absurd e (by decide), fun _ => ⟨fun e => absurd e (by decide), fun _ => ⟨fun _ => ⟨hv, by rw [← hJ 3 (by omega)], rfl⟩, fun q => absurd rfl q⟩⟩⟩⟩
    by_cases n4 : y = 4
    · subst n4
      refine ⟨σ (14 + i) 4, σ, σ, bl_c (Nat.le_of_ble_eq_true rfl) (vc_X10_bush_0 σ _ _ ⟨_, _, g69 hl _, fun q => absurd q g, fun _ => ?_⟩), bl_c (Nat.le_of_ble_eq_true rfl) (vc_X11_bush_0 σ _ _ ⟨_, _, g103 hl _, fun q => absurd q g, fun _ => ?_⟩), h⟩
      · rw [hN]
        exact ⟨hv, ⟨fun e => absurd e (by decide), fun _ => ⟨fun e => absurd e (by decide), fun _ => ⟨fun e => absurd e (by decide), fun _ => ⟨fun e => absurd e (by decide), fun _ => ⟨fun _ => ⟨hk, rfl, rfl⟩, fun q => absurd rfl q⟩⟩⟩⟩⟩⟩
      · rw [hN]
        exact ⟨fun e => absurd e (by decide), fun _ => ⟨fun e => absurd e (by decide), fun _ => ⟨fun e => absurd e (by decide), fun _ => ⟨fun e => absurd e (by decide), fun _ => ⟨fun _ => ⟨hv, by rw [← hJ 4 (by omega)], rfl⟩, fun q => absurd rfl q⟩⟩⟩⟩⟩
    by_cases n5 : y = 5
    · subst n5
      refine ⟨σ (14 + i) 5, σ, σ, bl_c (Nat.le_of_ble_eq_true rfl) (vc_X10_bush_0 σ _ _ ⟨_, _, g69 hl _, fun q => absurd q g, fun _ => ?_⟩), bl_c (Nat.le_of_ble_eq_true rfl) (vc_X11_bush_0 σ _ _ ⟨_, _, g103 hl _, fun q => absurd q g, fun _ => ?_⟩), h⟩
      · rw [hN]
        exact ⟨hv, ⟨fun e => absurd e (by decide), fun _ => ⟨fun e => absurd e (by decide), fun _ => ⟨fun e => absurd e (by decide), fun _ => ⟨fun e => absurd e (by decide), fun _ => ⟨fun e => absurd e (by decide), fun _ => ⟨fun _ => ⟨hk, rfl, rfl⟩, fun q => absurd rfl q⟩⟩⟩⟩⟩⟩⟩
      · rw [hN]
        exact ⟨fun e => absurd e (by decide), fun _ => ⟨fun e => absurd e (by decide), fun _ => ⟨fun e => absurd e (by decide), fun _ => ⟨fun e => absurd e (by decide), fun _ => ⟨fun e => absurd e (by decide), fun _ => ⟨fun _ => ⟨hv, by rw [← hJ 5 (by omega)], rfl⟩, fun q => absurd rfl q⟩⟩⟩⟩⟩⟩
    exact ⟨-1000000002, σ, σ, bl_c (Nat.le_of_ble_eq_true rfl) (vc_X10_bush_0 σ _ _ ⟨_, _, g69 hl _, fun q => absurd q g, fun _ => ⟨hv, ⟨fun e => absurd e n0, fun _ => ⟨fun e => absurd e n1, fun _ => ⟨fun e => absurd e n2, fun _ => ⟨fun e => absurd e n3, fun _ => ⟨fun e => absurd e n4, fun _ => ⟨fun e => absurd e n5, fun _ => ⟨rfl, rfl⟩⟩⟩⟩⟩⟩⟩⟩⟩), bl_c (Nat.le_of_ble_eq_true rfl) (vc_X11_bush_0 σ _ _ ⟨_, _, g103 hl _, fun q => absurd q g, fun _ => ⟨fun e => absurd e n0, fun _ => ⟨fun e => absurd e n1, fun _ => ⟨fun e => absurd e n2, fun _ => ⟨fun e => absurd e n3, fun _ => ⟨fun e => absurd e n4, fun _ => ⟨fun e => absurd e n5, fun _ => ⟨rfl, rfl⟩⟩⟩⟩⟩⟩⟩⟩), h⟩
theorem pr_picker {σ : bl_S} (h : Inv σ) (x y : Int32) : Pr 72 120 [.int x, .int y] σ := by
  obtain ⟨nb, np, nt, a, b, c, hl, hb, hp, hz, ht, hs, hm⟩ := id h
  have hn := hl.2.1
  by_cases g : wi x 0 (nI np - 1) = 0
  · exact ⟨-1000000001, σ, σ, bl_c (Nat.le_of_ble_eq_true rfl) (vc_X10_picker_0 σ x y ⟨_, _, g71 hl x, fun _ => ⟨rfl, rfl⟩, fun q => absurd g q⟩), bl_c (Nat.le_of_ble_eq_true rfl) (vc_X11_picker_0 σ x y ⟨_, _, g104 hl x, fun _ => ⟨rfl, rfl⟩, fun q => absurd g q⟩), h⟩
  · obtain ⟨i, hi, rfl⟩ := wi_n (by omega) g
    have hv := vip (show i < 4 by omega)
    have hk := kdp i (by omega)
    have hJ := (hp i hi).1
    have hN := ntp (show i < 4 by omega)
    by_cases n0 : y = 0
    · subst n0
      refine ⟨σ (20 + i) 0, σ, σ, bl_c (Nat.le_of_ble_eq_true rfl) (vc_X10_picker_0 σ _ _ ⟨_, _, g71 hl _, fun q => absurd q g, fun _ => ?_⟩), bl_c (Nat.le_of_ble_eq_true rfl) (vc_X11_picker_0 σ _ _ ⟨_, _, g104 hl _, fun q => absurd q g, fun _ => ?_⟩), h⟩
      · rw [hN]
        exact ⟨hv, ⟨fun _ => ⟨hk, rfl, rfl⟩, fun q => absurd rfl q⟩⟩
      · rw [hN]
        exact ⟨fun _ => ⟨hv, by rw [← hJ 0 (by omega)], rfl⟩, fun q => absurd rfl q⟩
    by_cases n1 : y = 1
    · subst n1
      refine ⟨σ (20 + i) 1, σ, σ, bl_c (Nat.le_of_ble_eq_true rfl) (vc_X10_picker_0 σ _ _ ⟨_, _, g71 hl _, fun q => absurd q g, fun _ => ?_⟩), bl_c (Nat.le_of_ble_eq_true rfl) (vc_X11_picker_0 σ _ _ ⟨_, _, g104 hl _, fun q => absurd q g, fun _ => ?_⟩), h⟩
      · rw [hN]
        exact ⟨hv, ⟨fun e => absurd e (by decide), fun _ => ⟨fun _ => ⟨hk, rfl, rfl⟩, fun q => absurd rfl q⟩⟩⟩
      · rw [hN]
        exact ⟨fun e => absurd e (by decide), fun _ => ⟨fun _ => ⟨hv, by rw [← hJ 1 (by omega)], rfl⟩, fun q => absurd rfl q⟩⟩
    by_cases n2 : y = 2
    · subst n2
      refine ⟨σ (20 + i) 2, σ, σ, bl_c (Nat.le_of_ble_eq_true rfl) (vc_X10_picker_0 σ _ _ ⟨_, _, g71 hl _, fun q => absurd q g, fun _ => ?_⟩), bl_c (Nat.le_of_ble_eq_true rfl) (vc_X11_picker_0 σ _ _ ⟨_, _, g104 hl _, fun q => absurd q g, fun _ => ?_⟩), h⟩
      · rw [hN]
        exact ⟨hv, ⟨fun e => absurd e (by decide), fun _ => ⟨fun e => absurd e (by decide), fun _ => ⟨fun _ => ⟨hk, rfl, rfl⟩, fun q => absurd rfl q⟩⟩⟩⟩
      · rw [hN]
        exact ⟨fun e => absurd e (by decide), fun _ => ⟨fun e => absurd e (by decide), fun _ => ⟨fun _ => ⟨hv, by rw [← hJ 2 (by omega)], rfl⟩, fun q => absurd rfl q⟩⟩⟩
    by_cases n3 : y = 3
    · subst n3
      refine ⟨σ (20 + i) 3, σ, σ, bl_c (Nat.le_of_ble_eq_true rfl) (vc_X10_picker_0 σ _ _ ⟨_, _, g71 hl _, fun q => absurd q g, fun _ => ?_⟩), bl_c (Nat.le_of_ble_eq_true rfl) (vc_X11_picker_0 σ _ _ ⟨_, _, g104 hl _, fun q => absurd q g, fun _ => ?_⟩), h⟩
      · rw [hN]
        exact ⟨hv, ⟨fun e => absurd e (by decide), fun _ => ⟨fun e => absurd e (by decide), fun _ => ⟨fun e => absurd e (by decide), fun _ => ⟨fun _ => ⟨hk, rfl, rfl⟩, fun q => absurd rfl q⟩⟩⟩⟩⟩
      · rw [hN]
        exact ⟨fun e => absurd e (by decide), fun _ => ⟨fun e => absurd e (by decide), fun _ => ⟨fun e => absurd e (by decide), fun _ => ⟨fun _ => ⟨hv, by rw [← hJ 3 (by omega)], rfl⟩, fun q => absurd rfl q⟩⟩⟩⟩
    by_cases n4 : y = 4
    · subst n4
      refine ⟨(if σ (20 + i) 4 = 0 then 0 else 1), σ, σ, bl_c (Nat.le_of_ble_eq_true rfl) (vc_X10_picker_0 σ _ _ ⟨_, _, g71 hl _, fun q => absurd q g, fun _ => ?_⟩), bl_c (Nat.le_of_ble_eq_true rfl) (vc_X11_picker_0 σ _ _ ⟨_, _, g104 hl _, fun q => absurd q g, fun _ => ?_⟩), h⟩
      · rw [hN]
        exact ⟨hv, ⟨fun e => absurd e (by decide), fun _ => ⟨fun e => absurd e (by decide), fun _ => ⟨fun e => absurd e (by decide), fun _ => ⟨fun e => absurd e (by decide), fun _ => ⟨fun _ => ⟨hk, fun v e => ⟨by rw [e], rfl⟩⟩, fun q => absurd rfl q⟩⟩⟩⟩⟩⟩
      · rw [hN]
        exact ⟨fun e => absurd e (by decide), fun _ => ⟨fun e => absurd e (by decide), fun _ => ⟨fun e => absurd e (by decide), fun _ => ⟨fun e => absurd e (by decide), fun _ => ⟨fun _ => ⟨hv, fun v e => ⟨by rw [e, ← hJ 4 (by omega)], rfl⟩⟩, fun q => absurd rfl q⟩⟩⟩⟩⟩
    by_cases n5 : y = 5
    · subst n5
      refine ⟨σ (20 + i) 5, σ, σ, bl_c (Nat.le_of_ble_eq_true rfl) (vc_X10_picker_0 σ _ _ ⟨_, _, g71 hl _, fun q => absurd q g, fun _ => ?_⟩), bl_c (Nat.le_of_ble_eq_true rfl) (vc_X11_picker_0 σ _ _ ⟨_, _, g104 hl _, fun q => absurd q g, fun _ => ?_⟩), h⟩
      · rw [hN]
        exact ⟨hv, ⟨fun e => absurd e (by decide), fun _ => ⟨fun e => absurd e (by decide), fun _ => ⟨fun e => absurd e (by decide), fun _ => ⟨fun e => absurd e (by decide), fun _ => ⟨fun e => absurd e (by decide), fun _ => ⟨fun _ => ⟨hk, rfl, rfl⟩, fun q => absurd rfl q⟩⟩⟩⟩⟩⟩⟩
      · rw [hN]
        exact ⟨fun e => absurd e (by decide), fun _ => ⟨fun e => absurd e (by decide), fun _ => ⟨fun e => absurd e (by decide), fun _ => ⟨fun e => absurd e (by decide), fun _ => ⟨fun e => absurd e (by decide), fun _ => ⟨fun _ => ⟨hv, by rw [← hJ 5 (by omega)], rfl⟩, fun q => absurd rfl q⟩⟩⟩⟩⟩⟩
    by_cases n6 : y = 6
    · subst n6
      refine ⟨σ (20 + i) 6, σ, σ, bl_c (Nat.le_of_ble_eq_true rfl) (vc_X10_picker_0 σ _ _ ⟨_, _, g71 hl _, fun q => absurd q g, fun _ => ?_⟩), bl_c (Nat.le_of_ble_eq_true rfl) (vc_X11_picker_0 σ _ _ ⟨_, _, g104 hl _, fun q => absurd q g, fun _ => ?_⟩), h⟩
      · rw [hN]
        exact ⟨hv, ⟨fun e => absurd e (by decide), fun _ => ⟨fun e => absurd e (by decide), fun _ => ⟨fun e => absurd e (by decide), fun _ => ⟨fun e => absurd e (by decide), fun _ => ⟨fun e => absurd e (by decide), fun _ => ⟨fun e => absurd e (by decide), fun _ => ⟨fun _ => ⟨hk, rfl, rfl⟩, fun q => absurd rfl q⟩⟩⟩⟩⟩⟩⟩⟩
      · rw [hN]
        exact ⟨fun e => absurd e (by decide), fun _ => ⟨fun e => absurd e (by decide), fun _ => ⟨fun e => absurd e (by decide), fun _ => ⟨fun e => absurd e (by decide), fun _ => ⟨fun e => absurd e (by decide), fun _ => ⟨fun e => absurd e (by decide), fun _ => ⟨fun _ => ⟨hv, by rw [← hJ 6 (by omega)], rfl⟩, fun q => absurd rfl q⟩⟩⟩⟩⟩⟩⟩
    by_cases n7 : y = 7
    · subst n7
      refine ⟨σ (20 + i) 7, σ, σ, bl_c (Nat.le_of_ble_eq_true rfl) (vc_X10_picker_0 σ _ _ ⟨_, _, g71 hl _, fun q => absurd q g, fun _ => ?_⟩), bl_c (Nat.le_of_ble_eq_true rfl) (vc_X11_picker_0 σ _ _ ⟨_, _, g104 hl _, fun q => absurd q g, fun _ => ?_⟩), h⟩
      · rw [hN]
        exact ⟨hv, ⟨fun e => absurd e (by decide), fun _ => ⟨fun e => absurd e (by decide), fun _ => ⟨fun e => absurd e (by decide), fun _ => ⟨fun e => absurd e (by decide), fun _ => ⟨fun e => absurd e (by decide), fun _ => ⟨fun e => absurd e (by decide), fun _ => ⟨fun e => absurd e (by decide), fun _ => ⟨fun _ => ⟨hk, rfl, rfl⟩, fun q => absurd rfl q⟩⟩⟩⟩⟩⟩⟩⟩⟩
      · rw [hN]
        exact ⟨fun e => absurd e (by decide), fun _ => ⟨fun e => absurd e (by decide), fun _ => ⟨fun e => absurd e (by decide), fun _ => ⟨fun e => absurd e (by decide), fun _ => ⟨fun e => absurd e (by decide), fun _ => ⟨fun e => absurd e (by decide), fun _ => ⟨fun e => absurd e (by decide), fun _ => ⟨fun _ => ⟨hv, by rw [← hJ 7 (by omega)], rfl⟩, fun q => absurd rfl q⟩⟩⟩⟩⟩⟩⟩⟩
    exact ⟨-1000000002, σ, σ, bl_c (Nat.le_of_ble_eq_true rfl) (vc_X10_picker_0 σ _ _ ⟨_, _, g71 hl _, fun q => absurd q g, fun _ => ⟨hv, ⟨fun e => absurd e n0, fun _ => ⟨fun e => absurd e n1, fun _ => ⟨fun e => absurd e n2, fun _ => ⟨fun e => absurd e n3, fun _ => ⟨fun e => absurd e n4, fun _ => ⟨fun e => absurd e n5, fun _ => ⟨fun e => absurd e n6, fun _ => ⟨fun e => absurd e n7, fun _ => ⟨rfl, rfl⟩⟩⟩⟩⟩⟩⟩⟩⟩⟩⟩), bl_c (Nat.le_of_ble_eq_true rfl) (vc_X11_picker_0 σ _ _ ⟨_, _, g104 hl _, fun q => absurd q g, fun _ => ⟨fun e => absurd e n0, fun _ => ⟨fun e => absurd e n1, fun _ => ⟨fun e => absurd e n2, fun _ => ⟨fun e => absurd e n3, fun _ => ⟨fun e => absurd e n4, fun _ => ⟨fun e => absurd e n5, fun _ => ⟨fun e => absurd e n6, fun _ => ⟨fun e => absurd e n7, fun _ => ⟨rfl, rfl⟩⟩⟩⟩⟩⟩⟩⟩⟩⟩), h⟩
theorem c_X11_givesOf (σ : bl_S) {p b : Nat} (hp : p < 4) (hb : b < 6) : bl_Con (bl_mi 121) [.ref 1, .int (nI p), .int (nI b)] σ (some (.int (hq (σ 110 p) (σ 112 p) (σ 104 b) (σ 106 b)))) σ := by
  refine bl_c (Nat.le_of_ble_eq_true rfl) (vc_X11_givesOf_0 σ _ _ ⟨vib hb, fun v1 e1 => ⟨vip hp, fun v4 e4 v8 e8 => ⟨?_, rfl⟩⟩⟩)
  rw [ntb hb] at e1
  rw [ntp hp, e1] at e4
  rw [ntb hb, ntp hp, e4] at e8
  rw [e8]
  rfl
theorem wy_eq (a b c d : Int32) (h : ∃ x y : Nat, x ≤ 99 ∧ y ≤ 99 ∧ a = nI x ∧ c = nI y) : wy a b c d = ((if a < c then c - a else a - c) + (if b = d then 0 else 3) + 9) / 10 := by
  obtain ⟨x, y, hx, hy, rfl, rfl⟩ := h
  unfold wy
  by_cases q : x < y
  · have e1 : nI x < nI y := nI_lt q (by omega)
    have e2 : ¬ (0 : Int32) ≤ nI x - nI y := by
      have := pk_sneg (a := x) (b := y) (by omega) q
      exact Int32.not_le.mpr this
    rw [if_pos e1, if_neg e2, Int32.zero_sub, Int32.neg_sub]
  · have e1 : ¬ nI x < nI y := nI_nlt (by omega) (by omega)
    have e2 : (0 : Int32) ≤ nI x - nI y := by
      rw [pk_sub (by omega)]
      exact nI_pos' (by omega)
    rw [if_neg e1, if_pos e2]
theorem c_X11_momentsOf (σ : bl_S) (a b c d : Int32) (h : ∃ x y : Nat, x ≤ 99 ∧ y ≤ 99 ∧ a = nI x ∧ c = nI y) : bl_Con (bl_mi 123) [.int a, .int b, .int c, .int d] σ (some (.int (wy a b c d))) σ := by
  refine bl_c (Nat.le_of_ble_eq_true rfl) (vc_X11_momentsOf_0 σ a b c d (fun v2 e2 v5 e5 => ⟨?_, rfl⟩))
  rw [wy_eq a b c d h, e5, e2]
theorem c_X11_wayOf (σ : bl_S) {p b : Nat} (hp : p < 4) (hb : b < 6) (h : ∃ x y : Nat, x ≤ 99 ∧ y ≤ 99 ∧ σ 108 p = nI x ∧ σ 102 b = nI y) : bl_Con (bl_mi 124) [.ref 1, .int (nI p), .int (nI b)] σ (some (.int (wy (σ 108 p) (σ 109 p) (σ 102 b) (σ 103 b)))) σ := by
  refine bl_c (Nat.le_of_ble_eq_true rfl) (vc_X11_wayOf_0 σ _ _ ⟨vip hp, vib hb, ?_⟩)
  rw [ntp hp, ntb hb]
  exact ⟨_, _, c_X11_momentsOf σ _ _ _ _ h, rfl, rfl⟩
theorem pr_gives {σ : bl_S} (h : Inv σ) (x y : Int32) : Pr 73 122 [.int x, .int y] σ := by
  obtain ⟨nb, np, nt, a, b, c, hl, hb, hp, hz, ht, hs, hm⟩ := id h
  have hn := hl.1
  have hn2 := hl.2.1
  by_cases g : wi x 0 (nI np - 1) = 0
  · exact ⟨-1000000001, σ, σ, bl_c (Nat.le_of_ble_eq_true rfl) (vc_X10_gives_0 σ x y ⟨_, _, g71 hl x, fun _ => ⟨rfl, rfl⟩, fun q => absurd g q⟩), bl_c (Nat.le_of_ble_eq_true rfl) (vc_X11_gives_0 σ x y ⟨_, _, g104 hl x, fun _ => ⟨rfl, rfl⟩, fun q => absurd g q⟩), h⟩
  by_cases f : wi y 0 (nI nb - 1) = 0
  · exact ⟨-1000000001, σ, σ, bl_c (Nat.le_of_ble_eq_true rfl) (vc_X10_gives_0 σ x y ⟨_, _, g71 hl x, fun q => absurd q g, fun _ => ⟨_, _, g69 hl y, fun _ => ⟨rfl, rfl⟩, fun q => absurd f q⟩⟩), bl_c (Nat.le_of_ble_eq_true rfl) (vc_X11_gives_0 σ x y ⟨_, _, g104 hl x, fun q => absurd q g, fun _ => ⟨_, _, g103 hl y, fun _ => ⟨rfl, rfl⟩, fun q => absurd f q⟩⟩), h⟩
  obtain ⟨i, hi, rfl⟩ := wi_n (by omega) g
  obtain ⟨j, hj, rfl⟩ := wi_n (by omega) f
  have i4 : i < 4 := by omega
  have j6 : j < 6 := by omega
  have hJp := (hp i hi).1
  have hJb := (hb j hj).1
  obtain ⟨y1, s1, q1, a1, h1, b1, b2, b3, b4, b5, b6, e1, e2, e3, e4, e5⟩ := (hp i hi).2
  obtain ⟨y2, s2, k2, rd, rp, sf, d1, d2, d3, d4, t1, t2, t3, t4, t5, t6⟩ := (hb j hj).2
  refine ⟨hq (σ (20 + i) 2) (σ (20 + i) 4) (σ (14 + j) 2) (σ (14 + j) 4), σ, σ, bl_c (Nat.le_of_ble_eq_true rfl) (vc_X10_gives_0 σ _ _ ⟨_, _, g71 hl _, fun q => absurd q g, fun _ => ⟨_, _, g69 hl _, fun q => absurd q f, fun _ => ⟨vip i4, vib j6, ?_⟩⟩⟩), bl_c (Nat.le_of_ble_eq_true rfl) (vc_X11_gives_0 σ _ _ ⟨_, _, g104 hl _, fun q => absurd q g, fun _ => ⟨_, _, g103 hl _, fun q => absurd q f, fun _ => ?_⟩⟩), h⟩
  · rw [ntp i4, ntb j6]
    exact ⟨kdp i i4, _, _, c_X5_wouldGet σ (kdp i i4) (kdb j j6), rfl, rfl⟩
  · exact ⟨_, _, c_X11_givesOf σ i4 j6, by rw [← hJp 2 (by omega), ← hJp 4 (by omega), ← hJb 2 (by omega), ← hJb 4 (by omega)], rfl⟩
theorem pr_way {σ : bl_S} (h : Inv σ) (x y : Int32) : Pr 74 125 [.int x, .int y] σ := by
  obtain ⟨nb, np, nt, a, b, c, hl, hb, hp, hz, ht, hs, hm⟩ := id h
  have hn := hl.1
  have hn2 := hl.2.1
  by_cases g : wi x 0 (nI np - 1) = 0
  · exact ⟨-1000000001, σ, σ, bl_c (Nat.le_of_ble_eq_true rfl) (vc_X10_way_0 σ x y ⟨_, _, g71 hl x, fun _ => ⟨rfl, rfl⟩, fun q => absurd g q⟩), bl_c (Nat.le_of_ble_eq_true rfl) (vc_X11_way_0 σ x y ⟨_, _, g104 hl x, fun _ => ⟨rfl, rfl⟩, fun q => absurd g q⟩), h⟩
  by_cases f : wi y 0 (nI nb - 1) = 0
  · exact ⟨-1000000001, σ, σ, bl_c (Nat.le_of_ble_eq_true rfl) (vc_X10_way_0 σ x y ⟨_, _, g71 hl x, fun q => absurd q g, fun _ => ⟨_, _, g69 hl y, fun _ => ⟨rfl, rfl⟩, fun q => absurd f q⟩⟩), bl_c (Nat.le_of_ble_eq_true rfl) (vc_X11_way_0 σ x y ⟨_, _, g104 hl x, fun q => absurd q g, fun _ => ⟨_, _, g103 hl y, fun _ => ⟨rfl, rfl⟩, fun q => absurd f q⟩⟩), h⟩
  obtain ⟨i, hi, rfl⟩ := wi_n (by omega) g
  obtain ⟨j, hj, rfl⟩ := wi_n (by omega) f
  have i4 : i < 4 := by omega
  have j6 : j < 6 := by omega
  have hJp := (hp i hi).1
  have hJb := (hb j hj).1
  obtain ⟨y1, s1, q1, a1, h1, b1, b2, b3, b4, b5, b6, e1, e2, e3, e4, e5⟩ := (hp i hi).2
  obtain ⟨y2, s2, k2, rd, rp, sf, d1, d2, d3, d4, t1, t2, t3, t4, t5, t6⟩ := (hb j hj).2
  refine ⟨wy (σ (20 + i) 0) (σ (20 + i) 1) (σ (14 + j) 0) (σ (14 + j) 1), σ, σ, bl_c (Nat.le_of_ble_eq_true rfl) (vc_X10_way_0 σ _ _ ⟨_, _, g71 hl _, fun q => absurd q g, fun _ => ⟨_, _, g69 hl _, fun q => absurd q f, fun _ => ⟨vip i4, vib j6, ?_⟩⟩⟩), bl_c (Nat.le_of_ble_eq_true rfl) (vc_X11_way_0 σ _ _ ⟨_, _, g104 hl _, fun q => absurd q g, fun _ => ⟨_, _, g103 hl _, fun q => absurd q f, fun _ => ?_⟩⟩), h⟩
  · rw [ntp i4, ntb j6]
    exact ⟨kdp i i4, _, _, c_X5_momentsTo σ (kdp i i4) (kdb j j6), rfl, rfl⟩
  · exact ⟨_, _, c_X11_wayOf σ i4 j6 ⟨y1, y2, b1, d1, e1, t1⟩, by rw [← hJp 0 (by omega), ← hJp 1 (by omega), ← hJb 0 (by omega), ← hJb 1 (by omega)], rfl⟩
