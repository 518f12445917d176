/-! IMAGES: a lane copied; keep, goBack -/
def EvN (M : bl_MI) (pc : Nat) (lv : List (Nat × Value)) (s : bl_S) (P : bl_S → Prop) : Prop := ∃ τ, P τ ∧ bl_Wx M pc lv [] s (fun v t => v = none ∧ t = τ)
def St (n m L M : Nat) (σ τ : bl_S) : Prop := (∀ c, ¬ (L ≤ c ∧ c ≤ L + 13) → τ c = σ c) ∧ (∀ k, k < 4 → τ (L + 1) k = σ (M + 1) k) ∧ (τ L 3 = σ M 3 ∧ τ L 4 = σ M 4 ∧ τ L 5 = σ M 5 ∧ ∀ k, k ≠ 3 → k ≠ 4 → k ≠ 5 → τ L k = σ L k) ∧ (∀ b k, b < n → k < 6 → τ (L + 4 + b) k = σ (M + 4 + b) k) ∧ (∀ p k, p < m → k < 8 → τ (L + 10 + p) k = σ (M + 10 + p) k)
theorem St.bush {n L M : Nat} {σ s : bl_S} (hne : L + 14 ≤ M ∨ M + 14 ≤ L) (hn : n < 6) (h : St n 0 L M σ s) : St (n + 1) 0 L M σ (bl_cp 6 s (L + 4 + n) (M + 4 + n)) := by
  obtain ⟨h1, h2, ⟨h3, h4, h5, h6⟩, h7, h8⟩ := h
  refine ⟨fun c hc => by rw [bl_cp_c (by omega)]; exact h1 c hc, fun k hk => by rw [bl_cp_c (by omega)]; exact h2 k hk, ⟨by rw [bl_cp_c (by omega)]; exact h3, by rw [bl_cp_c (by omega)]; exact h4, by rw [bl_cp_c (by omega)]; exact h5, fun k a b c => by rw [bl_cp_c (by omega)]; exact h6 k a b c⟩, fun b k hb hk => ?_, fun p k hp hk => by omega⟩
  by_cases e : b = n
  · subst e
    rw [bl_cp_s hk, h1 (M + 4 + b) (by omega)]
  · rw [bl_cp_c (by omega)]
    exact h7 b k (by omega) hk
theorem St.pick {n m L M : Nat} {σ s : bl_S} (hne : L + 14 ≤ M ∨ M + 14 ≤ L) (hn : n ≤ 6) (hm : m < 4) (h : St n m L M σ s) : St n (m + 1) L M σ (bl_cp 8 s (L + 10 + m) (M + 10 + m)) := by
  obtain ⟨h1, h2, ⟨h3, h4, h5, h6⟩, h7, h8⟩ := h
  refine ⟨fun c hc => by rw [bl_cp_c (by omega)]; exact h1 c hc, fun k hk => by rw [bl_cp_c (by omega)]; exact h2 k hk, ⟨by rw [bl_cp_c (by omega)]; exact h3, by rw [bl_cp_c (by omega)]; exact h4, by rw [bl_cp_c (by omega)]; exact h5, fun k a b c => by rw [bl_cp_c (by omega)]; exact h6 k a b c⟩, fun b k hb hk => by rw [bl_cp_c (by omega)]; exact h7 b k hb hk, fun p k hp hk => ?_⟩
  by_cases e : p = m
  · subst e
    rw [bl_cp_s hk, h1 (M + 10 + p) (by omega)]
  · rw [bl_cp_c (by omega)]
    exact h8 p k (by omega) hk
theorem c_X3_startAs (σ : bl_S) {L M : Nat} (hL : isL L) (hM : isL M) (hne : L + 14 ≤ M ∨ M + 14 ≤ L) (h4 : ∀ p, p < 4 → σ (M + 10 + p) 4 = 0 ∨ σ (M + 10 + p) 4 = 1) : ∃ τ, St 6 4 L M σ τ ∧ bl_Con (bl_mi 24) [.ref L, .ref M] σ none τ := by
  obtain ⟨k1, k2, k3, k4, k5, k6, k7, k8, k9⟩ := isL_kd hL
  obtain ⟨m1, m2, m3, m4, m5, m6, m7, m8, m9⟩ := isL_kd hM
  have loopP : ∀ s, St 6 0 L M σ s → EvN (bl_mi 24) 66 [(0, .ref L), (1, .ref M), (2, .int (nI 0))] s (St 6 4 L M σ) := by
    refine bl_dn (N := 4) (P := fun m => ∀ s, St 6 m L M σ s → EvN (bl_mi 24) 66 [(0, .ref L), (1, .ref M), (2, .int (nI m))] s (St 6 4 L M σ)) ?_ ?_
    · intro s h
      exact ⟨s, h, vc_X3_startAs_66 _ _ _ _ k1 m1 ⟨fun q => absurd q (by decide), fun _ => ⟨rfl, rfl⟩⟩⟩
    · intro m hm ih s h
      obtain ⟨τ, hP, hW⟩ := ih _ (h.pick hne (by omega) hm)
      have hc := c_X5_copyFrom s (a := L + 10 + m) (b := M + 10 + m) (isL_kp hL m hm) (isL_kp hM m hm) (by rw [h.1 (M + 10 + m) (by omega)]; exact h4 m hm)
      refine ⟨τ, hP, vc_X3_startAs_66 _ _ _ _ k1 m1 ⟨fun _ => ?_, fun q => absurd (by rw [show (4 : Int32) = nI 4 from rfl]; exact nI_lt hm (by omega)) q⟩⟩
      rw [k4, m4, k9, m9, ntp hm, isL_p hL, isL_p hM, nI_1]
      exact ⟨k7, vip hm, m7, vip hm, isL_kp hL m hm, _, hc, hW⟩
  have loopB : ∀ s, St 0 0 L M σ s → EvN (bl_mi 24) 37 [(0, .ref L), (1, .ref M), (2, .int (nI 0))] s (St 6 4 L M σ) := by
    refine bl_dn (N := 6) (P := fun m => ∀ s, St m 0 L M σ s → EvN (bl_mi 24) 37 [(0, .ref L), (1, .ref M), (2, .int (nI m))] s (St 6 4 L M σ)) ?_ ?_
    · intro s h
      obtain ⟨τ, hP, hW⟩ := loopP s h
      exact ⟨τ, hP, vc_X3_startAs_37 _ _ _ _ k1 m1 ⟨fun q => absurd q (by decide), fun _ => hW⟩⟩
    · intro m hm ih s h
      obtain ⟨τ, hP, hW⟩ := ih _ (h.bush hne hm)
      have hc := c_X1_copyFrom s (a := L + 4 + m) (b := M + 4 + m) (isL_kb hL m hm) (isL_kb hM m hm)
      refine ⟨τ, hP, vc_X3_startAs_37 _ _ _ _ k1 m1 ⟨fun _ => ?_, fun q => absurd (by rw [show (6 : Int32) = nI 6 from rfl]; exact nI_lt hm (by omega)) q⟩⟩
      rw [k3, m3, k8, m8, ntb hm, isL_b hL, isL_b hM, nI_1]
      exact ⟨k6, vib hm, m6, vib hm, isL_kb hL m hm, _, hc, hW⟩
  have hc := c_X4_copyFrom σ (a := L + 1) (b := M + 1) k5 m5
  obtain ⟨t, et⟩ : ∃ t, t = bl_cp 4 σ (L + 1) (M + 1) := ⟨_, rfl⟩
  rw [← et] at hc
  have ht : ∀ d, d ≠ L + 1 → t d = σ d := fun d hd => by rw [et]; exact bl_cp_c hd
  have hs0 : St 0 0 L M σ (bl_up (bl_up (bl_up t L 3 (t M 3)) L 4 ((bl_up t L 3 (t M 3)) M 4)) L 5 ((bl_up (bl_up t L 3 (t M 3)) L 4 ((bl_up t L 3 (t M 3)) M 4)) M 5)) := by
    refine ⟨fun c hc => by rw [bl_up_ne (by omega), bl_up_ne (by omega), bl_up_ne (by omega), ht c (by omega)], fun k hk => ?_, ⟨?_, ?_, ?_, fun k a b c => ?_⟩, fun b k hb _ => by omega, fun p k hp _ => by omega⟩
    · rw [bl_up_c (by omega), bl_up_c (by omega), bl_up_c (by omega), et, bl_cp_s hk]
    · rw [bl_up_j (by omega), bl_up_j (by omega), bl_up_s, ht M (by omega)]
    · rw [bl_up_j (by omega), bl_up_s, bl_up_c (by omega), ht M (by omega)]
    · rw [bl_up_s, bl_up_c (by omega), bl_up_c (by omega), ht M (by omega)]
    · rw [bl_up_j c, bl_up_j b, bl_up_j a, ht L (by omega)]
  obtain ⟨τ, hP, hW⟩ := loopB _ hs0
  refine ⟨τ, hP, bl_c (Nat.le_of_ble_eq_true rfl) (vc_X3_startAs_0 σ L M k1 m1 ?_)⟩
  rw [k2, m2]
  refine ⟨k5, _, hc, fun v e => ?_⟩
  rw [e]
  exact hW
theorem c_X3_copyFrom (σ : bl_S) {L M : Nat} (hL : isL L) (hM : isL M) (hne : L + 14 ≤ M ∨ M + 14 ≤ L) (h4 : ∀ p, p < 4 → σ (M + 10 + p) 4 = 0 ∨ σ (M + 10 + p) 4 = 1) : ∃ τ, (∃ t, St 6 4 L M σ t ∧ τ = bl_up t L 6 (σ M 6)) ∧ bl_Con (bl_mi 25) [.ref L, .ref M] σ none τ := by
  obtain ⟨t, hS, hC⟩ := c_X3_startAs σ hL hM hne h4
  have hm : t M = σ M := hS.1 M (by omega)
  exact ⟨_, ⟨t, hS, rfl⟩, bl_c (Nat.le_of_ble_eq_true rfl) (vc_X3_copyFrom_0 σ L M (isL_kd hL).1 (isL_kd hM).1 ⟨_, hC, rfl, by rw [hm]⟩)⟩
theorem Ji.fr3 {nb np B k0 : Nat} {σ τ : bl_S} (hb : nb ≤ 6) (hp : np ≤ 4) (h : Ji nb np B k0 σ) (f : ∀ c, B ≤ c ∧ c ≤ B + 13 → τ c = σ c) (f11 : ∀ k, k < 4 → τ 11 k = σ 11 k) (f145 : ∀ j, k0 ≤ j → j < k0 + 44 → τ 145 j = σ 145 j) (fb : ∀ b k, b < nb → k < 3 → τ (14 + b) k = σ (14 + b) k) (fp : ∀ p k, p < np → k = 2 ∨ k = 3 → τ (20 + p) k = σ (20 + p) k) : Ji nb np B k0 τ := by
  obtain ⟨h1, h2, h3, h4, h5, h6, h7, h8⟩ := h
  have fB := f B (by omega)
  refine ⟨by rw [fB]; exact h1, by rw [fB]; exact h2, by rw [fB, f145 _ (by omega) (by omega)]; exact h3, by rw [fB, f145 _ (by omega) (by omega)]; exact h4, by rw [fB]; exact h5, fun k hk => by rw [f (B + 1) (by omega), f11 k hk]; exact h6 k hk, fun b hb2 => ?_, fun p hp2 => ?_⟩
  · obtain ⟨q1, q2⟩ := h7 b hb2
    rw [f (B + 4 + b) (by omega), f145 _ (by omega) (by omega), f145 _ (by omega) (by omega), f145 _ (by omega) (by omega)]
    exact ⟨fun k hk => by rw [fb b k hb2 hk]; exact q1 k hk, q2⟩
  · rw [f (B + 10 + p) (by omega), fp p 2 hp2 (by omega), fp p 3 hp2 (by omega), f145 _ (by omega) (by omega), f145 _ (by omega) (by omega), f145 _ (by omega) (by omega), f145 _ (by omega) (by omega), f145 _ (by omega) (by omega), f145 _ (by omega) (by omega)]
    exact h8 p hp2
theorem v100 {n : Nat} (h : n < 100) : vp_in (nI n) 100 := vp_in_nI h (by omega)
theorem n100 {n : Nat} (h : n < 100) : Int32.toNatClampNeg (nI n) = n := nI_clamp (by omega)
theorem nIl (n k : Nat) : nI n + (OfNat.ofNat k : Int32) = nI (n + k) := nI_add n k
theorem im_idx {i k b : Nat} (hi : i < 2) (h : k + b < 50) : (nI (50 * i) + nI k) + nI b = nI (50 * i + k + b) ∧ 50 * i + k + b < 100 := by
  rw [nI_add, nI_add]
  exact ⟨rfl, by omega⟩
/-- the reference's row of an image: bushes up to n, pickers up to m -/
def Kp (n m k0 : Nat) (σ τ : bl_S) : Prop := (∀ c, c ≠ 145 → τ c = σ c) ∧ (∀ j, ¬ (k0 ≤ j ∧ j < k0 + 44) → τ 145 j = σ 145 j) ∧ (∀ b, b < n → τ 145 (k0 + b) = σ 105 b ∧ τ 145 (k0 + 6 + b) = σ 106 b ∧ τ 145 (k0 + 12 + b) = σ 107 b) ∧ (∀ p, p < m → τ 145 (k0 + 18 + p) = σ 108 p ∧ τ 145 (k0 + 22 + p) = σ 109 p ∧ τ 145 (k0 + 26 + p) = σ 113 p ∧ τ 145 (k0 + 30 + p) = σ 114 p ∧ τ 145 (k0 + 34 + p) = σ 115 p ∧ τ 145 (k0 + 38 + p) = if σ 112 p = 0 then 0 else 1)
theorem Kp.bush {n k0 : Nat} {σ s : bl_S} (hn : n < 6) (h : Kp n 0 k0 σ s) : Kp (n + 1) 0 k0 σ (bl_up (bl_up (bl_up s 145 (k0 + n) (s 105 n)) 145 (k0 + 6 + n) (s 106 n)) 145 (k0 + 12 + n) (s 107 n)) := by
  obtain ⟨h1, h2, h3, h4⟩ := h
  refine ⟨fun c hc => by rw [bl_up_ne hc, bl_up_ne hc, bl_up_ne hc]; exact h1 c hc, fun j hj => by rw [bl_up_j (by omega), bl_up_j (by omega), bl_up_j (by omega)]; exact h2 j hj, fun b hb => ?_, fun p hp => by omega⟩
  by_cases e : b = n
  · subst e
    refine ⟨?_, ?_, ?_⟩
    · rw [bl_up_j (by omega), bl_up_j (by omega), bl_up_s, h1 105 (by omega)]
    · rw [bl_up_j (by omega), bl_up_s, h1 106 (by omega)]
    · rw [bl_up_s, h1 107 (by omega)]
  · obtain ⟨a1, a2, a3⟩ := h3 b (by omega)
    refine ⟨?_, ?_, ?_⟩
    · rw [bl_up_j (by omega), bl_up_j (by omega), bl_up_j (by omega)]; exact a1
    · rw [bl_up_j (by omega), bl_up_j (by omega), bl_up_j (by omega)]; exact a2
    · rw [bl_up_j (by omega), bl_up_j (by omega), bl_up_j (by omega)]; exact a3
theorem Kp.pick {m k0 : Nat} {σ s : bl_S} (hm : m < 4) (h : Kp 6 m k0 σ s) : Kp 6 (m + 1) k0 σ (bl_up (bl_up (bl_up (bl_up (bl_up (bl_up s 145 (k0 + 18 + m) (s 108 m)) 145 (k0 + 22 + m) (s 109 m)) 145 (k0 + 26 + m) (s 113 m)) 145 (k0 + 30 + m) (s 114 m)) 145 (k0 + 34 + m) (s 115 m)) 145 (k0 + 38 + m) (if s 112 m = 0 then 0 else 1)) := by
  obtain ⟨h1, h2, h3, h4⟩ := h
  refine ⟨fun c hc => by rw [bl_up_ne hc, bl_up_ne hc, bl_up_ne hc, bl_up_ne hc, bl_up_ne hc, bl_up_ne hc]; exact h1 c hc, fun j hj => by rw [bl_up_j (by omega), bl_up_j (by omega), bl_up_j (by omega), bl_up_j (by omega), bl_up_j (by omega), bl_up_j (by omega)]; exact h2 j hj, fun b hb => ?_, fun p hp => ?_⟩
  · obtain ⟨a1, a2, a3⟩ := h3 b hb
    refine ⟨?_, ?_, ?_⟩
    · rw [bl_up_j (by omega), bl_up_j (by omega), bl_up_j (by omega), bl_up_j (by omega), bl_up_j (by omega), bl_up_j (by omega)]; exact a1
    · rw [bl_up_j (by omega), bl_up_j (by omega), bl_up_j (by omega), bl_up_j (by omega), bl_up_j (by omega), bl_up_j (by omega)]; exact a2
    · rw [bl_up_j (by omega), bl_up_j (by omega), bl_up_j (by omega), bl_up_j (by omega), bl_up_j (by omega), bl_up_j (by omega)]; exact a3
  · by_cases e : p = m
    · subst e
      refine ⟨?_, ?_, ?_, ?_, ?_, ?_⟩
      · rw [bl_up_j (by omega), bl_up_j (by omega), bl_up_j (by omega), bl_up_j (by omega), bl_up_j (by omega), bl_up_s, h1 108 (by omega)]
      · rw [bl_up_j (by omega), bl_up_j (by omega), bl_up_j (by omega), bl_up_j (by omega), bl_up_s, h1 109 (by omega)]
      · rw [bl_up_j (by omega), bl_up_j (by omega), bl_up_j (by omega), bl_up_s, h1 113 (by omega)]
      · rw [bl_up_j (by omega), bl_up_j (by omega), bl_up_s, h1 114 (by omega)]
      · rw [bl_up_j (by omega), bl_up_s, h1 115 (by omega)]
      · rw [bl_up_s, h1 112 (by omega)]
    · obtain ⟨a1, a2, a3, a4, a5, a6⟩ := h4 p (by omega)
      refine ⟨?_, ?_, ?_, ?_, ?_, ?_⟩
      · rw [bl_up_j (by omega), bl_up_j (by omega), bl_up_j (by omega), bl_up_j (by omega), bl_up_j (by omega), bl_up_j (by omega)]; exact a1
      · rw [bl_up_j (by omega), bl_up_j (by omega), bl_up_j (by omega), bl_up_j (by omega), bl_up_j (by omega), bl_up_j (by omega)]; exact a2
      · rw [bl_up_j (by omega), bl_up_j (by omega), bl_up_j (by omega), bl_up_j (by omega), bl_up_j (by omega), bl_up_j (by omega)]; exact a3
      · rw [bl_up_j (by omega), bl_up_j (by omega), bl_up_j (by omega), bl_up_j (by omega), bl_up_j (by omega), bl_up_j (by omega)]; exact a4
      · rw [bl_up_j (by omega), bl_up_j (by omega), bl_up_j (by omega), bl_up_j (by omega), bl_up_j (by omega), bl_up_j (by omega)]; exact a5
      · rw [bl_up_j (by omega), bl_up_j (by omega), bl_up_j (by omega), bl_up_j (by omega), bl_up_j (by omega), bl_up_j (by omega)]; exact a6
theorem c_X11_keep (σ : bl_S) {i : Nat} (hi : i < 2) : ∃ τ, (∃ t, Kp 6 4 (50 * i) σ t ∧ τ = bl_up (bl_up (bl_up t 145 (50 * i + 42) (σ 1 20)) 145 (50 * i + 43) (σ 1 21)) 146 i 1) ∧ bl_Con (bl_mi 172) [.ref 1, .int (nI i)] σ (some (.int 1)) τ := by
  have h2 : vp_in (nI i) 2 := vp_in_nI hi (by omega)
  have c2 : Int32.toNatClampNeg (nI i) = i := nI_clamp (by omega)
  have hw : ¬ wi (nI i) 0 1 = 0 := by
    rcases (show i = 0 ∨ i = 1 by omega) with rfl | rfl <;> decide
  have e50 : (50 : Int32) * nI i = nI (50 * i) := by
    rcases (show i = 0 ∨ i = 1 by omega) with rfl | rfl <;> rfl
  have I0 : ∀ b, b < 50 → nI (50 * i) + nI b = nI (50 * i + b) := fun b hb => nI_add _ _
  have I1 : ∀ k b : Nat, (nI (50 * i) + nI k) + nI b = nI (50 * i + k + b) := fun k b => by rw [nI_add, nI_add]
  have loopP : ∀ s, Kp 6 0 (50 * i) σ s → Ev (bl_mi 172) 82 [(0, .ref 1), (1, .int (nI i)), (2, .int (nI (50 * i))), (3, .int (nI 0))] s 1 (fun τ => ∃ t, Kp 6 4 (50 * i) σ t ∧ τ = bl_up (bl_up (bl_up t 145 (50 * i + 42) (σ 1 20)) 145 (50 * i + 43) (σ 1 21)) 146 i 1) := by
    refine bl_dn (N := 4) (P := fun m => ∀ s, Kp 6 m (50 * i) σ s → Ev (bl_mi 172) 82 [(0, .ref 1), (1, .int (nI i)), (2, .int (nI (50 * i))), (3, .int (nI m))] s 1 (fun τ => ∃ t, Kp 6 4 (50 * i) σ t ∧ τ = bl_up (bl_up (bl_up t 145 (50 * i + 42) (σ 1 20)) 145 (50 * i + 43) (σ 1 21)) 146 i 1)) ?_ ?_
    · intro s h
      refine ⟨_, ⟨s, h, rfl⟩, vc_X11_keep_82 _ _ _ _ ⟨fun q => absurd q (by decide), fun _ => ?_⟩⟩
      rw [show nI (50 * i) + (42 : Int32) = nI (50 * i + 42) from nI_add _ 42, show nI (50 * i) + (43 : Int32) = nI (50 * i + 43) from nI_add _ 43, n100 (by omega), n100 (by omega), c2, h.1 1 (by omega)]
      exact ⟨v100 (by omega), v100 (by omega), h2, rfl, rfl⟩
    · intro m hm ih s h
      obtain ⟨τ, hP, hW⟩ := ih _ (h.pick hm)
      refine ⟨τ, hP, vc_X11_keep_82 _ _ _ _ ⟨fun _ => ?_, fun q => absurd (by rw [show (4 : Int32) = nI 4 from rfl]; exact nI_lt hm (by omega)) q⟩⟩
      rw [show (nI (50 * i) + (18 : Int32)) + nI m = nI (50 * i + 18 + m) from I1 18 m, show (nI (50 * i) + (22 : Int32)) + nI m = nI (50 * i + 22 + m) from I1 22 m, show (nI (50 * i) + (26 : Int32)) + nI m = nI (50 * i + 26 + m) from I1 26 m, show (nI (50 * i) + (30 : Int32)) + nI m = nI (50 * i + 30 + m) from I1 30 m, show (nI (50 * i) + (34 : Int32)) + nI m = nI (50 * i + 34 + m) from I1 34 m, show (nI (50 * i) + (38 : Int32)) + nI m = nI (50 * i + 38 + m) from I1 38 m]
      refine ⟨vip hm, v100 (by omega), v100 (by omega), v100 (by omega), v100 (by omega), v100 (by omega), fun v e => ⟨v100 (by omega), ?_⟩⟩
      rw [ntp hm, n100 (by omega), n100 (by omega), n100 (by omega), n100 (by omega), n100 (by omega), n100 (by omega), nI_1]
      rw [ntp hm] at e
      rw [e]
      exact hW
  have loopB : ∀ s, Kp 0 0 (50 * i) σ s → Ev (bl_mi 172) 20 [(0, .ref 1), (1, .int (nI i)), (2, .int (nI (50 * i))), (3, .int (nI 0))] s 1 (fun τ => ∃ t, Kp 6 4 (50 * i) σ t ∧ τ = bl_up (bl_up (bl_up t 145 (50 * i + 42) (σ 1 20)) 145 (50 * i + 43) (σ 1 21)) 146 i 1) := by
    refine bl_dn (N := 6) (P := fun m => ∀ s, Kp m 0 (50 * i) σ s → Ev (bl_mi 172) 20 [(0, .ref 1), (1, .int (nI i)), (2, .int (nI (50 * i))), (3, .int (nI m))] s 1 (fun τ => ∃ t, Kp 6 4 (50 * i) σ t ∧ τ = bl_up (bl_up (bl_up t 145 (50 * i + 42) (σ 1 20)) 145 (50 * i + 43) (σ 1 21)) 146 i 1)) ?_ ?_
    · intro s h
      obtain ⟨τ, hP, hW⟩ := loopP s h
      exact ⟨τ, hP, vc_X11_keep_20 _ _ _ _ ⟨fun q => absurd q (by decide), fun _ => hW⟩⟩
    · intro m hm ih s h
      obtain ⟨τ, hP, hW⟩ := ih _ (h.bush hm)
      refine ⟨τ, hP, vc_X11_keep_20 _ _ _ _ ⟨fun _ => ?_, fun q => absurd (by rw [show (6 : Int32) = nI 6 from rfl]; exact nI_lt hm (by omega)) q⟩⟩
      rw [show nI (50 * i) + nI m = nI (50 * i + m) from nI_add _ _, show (nI (50 * i) + (6 : Int32)) + nI m = nI (50 * i + 6 + m) from I1 6 m, show (nI (50 * i) + (12 : Int32)) + nI m = nI (50 * i + 12 + m) from I1 12 m]
      refine ⟨vib hm, v100 (by omega), v100 (by omega), v100 (by omega), ?_⟩
      rw [ntb hm, n100 (by omega), n100 (by omega), n100 (by omega), nI_1]
      exact hW
  obtain ⟨τ, hP, hW⟩ := loopB σ ⟨fun _ _ => rfl, fun _ _ => rfl, fun b hb => by omega, fun p hp => by omega⟩
  refine ⟨τ, hP, bl_c (Nat.le_of_ble_eq_true rfl) (vc_X11_keep_0 σ _ ⟨_, _, c_X11_in σ (nI i) 0 1 (by decide) (by decide), fun q => absurd q hw, fun _ => ?_⟩)⟩
  rw [e50]
  exact hW
theorem hi01 {x : Int32} {h : Nat} (hh : h ≤ 1) (e : x = nI h) : (if x = 0 then (0 : Int32) else 1) = x := by
  rcases (show h = 0 ∨ h = 1 by omega) with rfl | rfl
  · rw [e]; rfl
  · rw [e]; rfl
theorem pr_keep {σ : bl_S} (h : Inv σ) (x : Int32) : Pr 99 172 [.int x] σ := by
  obtain ⟨nb, np, nt, a, b, c, hl, hb, hp, hz, ht, hs', hm'⟩ := id h
  have hn := hl.1
  have hn2 := hl.2.1
  by_cases g : wi x 0 1 = 0
  · exact ⟨-1000000001, σ, σ, bl_c (Nat.le_of_ble_eq_true rfl) (vc_X10_keep_0 σ x ⟨_, _, c_X10_within σ x 0 1, fun _ => ⟨rfl, rfl⟩, fun q => absurd g q⟩), bl_c (Nat.le_of_ble_eq_true rfl) (vc_X11_keep_0 σ x ⟨_, _, c_X11_in σ x 0 1 (by decide) (by decide), fun _ => ⟨rfl, rfl⟩, fun q => absurd g q⟩), h⟩
  obtain ⟨i, i0, i1, rfl⟩ := wi_c (a := 0) (b := 1) (by omega) (by omega) g
  have hi2 : i < 2 := by omega
  have c2 : Int32.toNatClampNeg (nI i) = i := nI_clamp (by omega)
  have hB : isL (24 + 14 * i) := by
    rcases (show i = 0 ∨ i = 1 by omega) with rfl | rfl
    · exact Or.inr (Or.inl rfl)
    · exact Or.inr (Or.inr (Or.inl rfl))
  obtain ⟨τ1, ⟨t, hS, e1⟩, hC⟩ := c_X3_copyFrom σ hB (M := 10) (Or.inl rfl) (by omega) (fun p hp4 => (hz p hp4).1)
  have conC : bl_Con (bl_mi 99) [.ref 0, .int (nI i)] σ (some (.int 1)) (bl_up τ1 66 i 1) := by
    refine bl_c (Nat.le_of_ble_eq_true rfl) (vc_X10_keep_0 σ _ ⟨_, _, c_X10_within σ _ 0 1, fun q => absurd q g, fun _ => ⟨vp_in_nI hi2 (by omega), ?_⟩⟩)
    rw [c2]
    exact ⟨(isL_kd hB).1, _, hC, rfl, rfl⟩
  obtain ⟨B, eB⟩ : ∃ B, B = 24 + 14 * i := ⟨_, rfl⟩
  rw [← eB] at hS e1 hB
  obtain ⟨s1, s2, ⟨s3, s4, s5, s6⟩, s7, s8⟩ := hS
  obtain ⟨u, eu⟩ : ∃ u, u = bl_up τ1 66 i 1 := ⟨_, rfl⟩
  have uc : ∀ d, ¬ (B ≤ d ∧ d ≤ B + 13) → d ≠ 66 → u d = σ d := fun d hd h66 => by rw [eu, bl_up_ne h66, e1, bl_up_ne (by omega), s1 d hd]
  obtain ⟨υ, ⟨t2, hK, e2⟩, hM⟩ := c_X11_keep u hi2
  obtain ⟨k1, k2, k3, k4⟩ := hK
  rw [← eu] at conC
  have vc : ∀ d, d ≠ 145 → d ≠ 146 → υ d = u d := fun d h5 h6 => by rw [e2, bl_up_ne h6, bl_up_ne h5, bl_up_ne h5, k1 d h5]
  have vs : ∀ d, d ≠ 145 → d ≠ 146 → ¬ (B ≤ d ∧ d ≤ B + 13) → d ≠ 66 → υ d = σ d := fun d h5 h6 h7 h8 => (vc d h5 h6).trans (uc d h7 h8)
  have vB : ∀ d k, B ≤ d → d ≤ B + 13 → (d ≠ B ∨ k ≠ 6) → υ d k = t d k := fun d k q1 q2 q3 => by
    rw [vc d (by omega) (by omega), eu, bl_up_c (by omega), e1]
    rcases q3 with q3 | q3
    · rw [bl_up_c q3]
    · rw [bl_up_j q3]
  refine ⟨1, u, υ, conC, hM, nb, np, nt, a, b, c, ?_, ?_, ?_, ?_, ?_, ?_, ?_⟩
  · exact hl.fr (vs 10 (by omega) (by omega) (by omega) (by omega)) (vs 11 (by omega) (by omega) (by omega) (by omega)) (fun k _ => by rw [vs 1 (by omega) (by omega) (by omega) (by omega)])
  · exact hb.fr hn (fun d hd => vs d (by omega) (by omega) (by omega) (by omega))
  · exact hp.fr hn2 (fun d hd => vs d (by omega) (by omega) (by omega) (by omega))
  · intro p hp4
    obtain ⟨z1, z2, z3, z4⟩ := hz p hp4
    rw [vs (20 + p) (by omega) (by omega) (by omega) (by omega), vs (62 + p) (by omega) (by omega) (by omega) (by omega), vs 71 (by omega) (by omega) (by omega) (by omega), vs 72 (by omega) (by omega) (by omega) (by omega)]
    have z5 : t (B + 10 + p) 4 = σ (20 + p) 4 := s8 p 4 hp4 (by omega)
    have z6 : υ (B + 10 + p) 4 = σ (20 + p) 4 := by rw [vB _ _ (by omega) (by omega) (Or.inl (by omega)), z5]
    refine ⟨z1, ?_, ?_, z4⟩
    · rcases (show i = 0 ∨ i = 1 by omega) with rfl | rfl
      · rw [show 34 + p = B + 10 + p by omega, z6]
        exact z1
      · rw [vs (34 + p) (by omega) (by omega) (by omega) (by omega)]
        exact z2
    · rcases (show i = 0 ∨ i = 1 by omega) with rfl | rfl
      · rw [vs (48 + p) (by omega) (by omega) (by omega) (by omega)]
        exact z3
      · rw [show 48 + p = B + 10 + p by omega, z6]
        exact z1
  · exact ht.fr (vs 0 (by omega) (by omega) (by omega) (by omega)) (by rw [vs 2 (by omega) (by omega) (by omega) (by omega)]) (vs 67 (by omega) (by omega) (by omega) (by omega)) (vs 116 (by omega) (by omega) (by omega) (by omega)) (fun k _ => by rw [vs 1 (by omega) (by omega) (by omega) (by omega)])
  · exact hs'.fr (fun d hd => vs d (by omega) (by omega) (by omega) (by omega)) (fun k _ => by rw [vs 1 (by omega) (by omega) (by omega) (by omega)])
  · intro i' hi'
    obtain ⟨q1, q2⟩ := hm' i' hi'
    have v145 : ∀ j, ¬ (50 * i ≤ j ∧ j < 50 * i + 44) → υ 145 j = σ 145 j := fun j hj => by
      rw [e2, bl_up_c (by omega), bl_up_j (by omega), bl_up_j (by omega), k2 j hj, uc 145 (by omega) (by omega)]
    have w145 : ∀ j, j < 50 * i + 42 → υ 145 j = t2 145 j := fun j hj => by
      rw [e2, bl_up_c (by omega), bl_up_j (by omega), bl_up_j (by omega)]
    by_cases e : i' = i
    · subst e
      have e66 : υ 66 i' = 1 := by rw [vc 66 (by omega) (by omega), eu, bl_up_s]
      have e146 : υ 146 i' = 1 := by rw [e2, bl_up_s]
      refine ⟨by rw [e66, e146], Or.inr ⟨e66, ?_⟩⟩
      rw [← eB]
      refine ⟨?_, ?_, ?_, ?_, ?_, ?_, ?_, ?_⟩
      · rw [vB B 3 (by omega) (by omega) (Or.inr (by omega)), s3]
        exact hl.2.2.1
      · rw [vB B 4 (by omega) (by omega) (Or.inr (by omega)), s4]
        exact hl.2.2.2.2.1
      · rw [vB B 5 (by omega) (by omega) (Or.inr (by omega)), s5, e2, bl_up_c (by omega), bl_up_j (by omega), bl_up_s, uc 1 (by omega) (by omega)]
        exact hl.2.2.2.2.2.2.2.1
      · rw [vc B (by omega) (by omega), eu, bl_up_c (by omega), e1, bl_up_s, e2, bl_up_c (by omega), bl_up_s, uc 1 (by omega) (by omega)]
        exact hl.2.2.2.2.2.2.2.2.1
      · rw [vc B (by omega) (by omega), eu, bl_up_c (by omega), e1, bl_up_s, hl.2.2.2.2.2.2.2.2.1]
        exact hl.2.2.2.2.2.2.2.2.2.1
      · intro k hk
        rw [vB (B + 1) k (by omega) (by omega) (Or.inl (by omega)), s2 k hk, vs 11 (by omega) (by omega) (by omega) (by omega)]
      · intro b' hb'
        have b6 : b' < 6 := by omega
        obtain ⟨r1, r2⟩ := hb b' hb'
        have r3 : ∀ k, k < 6 → υ (B + 4 + b') k = σ (14 + b') k := fun k hk => by rw [vB _ _ (by omega) (by omega) (Or.inl (by omega)), s7 b' k b6 hk]
        obtain ⟨y1, y2, y3, rd, rp, sf, -, -, -, hr, -, -, -, x4, x5, x6⟩ := r2
        obtain ⟨j1, j2, j3⟩ := k3 b' b6
        rw [uc 105 (by omega) (by omega)] at j1
        rw [uc 106 (by omega) (by omega)] at j2
        rw [uc 107 (by omega) (by omega)] at j3
        refine ⟨fun k hk => by rw [r3 k (by omega), vs (14 + b') (by omega) (by omega) (by omega) (by omega)], ?_, ?_, ?_, rd, rp, sf, hr, ?_, ?_, ?_⟩
        · rw [r3 3 (by omega), w145 _ (by omega), j1]
          exact r1 3 (by omega)
        · rw [r3 4 (by omega), w145 _ (by omega), j2]
          exact r1 4 (by omega)
        · rw [r3 5 (by omega), w145 _ (by omega), j3]
          exact r1 5 (by omega)
        · rw [r3 3 (by omega), r1 3 (by omega)]; exact x4
        · rw [r3 4 (by omega), r1 4 (by omega)]; exact x5
        · rw [r3 5 (by omega), r1 5 (by omega)]; exact x6
      · intro p hpn
        have p4 : p < 4 := by omega
        obtain ⟨r1, r2⟩ := hp p hpn
        have r3 : ∀ k, k < 8 → υ (B + 10 + p) k = σ (20 + p) k := fun k hk => by rw [vB _ _ (by omega) (by omega) (Or.inl (by omega)), s8 p k p4 hk]
        obtain ⟨y, s, q, ee, hh, y1, y2, -, -, -, y6, x1, x2, -, -, x5⟩ := r2
        obtain ⟨j1, j2, j3, j4, j5, j6⟩ := k4 p p4
        rw [uc 108 (by omega) (by omega)] at j1
        rw [uc 109 (by omega) (by omega)] at j2
        rw [uc 113 (by omega) (by omega)] at j3
        rw [uc 114 (by omega) (by omega)] at j4
        rw [uc 115 (by omega) (by omega)] at j5
        rw [uc 112 (by omega) (by omega), hi01 y6 x5] at j6
        refine ⟨?_, ?_, ?_, ?_, ?_, ?_, ?_, ?_, y, s, y1, y2, ?_, ?_⟩
        · rw [r3 2 (by omega), vs (20 + p) (by omega) (by omega) (by omega) (by omega)]
        · rw [r3 3 (by omega), vs (20 + p) (by omega) (by omega) (by omega) (by omega)]
        · rw [r3 0 (by omega), w145 _ (by omega), j1]; exact r1 0 (by omega)
        · rw [r3 1 (by omega), w145 _ (by omega), j2]; exact r1 1 (by omega)
        · rw [r3 5 (by omega), w145 _ (by omega), j3]; exact r1 5 (by omega)
        · rw [r3 6 (by omega), w145 _ (by omega), j4]; exact r1 6 (by omega)
        · rw [r3 7 (by omega), w145 _ (by omega), j5]; exact r1 7 (by omega)
        · rw [r3 4 (by omega), w145 _ (by omega), j6]; exact r1 4 (by omega)
        · rw [r3 0 (by omega), r1 0 (by omega)]; exact x1
        · rw [r3 1 (by omega), r1 1 (by omega)]; exact x2
    · have e66 : υ 66 i' = σ 66 i' := by rw [vc 66 (by omega) (by omega), eu, bl_up_j e, e1, bl_up_c (by omega), s1 66 (by omega)]
      have e146 : υ 146 i' = σ 146 i' := by rw [e2, bl_up_j e, bl_up_c (by omega), bl_up_c (by omega), k1 146 (by omega), uc 146 (by omega) (by omega)]
      rw [e66, e146]
      exact ⟨q1, q2.imp id (fun q => ⟨q.1, q.2.fr3 hn hn2 (fun d hd => vs d (by omega) (by omega) (by omega) (by omega)) (fun k _ => by rw [vs 11 (by omega) (by omega) (by omega) (by omega)]) (fun j q1 q2 => v145 j (by omega)) (fun b' k _ _ => by rw [vs (14 + b') (by omega) (by omega) (by omega) (by omega)]) (fun p k _ _ => by rw [vs (20 + p) (by omega) (by omega) (by omega) (by omega)])⟩)⟩
