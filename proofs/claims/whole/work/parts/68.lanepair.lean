/-! LANE: the class, and the pair -/
theorem pr_lane {σ : bl_S} (h : Inv σ) : Pr 66 115 [] σ := by
  obtain ⟨nb, np, nt, a, b, c, hl, hb, hp, hz, ⟨t1, t2, t3, t4, t5⟩, hs', hm'⟩ := id h
  have hn := hl.1
  have hn2 := hl.2.1
  obtain ⟨T, eT⟩ : ∃ T : Nat → Nat, T = fun j => Int32.toNatClampNeg (σ 116 j) := ⟨_, rfl⟩
  have hT : ∀ j, j < nt → T j ≤ 255 ∧ σ 116 j = nI (T j) := fun j hj => by
    obtain ⟨-, ch, h1, h2⟩ := t4 j hj
    have : T j = ch := by
      rw [eT]
      show Int32.toNatClampNeg (σ 116 j) = ch
      rw [h2, nI_clamp (by omega)]
    rw [this]
    exact ⟨h1, h2⟩
  have hTC : TX 67 T nt σ := ⟨t1, fun j hj => (hT j hj).1, fun j hj => by rw [(t4 j hj).1]; exact (hT j hj).2⟩
  have hTM : TX 116 T nt σ := ⟨t1, fun j hj => (hT j hj).1, fun j hj => (hT j hj).2⟩
  have hPZ : PZ σ := fun p hp4 => by
    obtain ⟨z1, z2, z3, z4, z5, z6, z7, z8, -⟩ := hz p hp4
    exact ⟨z4, z5, z6, z7, z8⟩
  obtain ⟨-, -, -, -, -, -, -, -, hz1, hz2⟩ := hz 0 (by omega)
  obtain ⟨τ1, hE, hRA⟩ := raC hTC t2 hPZ
  -- the reference, from any state that has the same text
  have ref : ∀ τ : bl_S, τ 116 = σ 116 → τ 1 23 = σ 1 23 → ∃ υ, (((psD T nt (nt + 1) (fun _ _ => 0) (skp T nt 0)).1 = 0 → FS (psD T nt (nt + 1) (fun _ _ => 0) (skp T nt 0)).2.2 τ υ) ∧ ((psD T nt (nt + 1) (fun _ _ => 0) (skp T nt 0)).1 ≠ 0 → FF (psD T nt (nt + 1) (fun _ _ => 0) (skp T nt 0)).2.1 τ υ)) ∧ bl_Con (bl_mi 115) [.ref 1] τ (some (.int (if (psD T nt (nt + 1) (fun _ _ => 0) (skp T nt 0)).1 = 0 then nI ((psD T nt (nt + 1) (fun _ _ => 0) (skp T nt 0)).2.2 0 2) else -10 - nI (psD T nt (nt + 1) (fun _ _ => 0) (skp T nt 0)).1))) υ := fun τ e1 e2 => lnM ⟨hTM.1, hTM.2.1, fun j hj => by rw [e1]; exact hTM.2.2 j hj⟩ (by rw [e2]; exact t3)
  generalize psD T nt (nt + 1) (fun _ _ => 0) (skp T nt 0) = r at *
  obtain ⟨fr, e21, pz, r3, hok, hbad⟩ := hE
  obtain ⟨u0, eu0⟩ : ∃ u0, u0 = bl_up τ1 0 10 (τ1 2 2) := ⟨_, rfl⟩
  have uc : ∀ d, d ≠ 0 → u0 d = τ1 d := fun d z => by rw [eu0, bl_up_ne z]
  have uf : ∀ d, d < 52 ∨ 65 < d → d ≠ 2 → d ≠ 68 → d ≠ 0 → u0 d = σ d := fun d z1 z2 z3 z4 => by rw [uc d z4]; exact fr d z1 z2 z3
  by_cases q : r.1 = 0
  · -- no fault
    obtain ⟨f22, hDV, hokD⟩ := hok q
    obtain ⟨D, eD⟩ : ∃ D, D = r.2.2 := ⟨_, rfl⟩
    rw [← eD] at hDV hokD
    obtain ⟨d1, d2, d3, d4, d5, d6, d7⟩ := hDV
    obtain ⟨o1, o2, o3, o4, o5, o6, o7, o8⟩ := id hokD
    obtain ⟨tS, hS, hC⟩ := c_X3_startAs u0 (L := 10) (M := 52) (Or.inl rfl) (Or.inr (Or.inr (Or.inr rfl))) (by omega) (fun p hp4 => by rw [show 52 + 10 + p = 62 + p by omega, uc (62 + p) (by omega)]; exact (pz p hp4).1)
    obtain ⟨S1, S2, ⟨S3, S4, S5, S6⟩, S7, S8⟩ := hS
    have hcl := c_X8_clearAll tS
    obtain ⟨t9, e9⟩ : ∃ t9, t9 = bl_up (bl_up (bl_up tS 83 4 0) 84 4 0) 85 4 0 := ⟨_, rfl⟩
    rw [← e9] at hcl
    have c9 : ∀ d, d ≠ 83 → d ≠ 84 → d ≠ 85 → t9 d = tS d := fun d z1 z2 z3 => by rw [e9, bl_up_ne z3, bl_up_ne z2, bl_up_ne z1]
    obtain ⟨τ, eτ⟩ : ∃ τ, τ = bl_up (bl_up t9 66 0 0) 66 1 0 := ⟨_, rfl⟩
    have tc : ∀ d, d ≠ 66 → τ d = t9 d := fun d z => by rw [eτ, bl_up_ne z, bl_up_ne z]
    -- τ, cell by cell
    have g0 : ∀ d, ¬ (10 ≤ d ∧ d ≤ 23) → d ≠ 66 → d ≠ 83 → d ≠ 84 → d ≠ 85 → τ d = u0 d := fun d z1 z2 z3 z4 z5 => by rw [tc d z2, c9 d z3 z4 z5, S1 d (by omega)]
    have gσ : ∀ d, d < 52 ∨ 65 < d → ¬ (10 ≤ d ∧ d ≤ 23) → d ≠ 0 → d ≠ 2 → d ≠ 66 → d ≠ 68 → d ≠ 83 → d ≠ 84 → d ≠ 85 → τ d = σ d := fun d z0 z1 z2 z3 z4 z5 z6 z7 z8 => by rw [g0 d z1 z4 z6 z7 z8]; exact uf d z0 z3 z5 z2
    have g10 : ∀ k, τ 10 k = tS 10 k := fun k => by rw [tc 10 (by omega), c9 10 (by omega) (by omega) (by omega)]
    have g11 : ∀ k, k < 3 → τ 11 k = nI (D 1 k) := fun k hk => by
      rw [tc 11 (by omega), c9 11 (by omega) (by omega) (by omega)]
      have := S2 k (by omega)
      rw [show 10 + 1 = 11 from rfl, show 52 + 1 = 53 from rfl] at this
      rw [this, uc 53 (by omega)]
      exact d1 k hk
    have g113 : τ 11 3 = if D 0 4 = 0 then 999 else nI (D 0 4) := by
      rw [tc 11 (by omega), c9 11 (by omega) (by omega) (by omega)]
      have := S2 3 (by omega)
      rw [show 10 + 1 = 11 from rfl, show 52 + 1 = 53 from rfl] at this
      rw [this, uc 53 (by omega)]
      exact d2
    have gB : ∀ b k, b < 6 → k < 6 → τ (14 + b) k = τ1 (56 + b) k := fun b k z1 z2 => by
      rw [tc (14 + b) (by omega), c9 (14 + b) (by omega) (by omega) (by omega)]
      have := S7 b k z1 z2
      rw [show 10 + 4 + b = 14 + b by omega, show 52 + 4 + b = 56 + b by omega] at this
      rw [this, uc (56 + b) (by omega)]
    have gP : ∀ p k, p < 4 → k < 8 → τ (20 + p) k = τ1 (62 + p) k := fun p k z1 z2 => by
      rw [tc (20 + p) (by omega), c9 (20 + p) (by omega) (by omega) (by omega)]
      have := S8 p k z1 z2
      rw [show 10 + 10 + p = 20 + p by omega, show 52 + 10 + p = 62 + p by omega] at this
      rw [this, uc (62 + p) (by omega)]
    have h103 : τ 10 3 = nI (D 0 2) := by rw [g10 3, S3, uc 52 (by omega)]; exact d3
    obtain ⟨υ, ⟨hFS, -⟩, hM⟩ := ref τ (gσ 116 (by omega) (by omega) (by omega) (by omega) (by omega) (by omega) (by omega) (by omega) (by omega)) (by rw [gσ 1 (by omega) (by omega) (by omega) (by omega) (by omega) (by omega) (by omega) (by omega) (by omega)])
    have hFS := hFS q
    rw [if_pos q, ← eD] at hM
    rw [← eD] at hFS
    rw [q] at hRA
    obtain ⟨F1, F2, F3, F4, F5, F6, F7, F8, F9, F10, F11, F12, F13, F14, F15, F16⟩ := hFS
    have τ1c : τ 1 = σ 1 := gσ 1 (by omega) (by omega) (by omega) (by omega) (by omega) (by omega) (by omega) (by omega) (by omega)
    have uF : ∀ d, d ≠ 1 → d < 102 → υ d = τ d := fun d z1 z2 => F1 d z1 (by omega) (by omega) (by omega)
    refine ⟨nI (D 0 2), τ, υ, bl_c (Nat.le_of_ble_eq_true rfl) (vc_X10_lane_0 σ ⟨_, _, hRA, fun _ => ?_, fun z => absurd rfl z⟩), hM, D 0 2, D 0 3, 0, 0, 0, 0, ?_, ?_, ?_, ?_, ?_, ?_, ?_⟩
    · rw [← eu0]
      refine ⟨_, hC, _, _, hcl, ?_⟩
      refine vc_X10_lane_52 _ _ _ ⟨fun _ => ⟨vp_in_nI (n := 0) (by omega) (by omega), ?_⟩, fun z => absurd (by decide) z⟩
      rw [vnar01 (Or.inl rfl)]
      refine vc_X10_lane_52 _ _ _ ⟨fun _ => ⟨vp_in_nI (n := 1) (by omega) (by omega), ?_⟩, fun z => absurd (by decide) z⟩
      rw [vnar01 (Or.inl rfl)]
      refine vc_X10_lane_52 _ _ _ ⟨fun z => absurd z (by decide), fun _ => ?_⟩
      have e : bl_up (bl_up t9 66 (Int32.toNatClampNeg 0) 0) 66 (Int32.toNatClampNeg (0 + 1)) 0 = τ := by rw [eτ]; rfl
      rw [e, h103]
      exact ⟨rfl, rfl⟩
    · -- Jl
      refine ⟨o2, o3, by rw [uF 10 (by omega) (by omega)]; exact h103, F7, by rw [uF 10 (by omega) (by omega), g10 4, S4, uc 52 (by omega)]; exact d4, F8, fun k hk => ?_, ?_, ?_, ?_, ?_, ?_⟩
      · rw [uF 11 (by omega) (by omega)]
        rcases (show k < 3 ∨ k = 3 by omega) with z | z
        · rw [g11 k z, F5 k z]
        · rw [z, g113, F6]
      · rw [uF 10 (by omega) (by omega), g10 5, S5, uc 52 (by omega), F9]
        exact d5
      · rw [uF 10 (by omega) (by omega), g10 6, S6 6 (by omega) (by omega) (by omega), uf 10 (by omega) (by omega) (by omega) (by omega), F4, τ1c]
        exact hl.2.2.2.2.2.2.2.2.1
      · rw [F4, τ1c]
        exact hl.2.2.2.2.2.2.2.2.2.1
      · by_cases z : D 0 1 = 0
        · obtain ⟨y1, y2, y3, y4⟩ := o5 z
          refine Or.inr ⟨y1, y2, ?_, ?_, ?_⟩
          · rw [F5 0 (by omega), y4 0 (by omega)]; rfl
          · rw [F5 1 (by omega), y4 1 (by omega)]; rfl
          · rw [F5 2 (by omega), y4 2 (by omega)]; rfl
        · have y := o6 (by omega)
          have y0 := y 0 (by omega)
          have y1 := y 1 (by omega)
          have y2 := y 2 (by omega)
          exact Or.inl ⟨D 1 0, D 1 1, D 1 2, y0.1, y0.2, y1.1, y1.2, y2.1, y2.2, F5 0 (by omega), F5 1 (by omega), F5 2 (by omega)⟩
      · by_cases z : D 0 4 = 0
        · exact ⟨999, by omega, by omega, by rw [F6, if_pos z]; rfl⟩
        · exact ⟨D 0 4, by omega, o4, by rw [F6, if_neg z]⟩
    · -- Jb
      intro b hbn
      have b6 : b < 6 := by omega
      have y := o7 b hbn
      refine ⟨fun k hk => ?_, D (2 + b) 0, D (2 + b) 1, D (2 + b) 2, D (2 + b) 3, D (2 + b) 4, D (2 + b) 5, by omega, by omega, by omega, by omega, F15 b 0 hbn (by omega), F15 b 1 hbn (by omega), F15 b 2 hbn (by omega), F15 b 3 hbn (by omega), F15 b 4 hbn (by omega), F15 b 5 hbn (by omega)⟩
      rw [uF (14 + b) (by omega) (by omega), gB b k b6 hk, F15 b k hbn hk]
      exact d6 b k hbn hk
    · -- Jp
      intro p hpn
      have p4 : p < 4 := by omega
      have y := o8 p hpn
      obtain ⟨k0, k1, k2, k3, k4, k5, k6, k7⟩ := F16 p hpn
      obtain ⟨w1, w2, w3, w4⟩ := d7 p hpn
      obtain ⟨-, x1, x5, x6, x7⟩ := pz p p4
      refine ⟨fun k hk => ?_, D (8 + p) 0, 0, D (8 + p) 1, D (8 + p) 2, D (8 + p) 3, by omega, by omega, by omega, by omega, by omega, by omega, k0, by rw [k1]; rfl, k2, k3, k4⟩
      rw [uF (20 + p) (by omega) (by omega), gP p k p4 hk]
      rcases (show k = 0 ∨ k = 1 ∨ k = 2 ∨ k = 3 ∨ k = 4 ∨ k = 5 ∨ k = 6 ∨ k = 7 by omega) with rfl | rfl | rfl | rfl | rfl | rfl | rfl | rfl
      · rw [w1]; exact k0.symm
      · rw [x1]; exact k1.symm
      · rw [w2]; exact k2.symm
      · rw [w3]; exact k3.symm
      · rw [w4]; exact k4.symm
      · rw [x5]; exact k5.symm
      · rw [x6]; exact k6.symm
      · rw [x7]; exact k7.symm
    · -- Jz
      intro p hp4
      obtain ⟨x0, x1, x5, x6, x7⟩ := pz p hp4
      obtain ⟨-, z2, z3, -⟩ := hz p hp4
      have e62 : υ (62 + p) = τ1 (62 + p) := by rw [uF (62 + p) (by omega) (by omega), g0 (62 + p) (by omega) (by omega) (by omega) (by omega) (by omega), uc (62 + p) (by omega)]
      rw [e62, uF (20 + p) (by omega) (by omega), gP p 4 hp4 (by omega), uF (34 + p) (by omega) (by omega), gσ (34 + p) (by omega) (by omega) (by omega) (by omega) (by omega) (by omega) (by omega) (by omega) (by omega), uF (48 + p) (by omega) (by omega), gσ (48 + p) (by omega) (by omega) (by omega) (by omega) (by omega) (by omega) (by omega) (by omega) (by omega), uF 71 (by omega) (by omega), gσ 71 (by omega) (by omega) (by omega) (by omega) (by omega) (by omega) (by omega) (by omega) (by omega), uF 72 (by omega) (by omega), gσ 72 (by omega) (by omega) (by omega) (by omega) (by omega) (by omega) (by omega) (by omega) (by omega)]
      exact ⟨x0, z2, z3, x0, x1, x5, x6, x7, hz1, hz2⟩
    · -- Jt
      refine ⟨by omega, ?_, by rw [F10]; rfl, fun i hi => by omega, ?_⟩
      · rw [uF 2 (by omega) (by omega), g0 2 (by omega) (by omega) (by omega) (by omega) (by omega), uc 2 (by omega), e21]
        rfl
      · rw [uF 0 (by omega) (by omega), g0 0 (by omega) (by omega) (by omega) (by omega) (by omega), eu0, bl_up_s, f22, F11]
    · -- Js
      obtain ⟨s0, s1, s2, s3, s4, s5, s6, s7, s8, s9, s10, s11, -⟩ := hs'
      have e83 : ∀ j, υ 83 j = t9 83 j := fun j => by rw [uF 83 (by omega) (by omega), tc 83 (by omega)]
      have e84 : ∀ j, υ 84 j = t9 84 j := fun j => by rw [uF 84 (by omega) (by omega), tc 84 (by omega)]
      have e85 : ∀ j, υ 85 j = t9 85 j := fun j => by rw [uF 85 (by omega) (by omega), tc 85 (by omega)]
      have tσ : ∀ d, 83 ≤ d → d ≤ 85 → tS d = σ d := fun d z1 z2 => by rw [S1 d (by omega), uf d (by omega) (by omega) (by omega) (by omega)]
      refine ⟨by omega, by omega, by omega, ?_, by rw [F12]; rfl, ?_, ?_, by rw [F13]; rfl, ?_, ?_, by rw [F14]; rfl, ?_, fun i hi => by omega, fun i hi => by omega, fun i hi => by omega⟩
      · rw [e83, e9, bl_up_c (by omega), bl_up_c (by omega), bl_up_s]; rfl
      · rw [e83, e9, bl_up_c (by omega), bl_up_c (by omega), bl_up_j (by omega), tσ 83 (by omega) (by omega)]; exact s5
      · rw [e84, e9, bl_up_c (by omega), bl_up_s]; rfl
      · rw [e84, e9, bl_up_c (by omega), bl_up_j (by omega), bl_up_c (by omega), tσ 84 (by omega) (by omega)]; exact s8
      · rw [e85, e9, bl_up_s]; rfl
      · rw [e85, e9, bl_up_j (by omega), bl_up_c (by omega), bl_up_c (by omega), tσ 85 (by omega) (by omega)]; exact s11
    · -- Jm
      intro i hi
      have e66 : υ 66 i = 0 := by
        rw [uF 66 (by omega) (by omega), eτ]
        rcases (show i = 0 ∨ i = 1 by omega) with rfl | rfl
        · rw [bl_up_j (by omega), bl_up_s]
        · rw [bl_up_s]
      have e146 : υ 146 i = 0 := by
        rcases (show i = 0 ∨ i = 1 by omega) with rfl | rfl
        · exact F2
        · exact F3
      exact ⟨by rw [e66, e146], Or.inl e66⟩
  · -- a fault
    have h22 := hbad q
    obtain ⟨υ, ⟨-, hFF⟩, hM⟩ := ref u0 (uf 116 (by omega) (by omega) (by omega) (by omega)) (by rw [uf 1 (by omega) (by omega) (by omega) (by omega)])
    obtain ⟨F1, F2, F3, F4⟩ := hFF q
    rw [if_neg q] at hM
    have uF : ∀ d, d ≠ 1 → d < 117 ∨ 128 < d → υ d = u0 d := fun d z1 z2 => F1 d z1 (by omega)
    have gσ : ∀ d, d < 52 ∨ 65 < d → d < 117 ∨ 128 < d → d ≠ 0 → d ≠ 1 → d ≠ 2 → d ≠ 68 → υ d = σ d := fun d z1 z2 z3 z4 z5 z6 => by rw [uF d z4 z2]; exact uf d z1 z5 z6 z3
    have g1 : ∀ k, ¬ (23 ≤ k ∧ k ≤ 27) → k ≠ 29 → k ≠ 31 → k ≠ 38 → υ 1 k = σ 1 k := fun k z1 z2 z3 z4 => by rw [F2 k z1 z2 z3 z4, uf 1 (by omega) (by omega) (by omega) (by omega)]
    refine ⟨-10 - nI r.1, u0, υ, bl_c (Nat.le_of_ble_eq_true rfl) (vc_X10_lane_0 σ ⟨_, _, hRA, fun z => absurd z (nI_ne0 (by omega) (by omega)), fun _ => ⟨rfl, by rw [eu0]⟩⟩), hM, nb, np, 0, a, b, c, hl.fr (gσ 10 (by omega) (by omega) (by omega) (by omega) (by omega) (by omega)) (gσ 11 (by omega) (by omega) (by omega) (by omega) (by omega) (by omega)) (fun k z => g1 k (by omega) (by omega) (by omega) (by omega)), hb.fr hn (fun d z => gσ d (by omega) (by omega) (by omega) (by omega) (by omega) (by omega)), hp.fr hn2 (fun d z => gσ d (by omega) (by omega) (by omega) (by omega) (by omega) (by omega)), fun p hp4 => ?_, ⟨by omega, ?_, by rw [F3]; rfl, fun i hi => by omega, ?_⟩, hs'.fr (fun d z => gσ d (by omega) (by omega) (by omega) (by omega) (by omega) (by omega)) (fun k z => g1 k (by omega) (by omega) (by omega) (by omega)), hm'.fr hn hn2 (fun d z => gσ d (by omega) (by omega) (by omega) (by omega) (by omega) (by omega)) (fun b k z _ => by rw [gσ (14 + b) (by omega) (by omega) (by omega) (by omega) (by omega) (by omega)]) (fun p k z _ => by rw [gσ (20 + p) (by omega) (by omega) (by omega) (by omega) (by omega) (by omega)])⟩
    · obtain ⟨z1, z2, z3, -⟩ := hz p hp4
      obtain ⟨x0, x1, x5, x6, x7⟩ := pz p hp4
      have e62 : υ (62 + p) = τ1 (62 + p) := by rw [uF (62 + p) (by omega) (by omega), uc (62 + p) (by omega)]
      rw [e62, gσ (20 + p) (by omega) (by omega) (by omega) (by omega) (by omega) (by omega), gσ (34 + p) (by omega) (by omega) (by omega) (by omega) (by omega) (by omega), gσ (48 + p) (by omega) (by omega) (by omega) (by omega) (by omega) (by omega), gσ 71 (by omega) (by omega) (by omega) (by omega) (by omega) (by omega), gσ 72 (by omega) (by omega) (by omega) (by omega) (by omega) (by omega)]
      exact ⟨z1, z2, z3, x0, x1, x5, x6, x7, hz1, hz2⟩
    · rw [uF 2 (by omega) (by omega), uc 2 (by omega), e21]
      rfl
    · rw [uF 0 (by omega) (by omega), eu0, bl_up_s, h22, F4]
