/-- the reference's state out of an image: bushes up to n, pickers up to m -/
def Gb (n m k0 : Nat) (σ τ : bl_S) : Prop := (∀ c, ¬ (105 ≤ c ∧ c ≤ 109) → ¬ (112 ≤ c ∧ c ≤ 115) → τ c = σ c) ∧ (∀ b, b < n → τ 105 b = σ 145 (k0 + b) ∧ τ 106 b = σ 145 (k0 + 6 + b) ∧ τ 107 b = σ 145 (k0 + 12 + b)) ∧ (∀ p, p < m → τ 108 p = σ 145 (k0 + 18 + p) ∧ τ 109 p = σ 145 (k0 + 22 + p) ∧ τ 113 p = σ 145 (k0 + 26 + p) ∧ τ 114 p = σ 145 (k0 + 30 + p) ∧ τ 115 p = σ 145 (k0 + 34 + p) ∧ τ 112 p = if σ 145 (k0 + 38 + p) = 1 then 1 else 0)
theorem Gb.bush {n k0 : Nat} {σ s : bl_S} (h : Gb n 0 k0 σ s) : Gb (n + 1) 0 k0 σ (bl_up (bl_up (bl_up s 105 n (s 145 (k0 + n))) 106 n (s 145 (k0 + 6 + n))) 107 n (s 145 (k0 + 12 + n))) := by
  obtain ⟨h1, h3, h4⟩ := h
  refine ⟨fun c q1 q2 => by rw [bl_up_ne (by omega), bl_up_ne (by omega), bl_up_ne (by omega)]; exact h1 c q1 q2, fun b hb => ?_, fun p hp => by omega⟩
  by_cases e : b = n
  · subst e
    refine ⟨?_, ?_, ?_⟩
    · rw [bl_up_c (by omega), bl_up_c (by omega), bl_up_s, h1 145 (by omega) (by omega)]
    · rw [bl_up_c (by omega), bl_up_s, h1 145 (by omega) (by omega)]
    · rw [bl_up_s, h1 145 (by omega) (by omega)]
  · obtain ⟨a1, a2, a3⟩ := h3 b (by omega)
    refine ⟨?_, ?_, ?_⟩
    · rw [bl_up_j e, bl_up_j e, bl_up_j e]; exact a1
    · rw [bl_up_j e, bl_up_j e, bl_up_j e]; exact a2
    · rw [bl_up_j e, bl_up_j e, bl_up_j e]; exact a3
theorem Gb.pick {m k0 : Nat} {σ s : bl_S} (h : Gb 6 m k0 σ s) : Gb 6 (m + 1) k0 σ (bl_up (bl_up (bl_up (bl_up (bl_up (bl_up s 108 m (s 145 (k0 + 18 + m))) 109 m (s 145 (k0 + 22 + m))) 113 m (s 145 (k0 + 26 + m))) 114 m (s 145 (k0 + 30 + m))) 115 m (s 145 (k0 + 34 + m))) 112 m (if s 145 (k0 + 38 + m) = 1 then 1 else 0)) := by
  obtain ⟨h1, h3, h4⟩ := h
  have h145 := h1 145 (by omega) (by omega)
  refine ⟨fun c q1 q2 => by rw [bl_up_ne (by omega), bl_up_ne (by omega), bl_up_ne (by omega), bl_up_ne (by omega), bl_up_ne (by omega), bl_up_ne (by omega)]; exact h1 c q1 q2, fun b hb => ?_, fun p hp => ?_⟩
  · obtain ⟨a1, a2, a3⟩ := h3 b hb
    refine ⟨?_, ?_, ?_⟩
    · rw [bl_up_c (by omega), bl_up_c (by omega), bl_up_c (by omega), bl_up_c (by omega), bl_up_c (by omega), bl_up_c (by omega)]; exact a1
    · rw [bl_up_c (by omega), bl_up_c (by omega), bl_up_c (by omega), bl_up_c (by omega), bl_up_c (by omega), bl_up_c (by omega)]; exact a2
    · rw [bl_up_c (by omega), bl_up_c (by omega), bl_up_c (by omega), bl_up_c (by omega), bl_up_c (by omega), bl_up_c (by omega)]; exact a3
  · by_cases e : p = m
    · subst e
      rw [h145]
      refine ⟨?_, ?_, ?_, ?_, ?_, ?_⟩
      · rw [bl_up_c (by omega), bl_up_c (by omega), bl_up_c (by omega), bl_up_c (by omega), bl_up_c (by omega), bl_up_s]
      · rw [bl_up_c (by omega), bl_up_c (by omega), bl_up_c (by omega), bl_up_c (by omega), bl_up_s]
      · rw [bl_up_c (by omega), bl_up_c (by omega), bl_up_c (by omega), bl_up_s]
      · rw [bl_up_c (by omega), bl_up_c (by omega), bl_up_s]
      · rw [bl_up_c (by omega), bl_up_s]
      · rw [bl_up_s]
    · obtain ⟨a1, a2, a3, a4, a5, a6⟩ := h4 p (by omega)
      refine ⟨?_, ?_, ?_, ?_, ?_, ?_⟩
      · rw [bl_up_j e, bl_up_j e, bl_up_j e, bl_up_j e, bl_up_j e, bl_up_j e]; exact a1
      · rw [bl_up_j e, bl_up_j e, bl_up_j e, bl_up_j e, bl_up_j e, bl_up_j e]; exact a2
      · rw [bl_up_j e, bl_up_j e, bl_up_j e, bl_up_j e, bl_up_j e, bl_up_j e]; exact a3
      · rw [bl_up_j e, bl_up_j e, bl_up_j e, bl_up_j e, bl_up_j e, bl_up_j e]; exact a4
      · rw [bl_up_j e, bl_up_j e, bl_up_j e, bl_up_j e, bl_up_j e, bl_up_j e]; exact a5
      · rw [bl_up_j e, bl_up_j e, bl_up_j e, bl_up_j e, bl_up_j e, bl_up_j e]; exact a6
theorem c_X11_goBack (σ : bl_S) {i : Nat} (hi : i < 2) (hk : ¬ σ 146 i = 0) : ∃ τ, (∃ t, Gb 6 4 (50 * i) σ t ∧ τ = bl_up (bl_up t 1 20 (σ 145 (50 * i + 42))) 1 21 (σ 145 (50 * i + 43))) ∧ bl_Con (bl_mi 173) [.ref 1, .int (nI i)] σ (some (.int 1)) τ := by
  have h2 : vp_in (nI i) 2 := vp_in_nI hi (by omega)
  have c2 : Int32.toNatClampNeg (nI i) = i := nI_clamp (by omega)
  have hw : ¬ wi (nI i) 0 1 = 0 := by
    rcases (show i = 0 ∨ i = 1 by omega) with rfl | rfl <;> decide
  have e50 : (50 : Int32) * nI i = nI (50 * i) := by
    rcases (show i = 0 ∨ i = 1 by omega) with rfl | rfl <;> rfl
  have I1 : ∀ k b : Nat, (nI (50 * i) + nI k) + nI b = nI (50 * i + k + b) := fun k b => by rw [nI_add, nI_add]
  have loopP : ∀ s, Gb 6 0 (50 * i) σ s → Ev (bl_mi 173) 95 [(0, .ref 1), (1, .int (nI i)), (2, .int (nI (50 * i))), (3, .int (nI 0))] s 1 (fun τ => ∃ t, Gb 6 4 (50 * i) σ t ∧ τ = bl_up (bl_up t 1 20 (σ 145 (50 * i + 42))) 1 21 (σ 145 (50 * i + 43))) := by
    refine bl_dn (N := 4) (P := fun m => ∀ s, Gb 6 m (50 * i) σ s → Ev (bl_mi 173) 95 [(0, .ref 1), (1, .int (nI i)), (2, .int (nI (50 * i))), (3, .int (nI m))] s 1 (fun τ => ∃ t, Gb 6 4 (50 * i) σ t ∧ τ = bl_up (bl_up t 1 20 (σ 145 (50 * i + 42))) 1 21 (σ 145 (50 * i + 43)))) ?_ ?_
    · intro s h
      refine ⟨_, ⟨s, h, rfl⟩, vc_X11_goBack_95 _ _ _ _ ⟨fun q => absurd q (by decide), fun _ => ?_⟩⟩
      rw [show nI (50 * i) + (42 : Int32) = nI (50 * i + 42) from nI_add _ 42, show nI (50 * i) + (43 : Int32) = nI (50 * i + 43) from nI_add _ 43, n100 (by omega), n100 (by omega), h.1 145 (by omega) (by omega)]
      exact ⟨v100 (by omega), fun v34 e34 => ⟨v100 (by omega), fun v36 e36 => ⟨rfl, by rw [e34, e36]⟩⟩⟩
    · intro m hm ih s h
      obtain ⟨τ, hP, hW⟩ := ih _ h.pick
      refine ⟨τ, hP, vc_X11_goBack_95 _ _ _ _ ⟨fun _ => ?_, fun q => absurd (by rw [show (4 : Int32) = nI 4 from rfl]; exact nI_lt hm (by omega)) q⟩⟩
      rw [show (nI (50 * i) + (18 : Int32)) + nI m = nI (50 * i + 18 + m) from I1 18 m, show (nI (50 * i) + (22 : Int32)) + nI m = nI (50 * i + 22 + m) from I1 22 m, show (nI (50 * i) + (26 : Int32)) + nI m = nI (50 * i + 26 + m) from I1 26 m, show (nI (50 * i) + (30 : Int32)) + nI m = nI (50 * i + 30 + m) from I1 30 m, show (nI (50 * i) + (34 : Int32)) + nI m = nI (50 * i + 34 + m) from I1 34 m, show (nI (50 * i) + (38 : Int32)) + nI m = nI (50 * i + 38 + m) from I1 38 m]
      rw [ntp hm, n100 (by omega), n100 (by omega), n100 (by omega), n100 (by omega), n100 (by omega), n100 (by omega), nI_1]
      refine ⟨v100 (by omega), vip hm, fun v15 e15 => ⟨v100 (by omega), fun v17 e17 => ⟨v100 (by omega), fun v19 e19 => ⟨v100 (by omega), fun v21 e21 => ⟨v100 (by omega), fun v23 e23 => ⟨v100 (by omega), fun v26 e26 => ?_⟩⟩⟩⟩⟩⟩
      have h26 : vp_nar .boolean v26 = v26 := vnar01 (by rw [e26]; split <;> first | exact Or.inl rfl | exact Or.inr rfl)
      rw [h26, e15, e17, e19, e21, e23, e26]
      exact hW
  have loopB : ∀ s, Gb 0 0 (50 * i) σ s → Ev (bl_mi 173) 33 [(0, .ref 1), (1, .int (nI i)), (2, .int (nI (50 * i))), (3, .int (nI 0))] s 1 (fun τ => ∃ t, Gb 6 4 (50 * i) σ t ∧ τ = bl_up (bl_up t 1 20 (σ 145 (50 * i + 42))) 1 21 (σ 145 (50 * i + 43))) := by
    refine bl_dn (N := 6) (P := fun m => ∀ s, Gb m 0 (50 * i) σ s → Ev (bl_mi 173) 33 [(0, .ref 1), (1, .int (nI i)), (2, .int (nI (50 * i))), (3, .int (nI m))] s 1 (fun τ => ∃ t, Gb 6 4 (50 * i) σ t ∧ τ = bl_up (bl_up t 1 20 (σ 145 (50 * i + 42))) 1 21 (σ 145 (50 * i + 43)))) ?_ ?_
    · intro s h
      obtain ⟨τ, hP, hW⟩ := loopP s h
      exact ⟨τ, hP, vc_X11_goBack_33 _ _ _ _ ⟨fun q => absurd q (by decide), fun _ => hW⟩⟩
    · intro m hm ih s h
      obtain ⟨τ, hP, hW⟩ := ih _ h.bush
      refine ⟨τ, hP, vc_X11_goBack_33 _ _ _ _ ⟨fun _ => ?_, fun q => absurd (by rw [show (6 : Int32) = nI 6 from rfl]; exact nI_lt hm (by omega)) q⟩⟩
      rw [show nI (50 * i) + nI m = nI (50 * i + m) from nI_add _ _, show (nI (50 * i) + (6 : Int32)) + nI m = nI (50 * i + 6 + m) from I1 6 m, show (nI (50 * i) + (12 : Int32)) + nI m = nI (50 * i + 12 + m) from I1 12 m]
      rw [ntb hm, n100 (by omega), n100 (by omega), n100 (by omega), nI_1]
      refine ⟨v100 (by omega), vib hm, v100 (by omega), fun v8 e8 => ⟨v100 (by omega), fun v10 e10 => ?_⟩⟩
      rw [e8, e10]
      exact hW
  obtain ⟨τ, hP, hW⟩ := loopB σ ⟨fun _ _ _ => rfl, fun b hb => by omega, fun p hp => by omega⟩
  refine ⟨τ, hP, bl_c (Nat.le_of_ble_eq_true rfl) (vc_X11_goBack_0 σ _ ⟨_, _, c_X11_in σ (nI i) 0 1 (by decide) (by decide), fun q => absurd q hw, fun _ => ⟨h2, ?_⟩⟩)⟩
  rw [c2, e50]
  exact ⟨fun q => absurd q hk, fun _ => hW⟩
theorem bo01 {x : Int32} (h : x = 0 ∨ x = 1) : (if x = 1 then (1 : Int32) else 0) = x := by rcases h with rfl | rfl <;> rfl
theorem pr_goBack {σ : bl_S} (h : Inv σ) (x : Int32) : Pr 100 173 [.int x] σ := by
  obtain ⟨nb, np, nt, a, b, c, hl, hb, hp, hz, ht, hs', hm'⟩ := id h
  have hn := hl.1
  have hn2 := hl.2.1
  by_cases g : wi x 0 1 = 0
  · exact ⟨-1000000001, σ, σ, bl_c (Nat.le_of_ble_eq_true rfl) (vc_X10_goBack_0 σ x ⟨_, _, c_X10_within σ x 0 1, fun _ => ⟨rfl, rfl⟩, fun q => absurd g q⟩), bl_c (Nat.le_of_ble_eq_true rfl) (vc_X11_goBack_0 σ x ⟨_, _, c_X11_in σ x 0 1 (by decide) (by decide), fun _ => ⟨rfl, rfl⟩, fun q => absurd g q⟩), h⟩
  obtain ⟨i, i0, i1, rfl⟩ := wi_c (a := 0) (b := 1) (by omega) (by omega) g
  have hi2 : i < 2 := by omega
  have c2 : Int32.toNatClampNeg (nI i) = i := nI_clamp (by omega)
  have h2 : vp_in (nI i) 2 := vp_in_nI hi2 (by omega)
  obtain ⟨m1, m2⟩ := hm' i hi2
  by_cases k : σ 66 i = 0
  · refine ⟨-1000000003, σ, σ, bl_c (Nat.le_of_ble_eq_true rfl) (vc_X10_goBack_0 σ _ ⟨_, _, c_X10_within σ _ 0 1, fun q => absurd q g, fun _ => ⟨h2, ?_⟩⟩), bl_c (Nat.le_of_ble_eq_true rfl) (vc_X11_goBack_0 σ _ ⟨_, _, c_X11_in σ _ 0 1 (by decide) (by decide), fun q => absurd q g, fun _ => ⟨h2, ?_⟩⟩), h⟩
    · rw [c2]
      exact ⟨fun _ => ⟨rfl, rfl⟩, fun q => absurd k q⟩
    · rw [c2, ← m1]
      exact ⟨fun _ => ⟨rfl, rfl⟩, fun q => absurd k q⟩
  have hB : isL (24 + 14 * i) := by
    rcases (show i = 0 ∨ i = 1 by omega) with rfl | rfl
    · exact Or.inr (Or.inl rfl)
    · exact Or.inr (Or.inr (Or.inl rfl))
  have hJi : Ji nb np (24 + 14 * i) (50 * i) σ := by
    rcases m2 with q | q
    · exact absurd q k
    · exact q.2
  have hz4 : ∀ p, p < 4 → σ (24 + 14 * i + 10 + p) 4 = 0 ∨ σ (24 + 14 * i + 10 + p) 4 = 1 := by
    intro p hp4
    obtain ⟨-, z2, z3, -⟩ := hz p hp4
    rcases (show i = 0 ∨ i = 1 by omega) with rfl | rfl
    · rw [show 24 + 14 * 0 + 10 + p = 34 + p by omega]; exact z2
    · rw [show 24 + 14 * 1 + 10 + p = 48 + p by omega]; exact z3
  obtain ⟨u, ⟨t, hS, e1⟩, hC⟩ := c_X3_copyFrom σ (L := 10) (Or.inl rfl) hB (by omega) hz4
  have conC : bl_Con (bl_mi 100) [.ref 0, .int (nI i)] σ (some (.int 1)) u := by
    refine bl_c (Nat.le_of_ble_eq_true rfl) (vc_X10_goBack_0 σ _ ⟨_, _, c_X10_within σ _ 0 1, fun q => absurd q g, fun _ => ⟨h2, ?_⟩⟩)
    rw [c2]
    exact ⟨fun q => absurd q k, fun _ => ⟨_, hC, rfl, rfl⟩⟩
  obtain ⟨B, eB⟩ : ∃ B, B = 24 + 14 * i := ⟨_, rfl⟩
  rw [← eB] at hS e1 hB hJi hz4
  obtain ⟨s1, s2, ⟨s3, s4, s5, s6⟩, s7, s8⟩ := hS
  have uc : ∀ d, ¬ (10 ≤ d ∧ d ≤ 23) → u d = σ d := fun d hd => by rw [e1, bl_up_ne (by omega), s1 d (by omega)]
  obtain ⟨υ, ⟨t2, hG, e2⟩, hM⟩ := c_X11_goBack u hi2 (by rw [uc 146 (by omega), ← m1]; exact k)
  obtain ⟨g1, g3, g4⟩ := hG
  rw [uc 145 (by omega)] at e2 g3 g4
  have vc : ∀ d, d ≠ 1 → ¬ (105 ≤ d ∧ d ≤ 109) → ¬ (112 ≤ d ∧ d ≤ 115) → υ d = u d := fun d q1 q2 q3 => by rw [e2, bl_up_ne q1, bl_up_ne q1, g1 d q2 q3]
  have vs : ∀ d, d ≠ 1 → ¬ (105 ≤ d ∧ d ≤ 109) → ¬ (112 ≤ d ∧ d ≤ 115) → ¬ (10 ≤ d ∧ d ≤ 23) → υ d = σ d := fun d q1 q2 q3 q4 => (vc d q1 q2 q3).trans (uc d q4)
  have v1 : ∀ k, k ≠ 20 → k ≠ 21 → υ 1 k = σ 1 k := fun k q1 q2 => by rw [e2, bl_up_j q2, bl_up_j q1, g1 1 (by omega) (by omega), uc 1 (by omega)]
  have v2 : ∀ d, d ≠ 1 → υ d = t2 d := fun d q => by rw [e2, bl_up_ne q, bl_up_ne q]
  obtain ⟨j1, j2, j3, j4, j5, j6, j7, j8⟩ := hJi
  have n10 : ∀ k, k ≠ 6 → υ 10 k = t 10 k := fun k q => by rw [vc 10 (by omega) (by omega) (by omega), e1, bl_up_j q]
  have n10' : υ 10 6 = σ B 6 := by rw [vc 10 (by omega) (by omega) (by omega), e1, bl_up_s]
  have nn : ∀ d k, 11 ≤ d → d ≤ 23 → υ d k = t d k := fun d k q1 q2 => by rw [vc d (by omega) (by omega) (by omega), e1, bl_up_c (by omega)]
  have n11 : ∀ k, k < 4 → υ 11 k = σ 11 k := fun k hk => by rw [nn 11 k (by omega) (by omega), s2 k hk, j6 k hk]
  have nB : ∀ b' k, b' < 6 → k < 6 → υ (14 + b') k = σ (B + 4 + b') k := fun b' k q1 q2 => by rw [nn (14 + b') k (by omega) (by omega)]; exact s7 b' k q1 q2
  have nP : ∀ p k, p < 4 → k < 8 → υ (20 + p) k = σ (B + 10 + p) k := fun p k q1 q2 => by rw [nn (20 + p) k (by omega) (by omega)]; exact s8 p k q1 q2
  obtain ⟨a1, a2, a3, a4, a5, a6, a7, a8, a9, a10, a11, a12⟩ := id hl
  refine ⟨1, u, υ, conC, hM, nb, np, nt, a, b, c, ⟨a1, a2, ?_, ?_, ?_, ?_, ?_, ?_, ?_, ?_, ?_, ?_⟩, ?_, ?_, ?_, ?_, ?_, ?_⟩
  · rw [n10 3 (by omega), s3]; exact j1
  · rw [v1 4 (by omega) (by omega)]; exact a4
  · rw [n10 4 (by omega), s4]; exact j2
  · rw [v1 11 (by omega) (by omega)]; exact a6
  · intro k hk
    rw [n11 k hk, v1 k (by omega) (by omega)]
    exact a7 k hk
  · rw [n10 5 (by omega), s5, e2, bl_up_j (by omega), bl_up_s]
    exact j3
  · rw [n10', e2, bl_up_s]
    exact j4
  · rw [e2, bl_up_s, ← j4]
    exact j5
  · rw [v1 0 (by omega) (by omega), v1 1 (by omega) (by omega), v1 2 (by omega) (by omega)]
    exact a11
  · rw [v1 3 (by omega) (by omega)]
    exact a12
  · intro b' hb'
    have b6 : b' < 6 := by omega
    obtain ⟨r1, y, s, kd, rd0, rp0, sf0, w1, w2, w3, -, x1, x2, x3, -, -, -⟩ := hb b' hb'
    obtain ⟨q1, q2, q3, q4, rd, rp, sf, hr, x4, x5, x6⟩ := j7 b' hb'
    obtain ⟨o1, o2, o3⟩ := g3 b' b6
    have d0 : υ 102 = σ 102 := vs 102 (by omega) (by omega) (by omega) (by omega)
    have d1 : υ 103 = σ 103 := vs 103 (by omega) (by omega) (by omega) (by omega)
    have d2 : υ 104 = σ 104 := vs 104 (by omega) (by omega) (by omega) (by omega)
    have d3' : υ 105 b' = σ (B + 4 + b') 3 := by rw [v2 105 (by omega), o1, q2]
    have d4 : υ 106 b' = σ (B + 4 + b') 4 := by rw [v2 106 (by omega), o2, q3]
    have d5 : υ 107 b' = σ (B + 4 + b') 5 := by rw [v2 107 (by omega), o3, q4]
    refine ⟨fun k hk => ?_, y, s, kd, rd, rp, sf, w1, w2, w3, hr, by rw [d0]; exact x1, by rw [d1]; exact x2, by rw [d2]; exact x3, by rw [d3']; exact x4, by rw [d4]; exact x5, by rw [d5]; exact x6⟩
    rw [nB b' k b6 hk]
    rcases (show k = 0 ∨ k = 1 ∨ k = 2 ∨ k = 3 ∨ k = 4 ∨ k = 5 by omega) with rfl | rfl | rfl | rfl | rfl | rfl
    · rw [q1 0 (by omega), r1 0 (by omega)]; exact (congrFun d0 b').symm
    · rw [q1 1 (by omega), r1 1 (by omega)]; exact (congrFun d1 b').symm
    · rw [q1 2 (by omega), r1 2 (by omega)]; exact (congrFun d2 b').symm
    · exact d3'.symm
    · exact d4.symm
    · exact d5.symm
  · intro p hpn
    have p4 : p < 4 := by omega
    obtain ⟨r1, y0, s0, q, ee, hh0, -, -, w3, w4, w5, -, -, -, x3, x4, -⟩ := hp p hpn
    obtain ⟨q2, q3, q0, q1, q5, q6, q7, q4, y, s, y1, y2, f1, f2⟩ := j8 p hpn
    obtain ⟨o1, o2, o3, o4, o5, o6⟩ := g4 p p4
    have d0 : υ 108 p = σ (B + 10 + p) 0 := by rw [v2 108 (by omega), o1, q0]
    have d1 : υ 109 p = σ (B + 10 + p) 1 := by rw [v2 109 (by omega), o2, q1]
    have d2 : υ 110 = σ 110 := vs 110 (by omega) (by omega) (by omega) (by omega)
    have d3' : υ 111 = σ 111 := vs 111 (by omega) (by omega) (by omega) (by omega)
    have d4 : υ 112 p = σ (B + 10 + p) 4 := by rw [v2 112 (by omega), o6, ← q4, bo01 (hz4 p p4)]
    have d5 : υ 113 p = σ (B + 10 + p) 5 := by rw [v2 113 (by omega), o3, q5]
    have d6 : υ 114 p = σ (B + 10 + p) 6 := by rw [v2 114 (by omega), o4, q6]
    have d7 : υ 115 p = σ (B + 10 + p) 7 := by rw [v2 115 (by omega), o5, q7]
    obtain ⟨hh, hh1, hh2⟩ := z01 (hz4 p p4)
    refine ⟨fun k hk => ?_, y, s, q, ee, hh, y1, y2, w3, w4, w5, hh1, by rw [d0]; exact f1, by rw [d1]; exact f2, by rw [d2]; exact x3, by rw [d3']; exact x4, by rw [d4]; exact hh2⟩
    rw [nP p k p4 hk]
    rcases (show k = 0 ∨ k = 1 ∨ k = 2 ∨ k = 3 ∨ k = 4 ∨ k = 5 ∨ k = 6 ∨ k = 7 by omega) with rfl | rfl | rfl | rfl | rfl | rfl | rfl | rfl
    · exact d0.symm
    · exact d1.symm
    · rw [q2, r1 2 (by omega)]; exact (congrFun d2 p).symm
    · rw [q3, r1 3 (by omega)]; exact (congrFun d3' p).symm
    · exact d4.symm
    · exact d5.symm
    · exact d6.symm
    · exact d7.symm
  · intro p hp4
    rw [nP p 4 hp4 (by omega), vs (34 + p) (by omega) (by omega) (by omega) (by omega), vs (48 + p) (by omega) (by omega) (by omega) (by omega), vs (62 + p) (by omega) (by omega) (by omega) (by omega), vs 71 (by omega) (by omega) (by omega) (by omega), vs 72 (by omega) (by omega) (by omega) (by omega)]
    exact ⟨hz4 p hp4, (hz p hp4).2⟩
  · exact ht.fr (vs 0 (by omega) (by omega) (by omega) (by omega)) (by rw [vs 2 (by omega) (by omega) (by omega) (by omega)]) (vs 67 (by omega) (by omega) (by omega) (by omega)) (vs 116 (by omega) (by omega) (by omega) (by omega)) (fun k _ => v1 k (by omega) (by omega))
  · exact hs'.fr (fun d hd => vs d (by omega) (by omega) (by omega) (by omega)) (fun k _ => v1 k (by omega) (by omega))
  · intro i' hi'
    obtain ⟨q1, q2⟩ := hm' i' hi'
    rw [vs 66 (by omega) (by omega) (by omega) (by omega), vs 146 (by omega) (by omega) (by omega) (by omega)]
    exact ⟨q1, q2.imp id (fun q => ⟨q.1, q.2.fr3 hn hn2 (fun d hd => vs d (by omega) (by omega) (by omega) (by omega)) n11 (fun j _ _ => by rw [vs 145 (by omega) (by omega) (by omega) (by omega)]) (fun b' k hb' hk => by rw [nB b' k (by omega) (by omega)]; exact (j7 b' hb').1 k hk) (fun p k hp' hk => by
      rw [nP p k (by omega) (by omega)]
      rcases hk with rfl | rfl
      · exact (j8 p hp').1
      · exact (j8 p hp').2.1)⟩)⟩
