/-! THE READER: a clause is taken; clauses, one behind the other -/
theorem tbC {s : bl_S} {b : Nat} (hb : b < 6) (h3 : s 52 3 = nI b) : ∃ τ, ((∀ d, d ≠ 52 → d ≠ 56 + b → τ d = s d) ∧ τ 52 3 = nI (b + 1) ∧ (∀ j, j ≠ 3 → τ 52 j = s 52 j) ∧ ∀ k, k < 6 → τ (56 + b) k = s 68 k) ∧ bl_Con (bl_mi 51) [.ref 2] s none τ := by
  have kd : ∀ b, b < 6 → bl_kd (56 + b) = 1 := by decide
  obtain ⟨s1, e1⟩ : ∃ s1, s1 = bl_up s 52 3 (nI (b + 1)) := ⟨_, rfl⟩
  obtain ⟨τ, eτ⟩ : ∃ τ, τ = bl_up (bl_up (bl_up (bl_up (bl_up (bl_up s1 (56 + b) 0 (s 68 0)) (56 + b) 1 (s 68 1)) (56 + b) 2 (s 68 2)) (56 + b) 3 (s 68 3)) (56 + b) 4 (s 68 4)) (56 + b) 5 (s 68 5) := ⟨_, rfl⟩
  have s1c : ∀ d, d ≠ 52 → s1 d = s d := fun d z => by rw [e1, bl_up_ne z]
  have tc : ∀ d, d ≠ 56 + b → τ d = s1 d := fun d z => by rw [eτ, bl_up_ne z, bl_up_ne z, bl_up_ne z, bl_up_ne z, bl_up_ne z, bl_up_ne z]
  refine ⟨τ, ⟨fun d z1 z2 => by rw [tc d z2, s1c d z1], by rw [tc 52 (by omega), e1, bl_up_s], fun j z => by rw [tc 52 (by omega), e1, bl_up_j z], fun k hk => ?_⟩, bl_c (Nat.le_of_ble_eq_true rfl) (vc_X7_takeBush_0 s ?_)⟩
  · rw [eτ]
    rcases (show k = 0 ∨ k = 1 ∨ k = 2 ∨ k = 3 ∨ k = 4 ∨ k = 5 by omega) with rfl | rfl | rfl | rfl | rfl | rfl
    · rw [bl_up_j (by omega), bl_up_j (by omega), bl_up_j (by omega), bl_up_j (by omega), bl_up_j (by omega), bl_up_s]
    · rw [bl_up_j (by omega), bl_up_j (by omega), bl_up_j (by omega), bl_up_j (by omega), bl_up_s]
    · rw [bl_up_j (by omega), bl_up_j (by omega), bl_up_j (by omega), bl_up_s]
    · rw [bl_up_j (by omega), bl_up_j (by omega), bl_up_s]
    · rw [bl_up_j (by omega), bl_up_s]
    · rw [bl_up_s]
  · rw [h3, nI_clamp (show b < 2 ^ 31 by omega), nI_1, ← e1]
    refine ⟨vib hb, kd b hb, fun v1 e1' v3 e3 v5 e5 v7 e7 v9 e9 => ⟨rfl, ?_⟩⟩
    rw [bl_up_c (by omega), s1c 68 (by omega)] at e1'
    rw [bl_up_c (by omega), bl_up_c (by omega), s1c 68 (by omega)] at e3
    rw [bl_up_c (by omega), bl_up_c (by omega), bl_up_c (by omega), s1c 68 (by omega)] at e5
    rw [bl_up_c (by omega), bl_up_c (by omega), bl_up_c (by omega), bl_up_c (by omega), s1c 68 (by omega)] at e7
    rw [bl_up_c (by omega), bl_up_c (by omega), bl_up_c (by omega), bl_up_c (by omega), bl_up_c (by omega), s1c 68 (by omega)] at e9
    rw [e9, e7, e5, e3, e1', eτ]
theorem tpC {s : bl_S} {p : Nat} (hp : p < 4) (h4 : s 52 4 = nI p) : ∃ τ, ((∀ d, d ≠ 52 → d ≠ 62 + p → τ d = s d) ∧ τ 52 4 = nI (p + 1) ∧ (∀ j, j ≠ 4 → τ 52 j = s 52 j) ∧ τ (62 + p) 0 = s 68 0 ∧ τ (62 + p) 2 = s 68 1 ∧ τ (62 + p) 3 = s 68 2 ∧ τ (62 + p) 4 = (if s 68 3 = 1 then 1 else 0) ∧ ∀ j, j ≠ 0 → j ≠ 2 → j ≠ 3 → j ≠ 4 → τ (62 + p) j = s (62 + p) j) ∧ bl_Con (bl_mi 52) [.ref 2] s none τ := by
  have kd : ∀ b, b < 4 → bl_kd (62 + b) = 5 := by decide
  obtain ⟨s1, e1⟩ : ∃ s1, s1 = bl_up s 52 4 (nI (p + 1)) := ⟨_, rfl⟩
  obtain ⟨τ, eτ⟩ : ∃ τ, τ = bl_up (bl_up (bl_up (bl_up s1 (62 + p) 0 (s 68 0)) (62 + p) 2 (s 68 1)) (62 + p) 3 (s 68 2)) (62 + p) 4 (if s 68 3 = 1 then 1 else 0) := ⟨_, rfl⟩
  have s1c : ∀ d, d ≠ 52 → s1 d = s d := fun d z => by rw [e1, bl_up_ne z]
  have tc : ∀ d, d ≠ 62 + p → τ d = s1 d := fun d z => by rw [eτ, bl_up_ne z, bl_up_ne z, bl_up_ne z, bl_up_ne z]
  refine ⟨τ, ⟨fun d z1 z2 => by rw [tc d z2, s1c d z1], by rw [tc 52 (by omega), e1, bl_up_s], fun j z => by rw [tc 52 (by omega), e1, bl_up_j z], ?_, ?_, ?_, ?_, fun j z1 z2 z3 z4 => ?_⟩, bl_c (Nat.le_of_ble_eq_true rfl) (vc_X7_takePicker_0 s ?_)⟩
  · rw [eτ, bl_up_j (by omega), bl_up_j (by omega), bl_up_j (by omega), bl_up_s]
  · rw [eτ, bl_up_j (by omega), bl_up_j (by omega), bl_up_s]
  · rw [eτ, bl_up_j (by omega), bl_up_s]
  · rw [eτ, bl_up_s]
  · rw [eτ, bl_up_j z4, bl_up_j z3, bl_up_j z2, bl_up_j z1, s1c _ (by omega)]
  · rw [h4, nI_clamp (show p < 2 ^ 31 by omega), nI_1, ← e1]
    refine ⟨vip hp, kd p hp, fun v1 e1' v3 e3 v6 e6 => ⟨?_, rfl, ?_⟩⟩
    · rw [e6]
      split
      · exact Or.inr rfl
      · exact Or.inl rfl
    · rw [bl_up_c (by omega), s1c 68 (by omega)] at e1'
      rw [bl_up_c (by omega), bl_up_c (by omega), s1c 68 (by omega)] at e3
      rw [bl_up_c (by omega), bl_up_c (by omega), bl_up_c (by omega), s1c 68 (by omega)] at e6
      rw [e6, e3, e1', eτ]
theorem tkC {σ s : bl_S} {n i w : Nat} {D : Nat → Nat → Nat} {f : Nat → Nat} (hD : okD D) (hV : CVw n D i σ s) (hw : wfD w D = 0) (hf : ∀ k, k < mW w → loW w k ≤ f k ∧ f k ≤ hiW w k) (h68 : ∀ k, k < mW w → s 68 k = nI (f k)) : ∃ τ, CVw n (tkD w f D) i σ τ ∧ bl_Con (bl_mi 53) [.ref 2, .int (nI w)] s none τ := by
  obtain ⟨v1, v2, v3, v4, v5, v6, ⟨d1, d2, d3, d4, d5, d6, d7⟩, v8⟩ := hV
  obtain ⟨o1, o2, o3, o4, o5, o6, o7, o8⟩ := id hD
  rcases wfD_w hw with ⟨e, q1, q2⟩ | ⟨e, q1⟩ | ⟨e, q1, q2⟩ | ⟨e, q1, q2⟩
  · subst e
    have et : tkD 98 f D = dR (dU D 0 2 (D 0 2 + 1)) (2 + D 0 2) f := rfl
    have r : ∀ j, j ≠ 2 → tkD 98 f D 0 j = D 0 j := fun j hj => by rw [et, dR_c (by omega), dU_j hj]
    have r2 : tkD 98 f D 0 2 = D 0 2 + 1 := by rw [et, dR_c (by omega), dU_s]
    have rr : ∀ c j, c ≠ 0 → c ≠ 2 + D 0 2 → tkD 98 f D c j = D c j := fun c j z1 z2 => by rw [et, dR_c z2, dU_c z1]
    have rb : ∀ j, tkD 98 f D (2 + D 0 2) j = f j := fun j => by rw [et, dR_s]
    obtain ⟨τ, ⟨t1, t2, t3, t4⟩, hC⟩ := tbC q2 d3
    have m6 : mW 98 = 6 := rfl
    refine ⟨τ, ⟨fun d z1 z2 z3 => by rw [t1 d (by omega) (by omega)]; exact v1 d z1 z2 z3, by rw [t1 2 (by omega) (by omega)]; exact v2, by rw [t1 2 (by omega) (by omega)]; exact v3, by rw [t1 2 (by omega) (by omega)]; exact v4, by rw [t1 2 (by omega) (by omega)]; exact v5, by rw [t1 2 (by omega) (by omega), r 4 (by omega)]; exact v6, ⟨fun k hk => by rw [t1 53 (by omega) (by omega), rr 1 k (by omega) (by omega)]; exact d1 k hk, by rw [t1 53 (by omega) (by omega), r 4 (by omega)]; exact d2, by rw [t2, r2], by rw [t3 4 (by omega), r 3 (by omega)]; exact d4, by rw [t3 5 (by omega)]; exact d5, fun b k hb hk => ?_, fun p hp => ?_⟩, v8.fr (fun d z1 z2 => t1 d (by omega) (by omega))⟩, bl_c (Nat.le_of_ble_eq_true rfl) (vc_X7_take_0 s _ ⟨fun _ => ⟨_, hC, rfl, rfl⟩, fun z => absurd rfl z⟩)⟩
    · rw [r2] at hb
      by_cases e : b = D 0 2
      · rw [e, t4 k hk, rb]
        exact h68 k (by omega)
      · rw [t1 (56 + b) (by omega) (by omega), rr (2 + b) k (by omega) (by omega)]
        exact d6 b k (by omega) hk
    · rw [r 3 (by omega)] at hp
      rw [t1 (62 + p) (by omega) (by omega), rr (8 + p) _ (by omega) (by omega), rr (8 + p) _ (by omega) (by omega), rr (8 + p) _ (by omega) (by omega), rr (8 + p) _ (by omega) (by omega)]
      exact d7 p hp
  · subst e
    have et : tkD 108 f D = dR (dU D 0 1 1) 1 f := rfl
    have r : ∀ j, j ≠ 1 → tkD 108 f D 0 j = D 0 j := fun j hj => by rw [et, dR_c (by omega), dU_j hj]
    have rb : ∀ j, tkD 108 f D 1 j = f j := fun j => by rw [et, dR_s]
    obtain ⟨z1, z2, z3, z4⟩ := o5 q1
    have m3 : mW 108 = 3 := rfl
    obtain ⟨τ, eτ⟩ : ∃ τ, τ = bl_up (bl_up (bl_up s 53 0 (s 68 0)) 53 1 (s 68 1)) 53 2 (s 68 2) := ⟨_, rfl⟩
    have tc : ∀ d, d ≠ 53 → τ d = s d := fun d z => by rw [eτ, bl_up_ne z, bl_up_ne z, bl_up_ne z]
    refine ⟨τ, ⟨fun d y1 y2 y3 => by rw [tc d (by omega)]; exact v1 d y1 y2 y3, by rw [tc 2 (by omega)]; exact v2, by rw [tc 2 (by omega)]; exact v3, by rw [tc 2 (by omega)]; exact v4, by rw [tc 2 (by omega)]; exact v5, by rw [tc 2 (by omega), r 4 (by omega)]; exact v6, ⟨fun k hk => ?_, ?_, by rw [tc 52 (by omega), r 2 (by omega)]; exact d3, by rw [tc 52 (by omega), r 3 (by omega)]; exact d4, by rw [tc 52 (by omega)]; exact d5, fun b k hb hk => ?_, fun p hp => ?_⟩, v8.fr (fun d y1 y2 => tc d (by omega))⟩, bl_c (Nat.le_of_ble_eq_true rfl) (vc_X7_take_0 s _ ⟨fun z => absurd z (by decide), fun _ => ⟨fun _ => ⟨rfl, ?_⟩, fun z => absurd rfl z⟩⟩)⟩
    · rw [rb, ← h68 k (by omega), eτ]
      rcases (show k = 0 ∨ k = 1 ∨ k = 2 by omega) with rfl | rfl | rfl
      · rw [bl_up_j (by omega), bl_up_j (by omega), bl_up_s]
      · rw [bl_up_j (by omega), bl_up_s]
      · rw [bl_up_s]
    · rw [eτ, bl_up_j (by omega), bl_up_j (by omega), bl_up_j (by omega), r 4 (by omega)]
      exact d2
    · rw [r 2 (by omega), z1] at hb
      omega
    · rw [r 3 (by omega), z2] at hp
      omega
    · rw [eτ]
  · subst e
    have et : tkD 112 f D = dR (dU D 0 3 (D 0 3 + 1)) (8 + D 0 3) f := rfl
    have r : ∀ j, j ≠ 3 → tkD 112 f D 0 j = D 0 j := fun j hj => by rw [et, dR_c (by omega), dU_j hj]
    have r2 : tkD 112 f D 0 3 = D 0 3 + 1 := by rw [et, dR_c (by omega), dU_s]
    have rr : ∀ c j, c ≠ 0 → c ≠ 8 + D 0 3 → tkD 112 f D c j = D c j := fun c j z1 z2 => by rw [et, dR_c z2, dU_c z1]
    have rb : ∀ j, tkD 112 f D (8 + D 0 3) j = f j := fun j => by rw [et, dR_s]
    obtain ⟨τ, ⟨t1, t2, t3, t4, t5, t6, t7, t8⟩, hC⟩ := tpC q2 d4
    have m4 : mW 112 = 4 := rfl
    have f3 : f 3 ≤ 1 := (hf 3 (by omega)).2
    have e3 : (if s 68 3 = 1 then (1 : Int32) else 0) = nI (f 3) := by
      rw [h68 3 (by omega)]
      rcases (show f 3 = 0 ∨ f 3 = 1 by omega) with w | w
      · rw [w]; rfl
      · rw [w]; rfl
    refine ⟨τ, ⟨fun d z1 z2 z3 => by rw [t1 d (by omega) (by omega)]; exact v1 d z1 z2 z3, by rw [t1 2 (by omega) (by omega)]; exact v2, by rw [t1 2 (by omega) (by omega)]; exact v3, by rw [t1 2 (by omega) (by omega)]; exact v4, by rw [t1 2 (by omega) (by omega)]; exact v5, by rw [t1 2 (by omega) (by omega), r 4 (by omega)]; exact v6, ⟨fun k hk => by rw [t1 53 (by omega) (by omega), rr 1 k (by omega) (by omega)]; exact d1 k hk, by rw [t1 53 (by omega) (by omega), r 4 (by omega)]; exact d2, by rw [t3 3 (by omega), r 2 (by omega)]; exact d3, by rw [t2, r2], by rw [t3 5 (by omega)]; exact d5, fun b k hb hk => ?_, fun p hp => ?_⟩, fun p hp => ?_⟩, bl_c (Nat.le_of_ble_eq_true rfl) (vc_X7_take_0 s _ ⟨fun z => absurd z (by decide), fun _ => ⟨fun z => absurd z (by decide), fun _ => ⟨fun _ => ⟨_, hC, rfl, rfl⟩, fun z => absurd rfl z⟩⟩⟩)⟩
    · rw [r 2 (by omega)] at hb
      rw [t1 (56 + b) (by omega) (by omega), rr (2 + b) k (by omega) (by omega)]
      exact d6 b k hb hk
    · rw [r2] at hp
      by_cases e : p = D 0 3
      · rw [e, rb, rb, rb, rb, t4, t5, t6, t7, e3]
        exact ⟨h68 0 (by omega), h68 1 (by omega), h68 2 (by omega), rfl⟩
      · rw [t1 (62 + p) (by omega) (by omega), rr (8 + p) _ (by omega) (by omega), rr (8 + p) _ (by omega) (by omega), rr (8 + p) _ (by omega) (by omega), rr (8 + p) _ (by omega) (by omega)]
        exact d7 p (by omega)
    · obtain ⟨y1, y2, y3, y4, y5⟩ := v8 p hp
      by_cases e : p = D 0 3
      · subst e
        refine ⟨?_, by rw [t8 1 (by omega) (by omega) (by omega) (by omega)]; exact y2, by rw [t8 5 (by omega) (by omega) (by omega) (by omega)]; exact y3, by rw [t8 6 (by omega) (by omega) (by omega) (by omega)]; exact y4, by rw [t8 7 (by omega) (by omega) (by omega) (by omega)]; exact y5⟩
        rw [t7]
        split
        · exact Or.inr rfl
        · exact Or.inl rfl
      · rw [t1 (62 + p) (by omega) (by omega)]
        exact ⟨y1, y2, y3, y4, y5⟩
  · subst e
    have et : tkD 99 f D = dU D 0 4 (f 0) := rfl
    have r : ∀ j, j ≠ 4 → tkD 99 f D 0 j = D 0 j := fun j hj => by rw [et, dU_j hj]
    have r2 : tkD 99 f D 0 4 = f 0 := by rw [et, dU_s]
    have rr : ∀ c j, c ≠ 0 → tkD 99 f D c j = D c j := fun c j z1 => by rw [et, dU_c z1]
    have m1 : mW 99 = 1 := rfl
    have f0 : 1 ≤ f 0 := (hf 0 (by omega)).1
    obtain ⟨τ, eτ⟩ : ∃ τ, τ = bl_up (bl_up s 53 3 (s 68 0)) 2 7 1 := ⟨_, rfl⟩
    have tc : ∀ d, d ≠ 53 → d ≠ 2 → τ d = s d := fun d z1 z2 => by rw [eτ, bl_up_ne z2, bl_up_ne z1]
    have t2 : ∀ j, j ≠ 7 → τ 2 j = s 2 j := fun j z => by rw [eτ, bl_up_j z, bl_up_c (by omega)]
    refine ⟨τ, ⟨fun d y1 y2 y3 => by rw [tc d (by omega) y2]; exact v1 d y1 y2 y3, by rw [t2 1 (by omega)]; exact v2, by rw [t2 5 (by omega)]; exact v3, by rw [t2 6 (by omega)]; exact v4, by rw [t2 2 (by omega)]; exact v5, by rw [eτ, bl_up_s, r2, if_neg (by omega)], ⟨fun k hk => by rw [eτ, bl_up_c (by omega), bl_up_j (by omega), rr 1 k (by omega)]; exact d1 k hk, by rw [eτ, bl_up_c (by omega), bl_up_s, r2, if_neg (by omega)]; exact h68 0 (by omega), by rw [tc 52 (by omega) (by omega), r 2 (by omega)]; exact d3, by rw [tc 52 (by omega) (by omega), r 3 (by omega)]; exact d4, by rw [tc 52 (by omega) (by omega)]; exact d5, fun b k hb hk => ?_, fun p hp => ?_⟩, v8.fr (fun d y1 y2 => tc d (by omega) (by omega))⟩, bl_c (Nat.le_of_ble_eq_true rfl) (vc_X7_take_0 s _ ⟨fun z => absurd z (by decide), fun _ => ⟨fun z => absurd z (by decide), fun _ => ⟨fun z => absurd z (by decide), fun _ => ⟨rfl, ?_⟩⟩⟩⟩)⟩
    · rw [r 2 (by omega)] at hb
      rw [tc (56 + b) (by omega) (by omega), rr (2 + b) k (by omega)]
      exact d6 b k hb hk
    · rw [r 3 (by omega)] at hp
      rw [tc (62 + p) (by omega) (by omega), rr (8 + p) _ (by omega), rr (8 + p) _ (by omega), rr (8 + p) _ (by omega), rr (8 + p) _ (by omega)]
      exact d7 p hp
    · rw [eτ]
/-- behind a fault -/
def CFt (n f q : Nat) (σ s : bl_S) : Prop := FRM σ s ∧ s 2 1 = nI n ∧ s 2 6 = nI f ∧ s 2 2 = nI q ∧ (∃ j, j ≤ n ∧ s 2 5 = nI j) ∧ PZ s
theorem rcC {σ s : bl_S} {T : Nat → Nat} {n i : Nat} {D : Nat → Nat → Nat} (hT : TX 67 T n σ) (hD : okD D) (hV : CVw n D i σ s) (hi : i < n) : ∃ τ, (((clD T n D i).1 = 0 → CVw n (tkD (T i) (fun k => nv T n (sK T n (i + 1) k)) D) (clD T n D i).2 σ τ ∧ i < (clD T n D i).2 ∧ (clD T n D i).2 ≤ n ∧ okD (tkD (T i) (fun k => nv T n (sK T n (i + 1) k)) D)) ∧ ((clD T n D i).1 ≠ 0 → CFt n (clD T n D i).1 (clD T n D i).2 σ τ)) ∧ (clD T n D i).1 ≤ 3 ∧ bl_Con (bl_mi 54) [.ref 2] s none τ := by
  obtain ⟨v1, v2, v3, v4, v5, v6, v7, v8⟩ := id hV
  have hn := hT.1
  have hTs : ∀ s', FRM σ s' → TX 67 T n s' := fun s' f => ⟨hT.1, hT.2.1, fun j hj => by rw [f 67 (by omega) (by omega) (by omega)]; exact hT.2.2 j hj⟩
  have hle := hT.2.1 i hi
  have ch : s 67 i = nI (T i) := (hTs s v1).2.2 i hi
  have hfw := fwC hD v7 v6 hle
  obtain ⟨w, ew⟩ : ∃ w, w = T i := ⟨_, rfl⟩
  have wle : wfD w D ≤ 3 := by
    unfold wfD
    (repeat' split) <;> omega
  unfold clD
  rw [← ew] at hfw ch hle ⊢
  by_cases c : wfD w D = 0
  · rw [if_pos c]
    rw [c] at hfw
    obtain ⟨s1, e1⟩ : ∃ s1, s1 = bl_up s 2 5 (nI (i + 1)) := ⟨_, rfl⟩
    have s1c : ∀ d, d ≠ 2 → s1 d = s d := fun d z => by rw [e1, bl_up_ne z]
    have s1j : ∀ j, j ≠ 5 → s1 2 j = s 2 j := fun j z => by rw [e1, bl_up_j z]
    have f1 : FRM σ s1 := fun d z1 z2 z3 => by rw [s1c d z2]; exact v1 d z1 z2 z3
    obtain ⟨τ1, ⟨t1, t2, ⟨j, jn, t3⟩, t4, t5⟩, hC⟩ := rsC (w := w) (hTs s1 f1) (by rw [s1j 1 (by omega)]; exact v2) (by rw [e1, bl_up_s]) (by rw [s1j 6 (by omega)]; exact v4) (show i + 1 ≤ n by omega)
    have ft : FRM σ τ1 := fun d z1 z2 z3 => by rw [t1 d z2 z3]; exact f1 d z1 z2 z3
    have hsk := skC (hTs τ1 ft) (by rw [t2 1 (by omega) (by omega) (by omega), s1j 1 (by omega)]; exact v2) t3 jn
    have pz1 : PZ τ1 := v8.fr (fun d z1 z2 => by rw [t1 d (by omega) (by omega), s1c d (by omega)])
    obtain ⟨τ2, e2⟩ : ∃ τ2, τ2 = bl_up τ1 2 5 (nI (skp T n j)) := ⟨_, rfl⟩
    rw [← e2] at hsk
    have skn := skp_le (T := T) jn
    have c2 : ∀ d, d ≠ 2 → τ2 d = τ1 d := fun d z => by rw [e2, bl_up_ne z]
    have c2j : ∀ k, k ≠ 5 → τ2 2 k = τ1 2 k := fun k z => by rw [e2, bl_up_j z]
    have f2 : FRM σ τ2 := fun d z1 z2 z3 => by rw [c2 d z2]; exact ft d z1 z2 z3
    have pz2 : PZ τ2 := pz1.fr (fun d z1 z2 => c2 d (by omega))
    have h21 : τ2 2 1 = nI n := by rw [c2j 1 (by omega), t2 1 (by omega) (by omega) (by omega), s1j 1 (by omega)]; exact v2
    -- into the clause
    have into : ∀ τ, (((τ2 2 6) = 0 → (((τ2 2 5) < (τ2 2 1) → (vp_in (τ2 2 5) 230) ∧ (((τ2 67 (Int32.toNatClampNeg (τ2 2 5))) = 59 → (∃ τ19 : bl_S, bl_Con (bl_mi 53) [.ref 2, .int (nI w)] (bl_up τ2 2 5 ((τ2 2 5) + 1)) none τ19 ∧ τ19 = τ)) ∧ (¬ (τ2 67 (Int32.toNatClampNeg (τ2 2 5))) = 59 → τ = bl_up (bl_up τ2 2 6 1) 2 2 (τ2 2 5)))) ∧ (¬ (τ2 2 5) < (τ2 2 1) → τ = bl_up (bl_up τ2 2 6 1) 2 2 (τ2 2 5)))) ∧ (¬ (τ2 2 6) = 0 → τ2 = τ)) → bl_Con (bl_mi 54) [.ref 2] s none τ := by
      intro τ ⟨r1, r2⟩
      refine bl_c (Nat.le_of_ble_eq_true rfl) (vc_X7_readClause_0 s ?_)
      rw [v3, nI_clamp (show i < 2 ^ 31 by omega), ch]
      refine ⟨vp_in_nI (by omega) (by omega), _, _, hfw, fun _ => ?_, fun z => absurd rfl z⟩
      rw [v3, nI_1, ← e1]
      refine ⟨_, _, boC s1 hle, _, hC, _, hsk, fun q => ⟨fun q2 => ?_, fun q2 => ?_⟩, fun q => ⟨rfl, r2 q⟩⟩
      · obtain ⟨a1, a2⟩ := (r1 q).1 q2
        refine ⟨a1, fun q3 => ?_, fun q3 => ⟨_, noteC τ2 1 (τ2 2 5), fun q4 => absurd q4 ?_, fun _ => ⟨rfl, (a2.2 q3).symm⟩⟩⟩
        · obtain ⟨τ19, b1, b2⟩ := a2.1 q3
          exact ⟨τ19, b1, rfl, b2⟩
        · rw [bl_up_j (by omega), bl_up_s]
          decide
      · refine ⟨_, noteC τ2 1 (τ2 2 5), fun q4 => absurd q4 ?_, fun _ => ⟨rfl, ((r1 q).2 q2).symm⟩⟩
        rw [bl_up_j (by omega), bl_up_s]
        decide
    by_cases c1 : (nfs T n w (i + 1) (mW w)).1 = 0
    · rw [if_pos c1]
      obtain ⟨g1, g2, g3, g4⟩ := t4 c1
      have ej : j = eK T n (i + 1) (mW w) := by
        have hb := eK_b (T := T) (n := n) (i := i + 1) (by omega) (mW w)
        exact (nI_eq (by omega) (by omega)).mp (by rw [← t3, g1])
      have eq : skp T n j = sK T n (i + 1) (mW w) := by rw [ej, ← sK_e]
      rw [eq] at e2 skn
      have skg := (sK_b (T := T) (n := n) (i := i + 1) (by omega) (mW w)).1
      obtain ⟨q, eqq⟩ : ∃ q, q = sK T n (i + 1) (mW w) := ⟨_, rfl⟩
      rw [← eqq] at e2 skn skg ⊢
      have h25 : τ2 2 5 = nI q := by rw [e2, bl_up_s]
      have h26 : τ2 2 6 = 0 := by rw [c2j 6 (by omega)]; exact g2
      have h22 : τ2 2 2 = -1 := by rw [c2j 2 (by omega), g3, s1j 2 (by omega)]; exact v5
      have h27 : τ2 2 7 = if D 0 4 = 0 then 0 else 1 := by rw [c2j 7 (by omega), t2 7 (by omega) (by omega) (by omega), s1j 7 (by omega)]; exact v6
      have dv2 : DV D τ2 := v7.fr hD (fun d z1 z2 => by rw [c2 d (by omega), t1 d (by omega) (by omega), s1c d (by omega)])
      by_cases c3 : q < n ∧ T q = 59
      · rw [if_pos c3]
        obtain ⟨s3, e3⟩ : ∃ s3, s3 = bl_up τ2 2 5 (nI (q + 1)) := ⟨_, rfl⟩
        have c3' : ∀ d, d ≠ 2 → s3 d = τ2 d := fun d z => by rw [e3, bl_up_ne z]
        have c3j : ∀ k, k ≠ 5 → s3 2 k = τ2 2 k := fun k z => by rw [e3, bl_up_j z]
        have hv3 : CVw n D (q + 1) σ s3 := ⟨fun d z1 z2 z3 => by rw [c3' d z2]; exact f2 d z1 z2 z3, by rw [c3j 1 (by omega)]; exact h21, by rw [e3, bl_up_s], by rw [c3j 6 (by omega)]; exact h26, by rw [c3j 2 (by omega)]; exact h22, by rw [c3j 7 (by omega)]; exact h27, dv2.fr hD (fun d z1 z2 => c3' d (by omega)), pz2.fr (fun d z1 z2 => c3' d (by omega))⟩
        have hf := clD_f (T := T) (n := n) (w := w) (i := i + 1) c1
        obtain ⟨τ, hCV, hTk⟩ := tkC (w := w) (f := fun k => nv T n (sK T n (i + 1) k)) hD hv3 c hf (fun k hk => by rw [c3' 68 (by omega), c2 68 (by omega)]; exact g4 k hk)
        refine ⟨τ, ⟨fun _ => ⟨hCV, show i < q + 1 by omega, show q + 1 ≤ n by omega, okD_tk hD c hf⟩, fun z => absurd rfl z⟩, by show 0 ≤ 3; omega, into τ ⟨fun _ => ⟨fun _ => ⟨?_, fun _ => ⟨τ, ?_, rfl⟩, fun z => absurd ?_ z⟩, fun z => absurd ?_ z⟩, fun z => absurd h26 z⟩⟩
        · rw [h25]
          exact vp_in_nI (by omega) (by omega)
        · rw [h25, nI_1, ← e3]
          exact hTk
        · rw [h25, nI_clamp (show q < 2 ^ 31 by omega), (hTs τ2 f2).2.2 q c3.1, c3.2]
          rfl
        · rw [h25, h21]
          exact nI_lt c3.1 (by omega)
      · rw [if_neg c3]
        obtain ⟨τ, eτ⟩ : ∃ τ, τ = bl_up (bl_up τ2 2 6 1) 2 2 (nI q) := ⟨_, rfl⟩
        have hCFt : CFt n 1 q σ τ := ⟨fun d z1 z2 z3 => by rw [eτ, bl_up_ne z2, bl_up_ne z2]; exact f2 d z1 z2 z3, by rw [eτ, bl_up_j (by omega), bl_up_j (by omega)]; exact h21, by rw [eτ, bl_up_j (by omega), bl_up_s]; rfl, by rw [eτ, bl_up_s], ⟨q, skn, by rw [eτ, bl_up_j (by omega), bl_up_j (by omega)]; exact h25⟩, pz2.fr (fun d z1 z2 => by rw [eτ, bl_up_ne (by omega), bl_up_ne (by omega)])⟩
        refine ⟨τ, ⟨fun z => absurd z Nat.one_ne_zero, fun _ => hCFt⟩, by show 1 ≤ 3; omega, into τ ⟨fun _ => ⟨fun z => ⟨?_, fun z2 => absurd z2 ?_, fun _ => by rw [h25, eτ]⟩, fun _ => by rw [h25, eτ]⟩, fun z => absurd h26 z⟩⟩
        · rw [h25, h21] at z
          have := (nI_ltI (by omega) (by omega)).mp z
          rw [h25]
          exact vp_in_nI (by omega) (by omega)
        · rw [h25, h21] at z
          have qn := (nI_ltI (by omega) (by omega)).mp z
          have := hT.2.1 q qn
          rw [h25, nI_clamp (show q < 2 ^ 31 by omega), (hTs τ2 f2).2.2 q qn]
          intro y
          exact c3 ⟨qn, (nI_eq (b := 59) (by omega) (by omega)).mp y⟩
    · rw [if_neg c1]
      obtain ⟨g1, g2⟩ := t5 c1
      have fb := nfs_b (T := T) (n := n) (w := w) (i := i + 1) (by omega) (mW w)
      refine ⟨τ2, ⟨fun z => absurd z c1, fun _ => ⟨f2, h21, by rw [c2j 6 (by omega)]; exact g1, by rw [c2j 2 (by omega)]; exact g2, ⟨_, skn, by rw [e2, bl_up_s]⟩, pz2⟩⟩, by omega, into τ2 ⟨fun z => absurd z ?_, fun _ => rfl⟩⟩
      rw [c2j 6 (by omega), g1]
      exact nI_ne0 (by omega) (by omega)
  · rw [if_neg c]
    obtain ⟨τ, eτ⟩ : ∃ τ, τ = bl_up (bl_up s 2 6 (nI (wfD w D))) 2 2 (nI i) := ⟨_, rfl⟩
    refine ⟨τ, ⟨fun z => absurd z c, fun _ => ⟨fun d z1 z2 z3 => by rw [eτ, bl_up_ne z2, bl_up_ne z2]; exact v1 d z1 z2 z3, by rw [eτ, bl_up_j (by omega), bl_up_j (by omega)]; exact v2, by rw [eτ, bl_up_j (by omega), bl_up_s], by rw [eτ, bl_up_s], ⟨i, by omega, by rw [eτ, bl_up_j (by omega), bl_up_j (by omega)]; exact v3⟩, v8.fr (fun d z1 z2 => by rw [eτ, bl_up_ne (by omega), bl_up_ne (by omega)])⟩⟩, wle, bl_c (Nat.le_of_ble_eq_true rfl) (vc_X7_readClause_0 s ?_)⟩
    rw [v3, nI_clamp (show i < 2 ^ 31 by omega), ch]
    refine ⟨vp_in_nI (by omega) (by omega), _, _, hfw, fun z => absurd z (nI_ne0 (by omega) (by omega)), fun _ => ?_⟩
    rw [v3]
    exact ⟨_, noteC s _ _, rfl, by rw [eτ]⟩
/-- behind the whole text -/
def CE (r : Nat × Nat × (Nat → Nat → Nat)) (σ τ : bl_S) : Prop := FRM σ τ ∧ τ 2 1 = 0 ∧ PZ τ ∧ r.1 ≤ 3 ∧ (r.1 = 0 → τ 2 2 = -1 ∧ DV r.2.2 τ ∧ okD r.2.2) ∧ (r.1 ≠ 0 → τ 2 2 = nI r.2.1)
theorem raC {σ : bl_S} {T : Nat → Nat} {n : Nat} (hT : TX 67 T n σ) (h1 : σ 2 1 = nI n) (hz : PZ σ) : ∃ τ, CE (psD T n (n + 1) (fun _ _ => 0) (skp T n 0)) σ τ ∧ bl_Con (bl_mi 55) [.ref 2] σ (some (.int (nI (psD T n (n + 1) (fun _ _ => 0) (skp T n 0)).1))) τ := by
  have hn := hT.1
  have hTs : ∀ s', FRM σ s' → TX 67 T n s' := fun s' f => ⟨hT.1, hT.2.1, fun j hj => by rw [f 67 (by omega) (by omega) (by omega)]; exact hT.2.2 j hj⟩
  have key : ∀ N k D i s, n - i ≤ N → k ≤ i → i ≤ n → okD D → CVw n D i σ s → ∃ τ, CE (psD T n (N + 1) D i) σ τ ∧ bl_Wx (bl_mi 55) 33 [(0, .ref 2), (1, .int (nI k))] [] s (fun v u => v = some (.int (nI (psD T n (N + 1) D i).1)) ∧ u = τ) := by
    -- the end of it
    have ende : ∀ N k D i s, n ≤ i → okD D → CVw n D i σ s → i ≤ n → ∃ τ, CE (psD T n (N + 1) D i) σ τ ∧ bl_Wx (bl_mi 55) 33 [(0, .ref 2), (1, .int (nI k))] [] s (fun v u => v = some (.int (nI (psD T n (N + 1) D i).1)) ∧ u = τ) := by
      intro N k D i s hi hD hV hin
      obtain ⟨v1, v2, v3, v4, v5, v6, v7, v8⟩ := id hV
      have er : psD T n (N + 1) D i = (0, 0, D) := if_neg (by omega)
      rw [er]
      have tc : ∀ d, d ≠ 2 → bl_up s 2 1 0 d = s d := fun d z => bl_up_ne z
      refine ⟨bl_up s 2 1 0, ⟨fun d z1 z2 z3 => by rw [tc d z2]; exact v1 d z1 z2 z3, by rw [bl_up_s], v8.fr (fun d z1 z2 => tc d (by omega)), by show 0 ≤ 3; omega, fun _ => ⟨by rw [bl_up_j (by omega)]; exact v5, v7.fr hD (fun d z1 z2 => tc d (by omega)), hD⟩, fun z => absurd rfl z⟩, vc_X7_readAll_33 _ _ ⟨fun _ => ⟨fun z => absurd z ?_, fun _ => ⟨?_, rfl⟩⟩, fun _ => ⟨?_, rfl⟩⟩⟩
      · rw [v3, v2]
        exact nI_nlt hi (by omega)
      · rw [v4]
        rfl
      · rw [v4]
        rfl
    intro N
    induction N with
    | zero =>
      intro k D i s h hk hin hD hV
      exact ende 0 k D i s (by omega) hD hV hin
    | succ N ih =>
      intro k D i s h hk hin hD hV
      by_cases c : i < n
      · obtain ⟨v1, v2, v3, v4, v5, v6, v7, v8⟩ := id hV
        obtain ⟨τ1, ⟨r1, r2⟩, r3, hC1⟩ := rcC hT hD hV c
        have lt1 : s 2 5 < s 2 1 := by
          rw [v3, v2]
          exact nI_lt c (by omega)
        have lt2 : nI k < (230 : Int32) := nI_lt (b := 230) (by omega) (by omega)
        by_cases c0 : (clD T n D i).1 = 0
        · obtain ⟨a1, a2, a3, a4⟩ := r1 c0
          obtain ⟨b1, b2, b3, b4, b5, b6, b7, b8⟩ := id a1
          have hsk := skC (hTs τ1 b1) b2 b3 a3
          have ge := skp_ge T n (clD T n D i).2
          have le := skp_le (T := T) a3
          have er : psD T n (N + 1 + 1) D i = psD T n (N + 1) (tkD (T i) (fun k => nv T n (sK T n (i + 1) k)) D) (skp T n (clD T n D i).2) := by
            show (if i < n then (if (clD T n D i).1 = 0 then _ else _) else _) = _
            rw [if_pos c, if_pos c0]
          rw [er]
          obtain ⟨τ2, e2⟩ : ∃ τ2, τ2 = bl_up τ1 2 5 (nI (skp T n (clD T n D i).2)) := ⟨_, rfl⟩
          rw [← e2] at hsk
          have tc : ∀ d, d ≠ 2 → τ2 d = τ1 d := fun d z => by rw [e2, bl_up_ne z]
          have tj : ∀ j, j ≠ 5 → τ2 2 j = τ1 2 j := fun j z => by rw [e2, bl_up_j z]
          obtain ⟨τ, hE, hW⟩ := ih (k + 1) _ (skp T n (clD T n D i).2) τ2 (by omega) (by omega) le a4 ⟨fun d z1 z2 z3 => by rw [tc d z2]; exact b1 d z1 z2 z3, by rw [tj 1 (by omega)]; exact b2, by rw [e2, bl_up_s], by rw [tj 6 (by omega)]; exact b4, by rw [tj 2 (by omega)]; exact b5, by rw [tj 7 (by omega)]; exact b6, b7.fr a4 (fun d z1 z2 => tc d (by omega)), b8.fr (fun d z1 z2 => tc d (by omega))⟩
          refine ⟨τ, hE, vc_X7_readAll_33 _ _ ⟨fun _ => ⟨fun _ => ⟨fun _ => ⟨_, hC1, _, hsk, by rw [nI_1]; exact hW⟩, fun z => absurd v4 z⟩, fun z => absurd lt1 z⟩, fun z => absurd lt2 z⟩⟩
        · obtain ⟨b1, b2, b3, b4, ⟨j, jn, b5⟩, b6⟩ := r2 c0
          have hsk := skC (hTs τ1 b1) b2 b5 jn
          have er : psD T n (N + 1 + 1) D i = ((clD T n D i).1, (clD T n D i).2, D) := by
            show (if i < n then (if (clD T n D i).1 = 0 then _ else _) else _) = _
            rw [if_pos c, if_neg c0]
          rw [er]
          obtain ⟨τ2, e2⟩ : ∃ τ2, τ2 = bl_up τ1 2 5 (nI (skp T n j)) := ⟨_, rfl⟩
          rw [← e2] at hsk
          have tc : ∀ d, d ≠ 2 → bl_up τ2 2 1 0 d = τ1 d := fun d z => by rw [bl_up_ne z, e2, bl_up_ne z]
          have t26 : τ2 2 6 = nI (clD T n D i).1 := by rw [e2, bl_up_j (by omega)]; exact b3
          have n26 : ¬ τ2 2 6 = 0 := by
            rw [t26]
            exact nI_ne0 (by omega) (by omega)
          refine ⟨bl_up τ2 2 1 0, ⟨fun d z1 z2 z3 => by rw [tc d z2]; exact b1 d z1 z2 z3, by rw [bl_up_s], b6.fr (fun d z1 z2 => tc d (by omega)), r3, fun z => absurd z c0, fun _ => by rw [bl_up_j (by omega), e2, bl_up_j (by omega)]; exact b4⟩, vc_X7_readAll_33 _ _ ⟨fun _ => ⟨fun _ => ⟨fun _ => ⟨_, hC1, _, hsk, ?_⟩, fun z => absurd v4 z⟩, fun z => absurd lt1 z⟩, fun z => absurd lt2 z⟩⟩
          exact vc_X7_readAll_33 _ _ ⟨fun _ => ⟨fun _ => ⟨fun z => absurd z n26, fun _ => ⟨by rw [t26], rfl⟩⟩, fun _ => ⟨by rw [t26], rfl⟩⟩, fun _ => ⟨by rw [t26], rfl⟩⟩
      · exact ende (N + 1) k D i s (by omega) hD hV hin
  -- the start
  have hlf : bl_Con (bl_mi 26) [.ref 53] σ none (bl_up (bl_up (bl_up (bl_up σ 53 0 0) 53 1 0) 53 2 0) 53 3 999) := bl_c (Nat.le_of_ble_eq_true rfl) (vc_X4_forget_0 σ 53 rfl ⟨rfl, rfl⟩)
  obtain ⟨s1, e1⟩ : ∃ s1, s1 = bl_up (bl_up (bl_up (bl_up σ 53 0 0) 53 1 0) 53 2 0) 53 3 999 := ⟨_, rfl⟩
  rw [← e1] at hlf
  obtain ⟨s2, e2⟩ : ∃ s2, s2 = bl_up (bl_up (bl_up s1 52 3 0) 52 4 0) 52 5 0 := ⟨_, rfl⟩
  have hfo : bl_Con (bl_mi 27) [.ref 52] σ none s2 := bl_c (Nat.le_of_ble_eq_true rfl) (vc_X3_forget_0 σ 52 rfl ⟨rfl, _, hlf, rfl, e2.symm⟩)
  obtain ⟨s3, e3⟩ : ∃ s3, s3 = bl_up (bl_up (bl_up (bl_up s2 2 7 0) 2 5 0) 2 6 0) 2 2 (-1) := ⟨_, rfl⟩
  have c2 : ∀ d, d ≠ 52 → d ≠ 53 → s2 d = σ d := fun d z1 z2 => by rw [e2, bl_up_ne z1, bl_up_ne z1, bl_up_ne z1, e1, bl_up_ne z2, bl_up_ne z2, bl_up_ne z2, bl_up_ne z2]
  have c3 : ∀ d, d ≠ 2 → s3 d = s2 d := fun d z => by rw [e3, bl_up_ne z, bl_up_ne z, bl_up_ne z, bl_up_ne z]
  have f3 : FRM σ s3 := fun d z1 z2 z3 => by rw [c3 d z2, c2 d (by omega) (by omega)]
  have h31 : s3 2 1 = nI n := by rw [e3, bl_up_j (by omega), bl_up_j (by omega), bl_up_j (by omega), bl_up_j (by omega), c2 2 (by omega) (by omega)]; exact h1
  have hsk := skC (i := 0) (hTs s3 f3) h31 (by rw [e3, bl_up_j (by omega), bl_up_j (by omega), bl_up_s]; rfl) (by omega)
  obtain ⟨s4, e4⟩ : ∃ s4, s4 = bl_up s3 2 5 (nI (skp T n 0)) := ⟨_, rfl⟩
  rw [← e4] at hsk
  have c4 : ∀ d, d ≠ 2 → s4 d = s3 d := fun d z => by rw [e4, bl_up_ne z]
  have c4j : ∀ j, j ≠ 5 → s4 2 j = s3 2 j := fun j z => by rw [e4, bl_up_j z]
  have s53 : s4 53 = s1 53 := by rw [c4 53 (by omega), c3 53 (by omega), e2, bl_up_ne (by omega), bl_up_ne (by omega), bl_up_ne (by omega)]
  have s52 : s4 52 = s2 52 := by rw [c4 52 (by omega), c3 52 (by omega)]
  have hD0 : okD (fun _ _ => 0) := ⟨Nat.zero_le _, Nat.zero_le _, Nat.zero_le _, Nat.zero_le _, fun _ => ⟨rfl, rfl, rfl, fun _ _ => rfl⟩, fun z => absurd z Nat.zero_ne_one, fun b hb => absurd hb (Nat.not_lt_zero b), fun p hp => absurd hp (Nat.not_lt_zero p)⟩
  obtain ⟨τ, hE, hW⟩ := key n 0 (fun _ _ => 0) (skp T n 0) s4 (by omega) (by omega) (skp_le (by omega)) hD0 ⟨fun d z1 z2 z3 => by rw [c4 d z2]; exact f3 d z1 z2 z3, by rw [c4j 1 (by omega)]; exact h31, by rw [e4, bl_up_s], by rw [c4j 6 (by omega), e3, bl_up_j (by omega), bl_up_s], by rw [c4j 2 (by omega), e3, bl_up_s], by rw [c4j 7 (by omega), e3, bl_up_j (by omega), bl_up_j (by omega), bl_up_j (by omega), bl_up_s]; rfl, ⟨fun k hk => by
    rw [s53, e1]
    rcases (show k = 0 ∨ k = 1 ∨ k = 2 by omega) with rfl | rfl | rfl
    · rw [bl_up_j (by omega), bl_up_j (by omega), bl_up_j (by omega), bl_up_s]; rfl
    · rw [bl_up_j (by omega), bl_up_j (by omega), bl_up_s]; rfl
    · rw [bl_up_j (by omega), bl_up_s]; rfl, by rw [s53, e1, bl_up_s]; rfl, by rw [s52, e2, bl_up_j (by omega), bl_up_j (by omega), bl_up_s]; rfl, by rw [s52, e2, bl_up_j (by omega), bl_up_s]; rfl, by rw [s52, e2, bl_up_s], fun b k hb => absurd hb (Nat.not_lt_zero b), fun p hp => absurd hp (Nat.not_lt_zero p)⟩, hz.fr (fun d z1 z2 => by rw [c4 d (by omega), c3 d (by omega), c2 d (by omega) (by omega)])⟩
  refine ⟨τ, hE, bl_c (Nat.le_of_ble_eq_true rfl) (vc_X7_readAll_0 σ ⟨_, hfo, s4, ?_, hW⟩)⟩
  rw [← e3]
  exact hsk
