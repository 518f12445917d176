/-! LANE: the reference takes what was read -/
theorem rdM (s : bl_S) : ∃ τ, ((∀ d, d ≠ 1 → ¬ (102 ≤ d ∧ d ≤ 115) → τ d = s d) ∧ (∀ j, 5 ≤ j → j ≠ 11 → τ 1 j = s 1 j) ∧ (∀ k, k < 3 → τ 1 k = if s 1 29 = 0 then 0 else s 117 k) ∧ τ 1 3 = (if 0 < s 118 0 then s 118 0 else 999) ∧ τ 1 4 = s 1 31 ∧ τ 1 11 = s 1 38 ∧ (∀ b k, b < 6 → k < 6 → τ (102 + k) b = s (119 + k) b) ∧ ∀ p, p < 4 → τ 108 p = s 125 p ∧ τ 109 p = 0 ∧ τ 110 p = s 126 p ∧ τ 111 p = s 127 p ∧ τ 112 p = (if s 128 p = 1 then 1 else 0) ∧ τ 113 p = 0 ∧ τ 114 p = 0 ∧ τ 115 p = 0) ∧ bl_Con (bl_mi 114) [.ref 1] s none τ := by
  obtain ⟨s1, e1⟩ : ∃ s1, s1 = bl_up (bl_up (bl_up (bl_up (bl_up (bl_up s 1 0 (if s 1 29 = 0 then 0 else s 117 0)) 1 1 (if s 1 29 = 0 then 0 else s 117 1)) 1 2 (if s 1 29 = 0 then 0 else s 117 2)) 1 3 (if 0 < s 118 0 then s 118 0 else 999)) 1 4 (s 1 31)) 1 11 (s 1 38) := ⟨_, rfl⟩
  have s1c : ∀ d, d ≠ 1 → s1 d = s d := fun d z => by rw [e1, bl_up_ne z, bl_up_ne z, bl_up_ne z, bl_up_ne z, bl_up_ne z, bl_up_ne z]
  obtain ⟨P, eP⟩ : ∃ P : bl_S → Prop, P = fun τ => ((∀ d, ¬ (102 ≤ d ∧ d ≤ 115) → τ d = s1 d) ∧ (∀ b k, b < 6 → k < 6 → τ (102 + k) b = s1 (119 + k) b) ∧ ∀ p, p < 4 → τ 108 p = s1 125 p ∧ τ 109 p = 0 ∧ τ 110 p = s1 126 p ∧ τ 111 p = s1 127 p ∧ τ 112 p = (if s1 128 p = 1 then 1 else 0) ∧ τ 113 p = 0 ∧ τ 114 p = 0 ∧ τ 115 p = 0) := ⟨_, rfl⟩
  have pks : ∀ u : bl_S, ((∀ d, ¬ (102 ≤ d ∧ d ≤ 115) → u d = s1 d) ∧ (∀ b k, b < 6 → k < 6 → u (102 + k) b = s1 (119 + k) b) ∧ ∀ p, p < 0 → u 108 p = s1 125 p ∧ u 109 p = 0 ∧ u 110 p = s1 126 p ∧ u 111 p = s1 127 p ∧ u 112 p = (if s1 128 p = 1 then 1 else 0) ∧ u 113 p = 0 ∧ u 114 p = 0 ∧ u 115 p = 0) → EvN (bl_mi 114) 192 [(0, .ref 1), (1, .int (nI 0))] u P := by
    refine bl_dn (N := 4) (P := fun m => ∀ u : bl_S, ((∀ d, ¬ (102 ≤ d ∧ d ≤ 115) → u d = s1 d) ∧ (∀ b k, b < 6 → k < 6 → u (102 + k) b = s1 (119 + k) b) ∧ ∀ p, p < m → u 108 p = s1 125 p ∧ u 109 p = 0 ∧ u 110 p = s1 126 p ∧ u 111 p = s1 127 p ∧ u 112 p = (if s1 128 p = 1 then 1 else 0) ∧ u 113 p = 0 ∧ u 114 p = 0 ∧ u 115 p = 0) → EvN (bl_mi 114) 192 [(0, .ref 1), (1, .int (nI m))] u P) ?_ ?_
    · intro u h
      exact ⟨u, by rw [eP]; exact h, vc_X11_takeRead_192 _ _ ⟨fun z => absurd z (by decide), fun _ => ⟨rfl, rfl⟩⟩⟩
    · intro m hm ih u ⟨h1, h2, h3⟩
      obtain ⟨v, ev⟩ : ∃ v : Int32, v = if s1 128 m = 1 then 1 else 0 := ⟨_, rfl⟩
      have v01 : v = 0 ∨ v = 1 := by
        rw [ev]
        split
        · exact Or.inr rfl
        · exact Or.inl rfl
      obtain ⟨u2, e2⟩ : ∃ u2, u2 = bl_up (bl_up (bl_up (bl_up (bl_up (bl_up (bl_up (bl_up u 108 m (u 125 m)) 109 m 0) 110 m (u 126 m)) 111 m (u 127 m)) 112 m v) 113 m 0) 114 m 0) 115 m 0 := ⟨_, rfl⟩
      have uc : ∀ d, ¬ (108 ≤ d ∧ d ≤ 115) → u2 d = u d := fun d z => by rw [e2, bl_up_ne (by omega), bl_up_ne (by omega), bl_up_ne (by omega), bl_up_ne (by omega), bl_up_ne (by omega), bl_up_ne (by omega), bl_up_ne (by omega), bl_up_ne (by omega)]
      have uj : ∀ d j, j ≠ m → u2 d j = u d j := fun d j z => by rw [e2, bl_up_j z, bl_up_j z, bl_up_j z, bl_up_j z, bl_up_j z, bl_up_j z, bl_up_j z, bl_up_j z]
      obtain ⟨τ, hP, hW⟩ := ih u2 ⟨fun d z => by rw [uc d (by omega)]; exact h1 d z, fun b k z1 z2 => by rw [uc (102 + k) (by omega)]; exact h2 b k z1 z2, fun p hp => by
        by_cases e : p = m
        · subst e
          refine ⟨?_, ?_, ?_, ?_, ?_, ?_, ?_, ?_⟩
          · rw [e2, bl_up_c (by omega), bl_up_c (by omega), bl_up_c (by omega), bl_up_c (by omega), bl_up_c (by omega), bl_up_c (by omega), bl_up_c (by omega), bl_up_s, h1 125 (by omega)]
          · rw [e2, bl_up_c (by omega), bl_up_c (by omega), bl_up_c (by omega), bl_up_c (by omega), bl_up_c (by omega), bl_up_c (by omega), bl_up_s]
          · rw [e2, bl_up_c (by omega), bl_up_c (by omega), bl_up_c (by omega), bl_up_c (by omega), bl_up_c (by omega), bl_up_s, h1 126 (by omega)]
          · rw [e2, bl_up_c (by omega), bl_up_c (by omega), bl_up_c (by omega), bl_up_c (by omega), bl_up_s, h1 127 (by omega)]
          · rw [e2, bl_up_c (by omega), bl_up_c (by omega), bl_up_c (by omega), bl_up_s, ev]
          · rw [e2, bl_up_c (by omega), bl_up_c (by omega), bl_up_s]
          · rw [e2, bl_up_c (by omega), bl_up_s]
          · rw [e2, bl_up_s]
        · rw [uj _ _ e, uj _ _ e, uj _ _ e, uj _ _ e, uj _ _ e, uj _ _ e, uj _ _ e, uj _ _ e]
          exact h3 p (by omega)⟩
      refine ⟨τ, hP, vc_X11_takeRead_192 _ _ ⟨fun _ => ⟨vip hm, fun v20 e20 => ?_⟩, fun z => absurd (show nI m < (4 : Int32) from nI_lt (b := 4) hm (by omega)) z⟩⟩
      rw [ntp hm, h1 128 (by omega), ← ev] at e20
      rw [ntp hm, e20, vnar01 v01, nI_1, ← e2]
      exact hW
  have bus : ∀ u : bl_S, ((∀ d, ¬ (102 ≤ d ∧ d ≤ 107) → u d = s1 d) ∧ ∀ b k, b < 0 → k < 6 → u (102 + k) b = s1 (119 + k) b) → EvN (bl_mi 114) 106 [(0, .ref 1), (1, .int (nI 0))] u P := by
    refine bl_dn (N := 6) (P := fun m => ∀ u : bl_S, ((∀ d, ¬ (102 ≤ d ∧ d ≤ 107) → u d = s1 d) ∧ ∀ b k, b < m → k < 6 → u (102 + k) b = s1 (119 + k) b) → EvN (bl_mi 114) 106 [(0, .ref 1), (1, .int (nI m))] u P) ?_ ?_
    · intro u ⟨h1, h2⟩
      obtain ⟨τ, hP, hW⟩ := pks u ⟨fun d z => h1 d (by omega), h2, fun p hp => by omega⟩
      exact ⟨τ, hP, vc_X11_takeRead_106 _ _ ⟨fun z => absurd z (by decide), fun _ => hW⟩⟩
    · intro m hm ih u ⟨h1, h2⟩
      obtain ⟨u2, e2⟩ : ∃ u2, u2 = bl_up (bl_up (bl_up (bl_up (bl_up (bl_up u 102 m (u 119 m)) 103 m (u 120 m)) 104 m (u 121 m)) 105 m (u 122 m)) 106 m (u 123 m)) 107 m (u 124 m) := ⟨_, rfl⟩
      have uc : ∀ d, ¬ (102 ≤ d ∧ d ≤ 107) → u2 d = u d := fun d z => by rw [e2, bl_up_ne (by omega), bl_up_ne (by omega), bl_up_ne (by omega), bl_up_ne (by omega), bl_up_ne (by omega), bl_up_ne (by omega)]
      have uj : ∀ d j, j ≠ m → u2 d j = u d j := fun d j z => by rw [e2, bl_up_j z, bl_up_j z, bl_up_j z, bl_up_j z, bl_up_j z, bl_up_j z]
      obtain ⟨τ, hP, hW⟩ := ih u2 ⟨fun d z => by rw [uc d z]; exact h1 d z, fun b k hb hk => by
        by_cases e : b = m
        · subst e
          rw [← h1 (119 + k) (by omega)]
          rcases (show k = 0 ∨ k = 1 ∨ k = 2 ∨ k = 3 ∨ k = 4 ∨ k = 5 by omega) with rfl | rfl | rfl | rfl | rfl | rfl
          · rw [e2, bl_up_c (by omega), bl_up_c (by omega), bl_up_c (by omega), bl_up_c (by omega), bl_up_c (by omega)]; exact bl_up_s _ _ _ _
          · rw [e2, bl_up_c (by omega), bl_up_c (by omega), bl_up_c (by omega), bl_up_c (by omega)]; exact bl_up_s _ _ _ _
          · rw [e2, bl_up_c (by omega), bl_up_c (by omega), bl_up_c (by omega)]; exact bl_up_s _ _ _ _
          · rw [e2, bl_up_c (by omega), bl_up_c (by omega)]; exact bl_up_s _ _ _ _
          · rw [e2, bl_up_c (by omega)]; exact bl_up_s _ _ _ _
          · rw [e2]; exact bl_up_s _ _ _ _
        · rw [uj _ _ e]
          exact h2 b k (by omega) hk⟩
      refine ⟨τ, hP, vc_X11_takeRead_106 _ _ ⟨fun _ => ⟨vib hm, ?_⟩, fun z => absurd (show nI m < (6 : Int32) from nI_lt (b := 6) hm (by omega)) z⟩⟩
      rw [ntb hm, nI_1, ← e2]
      exact hW
  obtain ⟨τ, hP, hW⟩ := bus s1 ⟨fun _ _ => rfl, fun b k hb => by omega⟩
  rw [eP] at hP
  obtain ⟨p1, p2, p3⟩ := hP
  refine ⟨τ, ⟨fun d z1 z2 => by rw [p1 d z2, s1c d z1], fun j z1 z2 => ?_, fun k hk => ?_, ?_, ?_, ?_, fun b k z1 z2 => by rw [p2 b k z1 z2, s1c (119 + k) (by omega)], fun p hp => ?_⟩, bl_c (Nat.le_of_ble_eq_true rfl) (vc_X11_takeRead_0 s (fun v2 e2 v5 e5 v8 e8 v11 e11 => ?_))⟩
  · rw [p1 1 (by omega), e1, bl_up_j z2, bl_up_j (by omega), bl_up_j (by omega), bl_up_j (by omega), bl_up_j (by omega), bl_up_j (by omega)]
  · rw [p1 1 (by omega), e1]
    rcases (show k = 0 ∨ k = 1 ∨ k = 2 by omega) with rfl | rfl | rfl
    · rw [bl_up_j (by omega), bl_up_j (by omega), bl_up_j (by omega), bl_up_j (by omega), bl_up_j (by omega), bl_up_s]
    · rw [bl_up_j (by omega), bl_up_j (by omega), bl_up_j (by omega), bl_up_j (by omega), bl_up_s]
    · rw [bl_up_j (by omega), bl_up_j (by omega), bl_up_j (by omega), bl_up_s]
  · rw [p1 1 (by omega), e1, bl_up_j (by omega), bl_up_j (by omega), bl_up_s]
  · rw [p1 1 (by omega), e1, bl_up_j (by omega), bl_up_s]
  · rw [p1 1 (by omega), e1, bl_up_s]
  · have := p3 p hp
    rw [s1c 125 (by omega), s1c 126 (by omega), s1c 127 (by omega), s1c 128 (by omega)] at this
    exact this
  · rw [e2, e5, e8, e11, ← e1]
    exact hW
/-! what a clause does, in numbers -/
theorem clD_b {T : Nat → Nat} {n i : Nat} {D : Nat → Nat → Nat} (hi : i < n) (hD : okD D) : (clD T n D i).1 ≤ 3 ∧ ((clD T n D i).1 = 0 → i < (clD T n D i).2 ∧ (clD T n D i).2 ≤ n ∧ okD (tkD (T i) (fun k => nv T n (sK T n (i + 1) k)) D)) := by
  have wle : wfD (T i) D ≤ 3 := by
    unfold wfD
    (repeat' split) <;> omega
  have fb := nfs_b (T := T) (n := n) (w := T i) (i := i + 1) (by omega) (mW (T i))
  have skb := sK_b (T := T) (n := n) (i := i + 1) (by omega) (mW (T i))
  unfold clD
  by_cases c : wfD (T i) D = 0
  · rw [if_pos c]
    by_cases c1 : (nfs T n (T i) (i + 1) (mW (T i))).1 = 0
    · rw [if_pos c1]
      by_cases c3 : sK T n (i + 1) (mW (T i)) < n ∧ T (sK T n (i + 1) (mW (T i))) = 59
      · rw [if_pos c3]
        exact ⟨Nat.zero_le _, fun _ => ⟨by show i < sK T n (i + 1) (mW (T i)) + 1; omega, by show sK T n (i + 1) (mW (T i)) + 1 ≤ n; omega, okD_tk hD c (clD_f c1)⟩⟩
      · rw [if_neg c3]
        exact ⟨by show 1 ≤ 3; omega, fun z => absurd z Nat.one_ne_zero⟩
    · rw [if_neg c1]
      exact ⟨by omega, fun z => absurd z c1⟩
  · rw [if_neg c]
    exact ⟨wle, fun z => absurd z c⟩
/-- the reference behind the whole text, without a fault -/
def FS (D : Nat → Nat → Nat) (σ τ : bl_S) : Prop := (∀ d, d ≠ 1 → ¬ (102 ≤ d ∧ d ≤ 115) → ¬ (117 ≤ d ∧ d ≤ 128) → d ≠ 146 → τ d = σ d) ∧ τ 146 0 = 0 ∧ τ 146 1 = 0 ∧ τ 1 21 = σ 1 21 ∧ (∀ k, k < 3 → τ 1 k = nI (D 1 k)) ∧ τ 1 3 = (if D 0 4 = 0 then 999 else nI (D 0 4)) ∧ τ 1 4 = nI (D 0 2) ∧ τ 1 11 = nI (D 0 3) ∧ τ 1 20 = 0 ∧ τ 1 23 = 0 ∧ τ 1 24 = -1 ∧ τ 1 49 = 0 ∧ τ 1 53 = 0 ∧ τ 1 58 = 0 ∧ (∀ b k, b < D 0 2 → k < 6 → τ (102 + k) b = nI (D (2 + b) k)) ∧ ∀ p, p < D 0 3 → τ 108 p = nI (D (8 + p) 0) ∧ τ 109 p = 0 ∧ τ 110 p = nI (D (8 + p) 1) ∧ τ 111 p = nI (D (8 + p) 2) ∧ τ 112 p = nI (D (8 + p) 3) ∧ τ 113 p = 0 ∧ τ 114 p = 0 ∧ τ 115 p = 0
/-- .. and with one -/
def FF (q : Nat) (σ τ : bl_S) : Prop := (∀ d, d ≠ 1 → ¬ (117 ≤ d ∧ d ≤ 128) → τ d = σ d) ∧ (∀ j, ¬ (23 ≤ j ∧ j ≤ 27) → j ≠ 29 → j ≠ 31 → j ≠ 38 → τ 1 j = σ 1 j) ∧ τ 1 23 = 0 ∧ τ 1 24 = nI q
theorem lnM {σ : bl_S} {T : Nat → Nat} {n : Nat} (hT : TX 116 T n σ) (h23 : σ 1 23 = nI n) : ∃ τ, (((psD T n (n + 1) (fun _ _ => 0) (skp T n 0)).1 = 0 → FS (psD T n (n + 1) (fun _ _ => 0) (skp T n 0)).2.2 σ τ) ∧ ((psD T n (n + 1) (fun _ _ => 0) (skp T n 0)).1 ≠ 0 → FF (psD T n (n + 1) (fun _ _ => 0) (skp T n 0)).2.1 σ τ)) ∧ bl_Con (bl_mi 115) [.ref 1] σ (some (.int (if (psD T n (n + 1) (fun _ _ => 0) (skp T n 0)).1 = 0 then nI ((psD T n (n + 1) (fun _ _ => 0) (skp T n 0)).2.2 0 2) else -10 - nI (psD T n (n + 1) (fun _ _ => 0) (skp T n 0)).1))) τ := by
  have hn := hT.1
  have key : ∀ N D e s, n - e ≤ N → e ≤ n → okD D → RVw D e σ s → ∃ r, r = psD T n (N + 1) D (skp T n e) ∧ ∃ τ, ((r.1 = 0 → FS r.2.2 σ τ) ∧ (r.1 ≠ 0 → FF r.2.1 σ τ)) ∧ bl_Wx (bl_mi 115) 34 [(0, .ref 1), (1, .int 0)] [] s (fun v u => v = some (.int (if r.1 = 0 then nI (r.2.2 0 2) else -10 - nI r.1)) ∧ u = τ) := by
    -- the end
    have ende : ∀ N D e s, ¬ skp T n e < n → e ≤ n → okD D → RVw D e σ s → ∃ r, r = psD T n (N + 1) D (skp T n e) ∧ ∃ τ, ((r.1 = 0 → FS r.2.2 σ τ) ∧ (r.1 ≠ 0 → FF r.2.1 σ τ)) ∧ bl_Wx (bl_mi 115) 34 [(0, .ref 1), (1, .int 0)] [] s (fun v u => v = some (.int (if r.1 = 0 then nI (r.2.2 0 2) else -10 - nI r.1)) ∧ u = τ) := by
      intro N D e s hne hen hD hV
      refine ⟨(0, 0, D), (if_neg hne).symm, ?_⟩
      obtain ⟨⟨m1, m2⟩, v2, v3, ⟨r1, r2, r3, r4, r5, r6, r7⟩⟩ := id hV
      obtain ⟨o1, o2, o3, o4, o5, o6, o7, o8⟩ := id hD
      have hTs : TX 116 T n s := ⟨hT.1, hT.2.1, fun j hj => by rw [m1 116 (by omega) (by omega)]; exact hT.2.2 j hj⟩
      have hh := hereM hTs (by rw [m2 23 (by omega) (by omega) (by omega) (by omega)]; exact h23) v3 hen
      rw [if_neg hne] at hh
      obtain ⟨s2, e2⟩ : ∃ s2, s2 = bl_up (bl_up s 1 25 (nI (skp T n e))) 1 23 0 := ⟨_, rfl⟩
      have c2 : ∀ d, d ≠ 1 → s2 d = s d := fun d z => by rw [e2, bl_up_ne z, bl_up_ne z]
      have j2 : ∀ j, j ≠ 23 → j ≠ 25 → s2 1 j = s 1 j := fun j z1 z2 => by rw [e2, bl_up_j z1, bl_up_j z2]
      obtain ⟨τ1, ⟨t1, t2, t3, t4, t5, t6, t7, t8⟩, hC⟩ := rdM s2
      obtain ⟨τ, eτ⟩ : ∃ τ, τ = bl_up (bl_up (bl_up (bl_up (bl_up (bl_up τ1 1 20 0) 1 49 0) 1 53 0) 1 58 0) 146 0 0) 146 1 0 := ⟨_, rfl⟩
      have tc : ∀ d, d ≠ 1 → d ≠ 146 → τ d = τ1 d := fun d z1 z2 => by rw [eτ, bl_up_ne z2, bl_up_ne z2, bl_up_ne z1, bl_up_ne z1, bl_up_ne z1, bl_up_ne z1]
      have tj : ∀ j, j ≠ 20 → j ≠ 49 → j ≠ 53 → j ≠ 58 → τ 1 j = τ1 1 j := fun j z1 z2 z3 z4 => by rw [eτ, bl_up_c (by omega), bl_up_c (by omega), bl_up_j z4, bl_up_j z3, bl_up_j z2, bl_up_j z1]
      have lawk : ∀ k, k < 3 → (if s2 1 29 = 0 then (0 : Int32) else s2 117 k) = nI (D 1 k) := fun k hk => by
        rw [j2 29 (by omega) (by omega), c2 117 (by omega), r1]
        by_cases c : D 0 1 = 0
        · rw [c, if_pos nI_0, (o5 c).2.2.2 k hk]
          rfl
        · rw [if_neg (nI_ne0 (by omega) (by omega))]
          exact r5 (by omega) k hk
      refine ⟨τ, ⟨fun _ => ⟨fun d z1 z2 z3 z4 => by rw [tc d z1 z4, t1 d z1 z2, c2 d z1, m1 d z1 z3], by rw [eτ, bl_up_j (by omega), bl_up_s], by rw [eτ, bl_up_s], by rw [tj 21 (by omega) (by omega) (by omega) (by omega), t2 21 (by omega) (by omega), j2 21 (by omega) (by omega), m2 21 (by omega) (by omega) (by omega) (by omega)], fun k hk => by rw [tj k (by omega) (by omega) (by omega) (by omega), t3 k hk]; exact lawk k hk, ?_, by rw [tj 4 (by omega) (by omega) (by omega) (by omega), t5, j2 31 (by omega) (by omega)]; exact r2, by rw [tj 11 (by omega) (by omega) (by omega) (by omega), t6, j2 38 (by omega) (by omega)]; exact r3, by rw [eτ, bl_up_c (by omega), bl_up_c (by omega), bl_up_j (by omega), bl_up_j (by omega), bl_up_j (by omega), bl_up_s], by rw [tj 23 (by omega) (by omega) (by omega) (by omega), t2 23 (by omega) (by omega), e2, bl_up_s], by rw [tj 24 (by omega) (by omega) (by omega) (by omega), t2 24 (by omega) (by omega), j2 24 (by omega) (by omega)]; exact v2, by rw [eτ, bl_up_c (by omega), bl_up_c (by omega), bl_up_j (by omega), bl_up_j (by omega), bl_up_s], by rw [eτ, bl_up_c (by omega), bl_up_c (by omega), bl_up_j (by omega), bl_up_s], by rw [eτ, bl_up_c (by omega), bl_up_c (by omega), bl_up_s], fun b k hb hk => by rw [tc (102 + k) (by omega) (by omega), t7 b k (show b < 6 by have : b < D 0 2 := hb; omega) hk, c2 (119 + k) (by omega)]; exact r6 b k hb hk, fun p hp => ?_⟩, fun z => absurd rfl z⟩, vc_X11_lane_34 _ _ ⟨fun _ => ⟨_, _, hh, fun _ => ⟨fun z => absurd z (by decide), fun _ => ⟨τ1, ?_, ?_, ?_⟩⟩, fun z => absurd (by decide) z⟩, fun z => absurd rfl z⟩⟩
      · rw [tj 3 (by omega) (by omega) (by omega) (by omega), t4, c2 118 (by omega), r4]
        show (if (0 : Int32) < nI (D 0 4) then nI (D 0 4) else 999) = if D 0 4 = 0 then 999 else nI (D 0 4)
        by_cases c : D 0 4 = 0
        · rw [c]
          rfl
        · rw [if_neg c, if_pos (show (0 : Int32) < nI (D 0 4) from nI_lt (a := 0) (by omega) (by omega))]
      · have hp : p < D 0 3 := hp
        obtain ⟨y1, y2, y3, y4, y5, y6, y7, y8⟩ := t8 p (by omega)
        have q5 := o8 p hp
        rw [tc 108 (by omega) (by omega), tc 109 (by omega) (by omega), tc 110 (by omega) (by omega), tc 111 (by omega) (by omega), tc 112 (by omega) (by omega), tc 113 (by omega) (by omega), tc 114 (by omega) (by omega), tc 115 (by omega) (by omega)]
        refine ⟨?_, y2, ?_, ?_, ?_, y6, y7, y8⟩
        · rw [y1, c2 125 (by omega)]
          exact r7 p 0 hp (by omega)
        · rw [y3, c2 126 (by omega)]
          exact r7 p 1 hp (by omega)
        · rw [y4, c2 127 (by omega)]
          exact r7 p 2 hp (by omega)
        · have e128 : s2 128 p = nI (D (8 + p) 3) := by rw [c2 128 (by omega)]; exact r7 p 3 hp (by omega)
          rw [y5, e128]
          show (if nI (D (8 + p) 3) = 1 then (1 : Int32) else 0) = nI (D (8 + p) 3)
          rcases (show D (8 + p) 3 = 0 ∨ D (8 + p) 3 = 1 by omega) with w | w
          · rw [w]; rfl
          · rw [w]; rfl
      · rw [← e2]
        exact hC
      · rw [t5, j2 31 (by omega) (by omega), r2]
        rfl
      · rw [vnar01 (Or.inl rfl), eτ]
    intro N
    induction N with
    | zero =>
      intro D e s h hen hD hV
      have ge := skp_ge T n e
      exact ende 0 D e s (by omega) hen hD hV
    | succ N ih =>
      intro D e s h hen hD hV
      have ge := skp_ge T n e
      by_cases c : skp T n e < n
      · obtain ⟨⟨m1, m2⟩, v2, v3, v4⟩ := id hV
        have hTs : TX 116 T n s := ⟨hT.1, hT.2.1, fun j hj => by rw [m1 116 (by omega) (by omega)]; exact hT.2.2 j hj⟩
        have hh := hereM hTs (by rw [m2 23 (by omega) (by omega) (by omega) (by omega)]; exact h23) v3 hen
        rw [if_pos c] at hh
        have nb := (skp_b (T := T) (n := n) (n - e) e (Nat.le_refl _)).2.2 c
        have hle := hT.2.1 _ c
        obtain ⟨i, ei⟩ : ∃ i, i = skp T n e := ⟨_, rfl⟩
        rw [← ei] at hh nb c ge hle ⊢
        obtain ⟨s1, e1⟩ : ∃ s1, s1 = bl_up s 1 25 (nI i) := ⟨_, rfl⟩
        rw [← e1] at hh
        have c1 : ∀ d, d ≠ 1 → s1 d = s d := fun d z => by rw [e1, bl_up_ne z]
        have j1 : ∀ j, j ≠ 25 → s1 1 j = s 1 j := fun j z => by rw [e1, bl_up_j z]
        obtain ⟨r1, r2, r3, r4, r5, r6, r7⟩ := v4
        have hV1 : RVw D i σ s1 := ⟨⟨fun d z1 z2 => by rw [c1 d z1]; exact m1 d z1 z2, fun j z1 z2 z3 z4 => by rw [j1 j (by omega)]; exact m2 j z1 z2 z3 z4⟩, by rw [j1 24 (by omega)]; exact v2, by rw [e1, bl_up_s], ⟨by rw [j1 29 (by omega)]; exact r1, by rw [j1 31 (by omega)]; exact r2, by rw [j1 38 (by omega)]; exact r3, by rw [c1 118 (by omega)]; exact r4, fun z k hk => by rw [c1 117 (by omega)]; exact r5 z k hk, fun b k z1 z2 => by rw [c1 (119 + k) (by omega)]; exact r6 b k z1 z2, fun p k z1 z2 => by rw [c1 (125 + k) (by omega)]; exact r7 p k z1 z2⟩⟩
        obtain ⟨υ, ⟨g, b⟩, hC⟩ := tcM hT h23 hD hV1 c nb
        obtain ⟨cb1, cb2⟩ := clD_b (T := T) c hD
        have y0 : ¬ nI (T i) < 0 := nI_pos (by omega)
        by_cases c0 : (clD T n D i).1 = 0
        · obtain ⟨b1, b2, b3⟩ := cb2 c0
          have er : psD T n (N + 1 + 1) D i = psD T n (N + 1) (tkD (T i) (fun k => nv T n (sK T n (i + 1) k)) D) (skp T n (clD T n D i).2) := by
            show (if i < n then (if (clD T n D i).1 = 0 then _ else _) else _) = _
            rw [if_pos c, if_pos c0]
          rw [er]
          obtain ⟨r, hr, τ, hP, hW⟩ := ih _ (clD T n D i).2 υ (by omega) b2 b3 (g c0)
          rw [c0] at hC
          exact ⟨r, hr, τ, hP, vc_X11_lane_34 _ _ ⟨fun _ => ⟨_, _, hh, fun z => absurd z y0, fun _ => ⟨_, _, hC, hW⟩⟩, fun z => absurd rfl z⟩⟩
        · obtain ⟨b1, b2⟩ := b c0
          have er : psD T n (N + 1 + 1) D i = ((clD T n D i).1, (clD T n D i).2, D) := by
            show (if i < n then (if (clD T n D i).1 = 0 then _ else _) else _) = _
            rw [if_pos c, if_neg c0]
          have np : (0 : Int32) < nI (clD T n D i).1 := nI_lt (a := 0) (by omega) (by omega)
          refine ⟨_, er.symm, bl_up υ 1 23 0, ⟨fun z => absurd z c0, fun _ => ⟨fun d z1 z2 => by rw [bl_up_ne z1]; exact b1.1 d z1 z2, fun j z1 z2 z3 z4 => by rw [bl_up_j (by omega)]; exact b1.2 j (by omega) z2 z3 z4, by rw [bl_up_s], by rw [bl_up_j (by omega)]; exact b2⟩⟩, vc_X11_lane_34 _ _ ⟨fun _ => ⟨_, _, hh, fun z => absurd z y0, fun _ => ⟨_, _, hC, ?_⟩⟩, fun z => absurd rfl z⟩⟩
          refine vc_X11_lane_34 _ _ ⟨fun z => absurd z (nI_ne0 (by omega) (by omega)), fun _ => ⟨fun _ => ⟨?_, rfl⟩, fun z => absurd np z⟩⟩
          rw [if_neg c0]
      · exact ende (N + 1) D e s c hen hD hV
  obtain ⟨s1, e1⟩ : ∃ s1, s1 = bl_up (bl_up (bl_up (bl_up (bl_up (bl_up σ 1 24 (-1)) 1 25 0) 1 29 0) 118 0 0) 1 31 0) 1 38 0 := ⟨_, rfl⟩
  have hD0 : okD (fun _ _ => 0) := ⟨Nat.zero_le _, Nat.zero_le _, Nat.zero_le _, Nat.zero_le _, fun _ => ⟨rfl, rfl, rfl, fun _ _ => rfl⟩, fun z => absurd z Nat.zero_ne_one, fun b hb => absurd hb (Nat.not_lt_zero b), fun p hp => absurd hp (Nat.not_lt_zero p)⟩
  have hV0 : RVw (fun _ _ => 0) 0 σ s1 := by
    refine ⟨⟨fun d z1 z2 => by rw [e1, bl_up_ne z1, bl_up_ne z1, bl_up_ne (by omega), bl_up_ne z1, bl_up_ne z1, bl_up_ne z1], fun j z1 z2 z3 z4 => by rw [e1, bl_up_j z4, bl_up_j z3, bl_up_c (by omega), bl_up_j z2, bl_up_j (by omega), bl_up_j (by omega)]⟩, ?_, ?_, ⟨?_, ?_, ?_, ?_, fun z => absurd z Nat.zero_ne_one, fun b k hb => absurd hb (Nat.not_lt_zero b), fun p k hp => absurd hp (Nat.not_lt_zero p)⟩⟩
    · rw [e1, bl_up_j (by omega), bl_up_j (by omega), bl_up_c (by omega), bl_up_j (by omega), bl_up_j (by omega), bl_up_s]
    · rw [e1, bl_up_j (by omega), bl_up_j (by omega), bl_up_c (by omega), bl_up_j (by omega), bl_up_s]; rfl
    · rw [e1, bl_up_j (by omega), bl_up_j (by omega), bl_up_c (by omega), bl_up_s]; rfl
    · rw [e1, bl_up_j (by omega), bl_up_s]; rfl
    · rw [e1, bl_up_s]; rfl
    · rw [e1, bl_up_c (by omega), bl_up_c (by omega), bl_up_s]; rfl
  obtain ⟨r, hr, τ, hP, hW⟩ := key n (fun _ _ => 0) 0 s1 (by omega) (by omega) hD0 hV0
  rw [← hr]
  refine ⟨τ, hP, bl_c (Nat.le_of_ble_eq_true rfl) (vc_X11_lane_0 σ ?_)⟩
  rw [← e1]
  exact hW
