theorem rpM_c {rip so fa rn : Int32} {b d : Nat} {s : bl_S} (h : d < 105 ∨ 107 < d) : rpM rip so fa rn b s d = s d := by
  unfold rpM
  rw [bl_up_ne (by omega), bl_up_ne (by omega), bl_up_ne (by omega)]
theorem rpM_j {rip so fa rn : Int32} {b d j : Nat} {s : bl_S} (h : j ≠ b) : rpM rip so fa rn b s d j = s d j := by
  unfold rpM
  rw [bl_up_j h, bl_up_j h, bl_up_j h]
theorem rpM_3 {rip so fa rn : Int32} {b : Nat} {s : bl_S} : rpM rip so fa rn b s 105 b = dr1 (dm rip (s 104 b)) (s 105 b) ∧ rpM rip so fa rn b s 106 b = dp (dm rip (s 104 b)) so rn (s 105 b) (s 106 b) ∧ rpM rip so fa rn b s 107 b = ds (dm rip (s 104 b)) so fa rn (s 105 b) (s 106 b) (s 107 b) := by
  unfold rpM
  refine ⟨?_, ?_, ?_⟩
  · rw [bl_up_c (by omega), bl_up_c (by omega), bl_up_s]
  · rw [bl_up_c (by omega), bl_up_s]
  · rw [bl_up_s]
def dMm (rip so fa rn : Int32) (n : Nat) (σ : bl_S) : bl_S := itn (fun b s => rpM rip so fa rn b s) n σ
theorem dMm_c {rip so fa rn : Int32} {σ : bl_S} {d : Nat} (h : d < 105 ∨ 107 < d) : ∀ {n : Nat}, dMm rip so fa rn n σ d = σ d
  | 0 => rfl
  | n + 1 => by
    show rpM rip so fa rn n (dMm rip so fa rn n σ) d = σ d
    rw [rpM_c h, dMm_c h]
theorem dMm_j {rip so fa rn : Int32} {σ : bl_S} {d j : Nat} : ∀ {n : Nat}, n ≤ j → dMm rip so fa rn n σ d j = σ d j
  | 0, _ => rfl
  | n + 1, h => by
    show rpM rip so fa rn n (dMm rip so fa rn n σ) d j = σ d j
    rw [rpM_j (by omega), dMm_j (by omega)]
theorem dMm_b {rip so fa rn : Int32} {σ : bl_S} {d b : Nat} : ∀ {n : Nat}, b < n → dMm rip so fa rn n σ d b = rpM rip so fa rn b σ d b
  | 0, h => by omega
  | n + 1, h => by
    show rpM rip so fa rn n (dMm rip so fa rn n σ) d b = _
    by_cases e : b = n
    · subst e
      by_cases hd : d < 105 ∨ 107 < d
      · rw [rpM_c hd, rpM_c hd, dMm_c hd]
      · have h1 := rpM_3 (rip := rip) (so := so) (fa := fa) (rn := rn) (b := b) (s := dMm rip so fa rn b σ)
        have h2 := rpM_3 (rip := rip) (so := so) (fa := fa) (rn := rn) (b := b) (s := σ)
        rw [dMm_j (Nat.le_refl b), dMm_j (Nat.le_refl b), dMm_j (Nat.le_refl b), dMm_j (Nat.le_refl b)] at h1
        rcases (show d = 105 ∨ d = 106 ∨ d = 107 by omega) with rfl | rfl | rfl
        · rw [h1.1, h2.1]
        · rw [h1.2.1, h2.2.1]
        · rw [h1.2.2, h2.2.2]
    · rw [rpM_j (by omega), dMm_b (by omega)]
def ckM (n : Nat) (σ : bl_S) : bl_S := itn (fun p s => bl_up s 115 p 0) n σ
theorem ckM_c {σ : bl_S} {d : Nat} (h : d ≠ 115) : ∀ {n : Nat}, ckM n σ d = σ d
  | 0 => rfl
  | n + 1 => by
    show bl_up (ckM n σ) 115 n 0 d = σ d
    rw [bl_up_ne h, ckM_c h]
theorem ckM_p {σ : bl_S} {p : Nat} : ∀ {n : Nat}, p < n → ckM n σ 115 p = 0
  | 0, h => by omega
  | n + 1, h => by
    show bl_up (ckM n σ) 115 n 0 115 p = 0
    by_cases e : p = n
    · subst e
      rw [bl_up_s]
    · rw [bl_up_j e, ckM_p (by omega)]
def dyM (nb np : Nat) (rip so fa rn : Int32) (σ : bl_S) : bl_S := bl_up (ckM np (dMm rip so fa rn nb σ)) 1 20 (σ 1 20 + 1)
theorem dyM_c {nb np d : Nat} {rip so fa rn : Int32} {σ : bl_S} (h : d ≠ 1 ∧ d ≠ 105 ∧ d ≠ 106 ∧ d ≠ 107 ∧ d ≠ 115) : dyM nb np rip so fa rn σ d = σ d := by
  unfold dyM
  rw [bl_up_ne h.1, ckM_c h.2.2.2.2, dMm_c (by omega)]
theorem dyM_1 {nb np k : Nat} {rip so fa rn : Int32} {σ : bl_S} (h : k ≠ 20) : dyM nb np rip so fa rn σ 1 k = σ 1 k := by
  unfold dyM
  rw [bl_up_j h, ckM_c (by omega), dMm_c (by omega)]
theorem MV_day {nb np : Nat} {rip so fa : Int32} (rn : Int32) {A : AS} {s : bl_S} (h : MVt nb np A s) : MVt nb np (dyA nb np rip so fa rn A) (dyM nb np rip so fa rn s) := by
  obtain ⟨h1, h2, h3, h4⟩ := h
  refine ⟨fun b k hb hk => ?_, fun p k hp hk => ?_, ?_, ?_⟩
  · show dyM nb np rip so fa rn s (102 + k) b = dyB nb rip so fa rn A.1 b k
    have e0 := h1 b 2 hb (by omega)
    have e3 := h1 b 3 hb (by omega)
    have e4 := h1 b 4 hb (by omega)
    have e5 := h1 b 5 hb (by omega)
    have h3 := rpM_3 (rip := rip) (so := so) (fa := fa) (rn := rn) (b := b) (s := s)
    unfold dyM
    rw [bl_up_c (by omega), ckM_c (by omega), dMm_b hb]
    simp only [dyB, if_pos hb]
    by_cases k3 : k = 3
    · subst k3
      rw [if_pos rfl, ← e0, ← e3]
      exact h3.1
    · by_cases k4 : k = 4
      · subst k4
        rw [if_neg (by omega), if_pos rfl, ← e0, ← e3, ← e4]
        exact h3.2.1
      · by_cases k5 : k = 5
        · subst k5
          rw [if_neg (by omega), if_neg (by omega), if_pos rfl, ← e0, ← e3, ← e4, ← e5]
          exact h3.2.2
        · rw [if_neg k3, if_neg k4, if_neg k5, rpM_c (by omega)]
          exact h1 b k hb hk
  · show dyM nb np rip so fa rn s (108 + k) p = dyP np A.2.1 p k
    unfold dyM dyP
    rw [bl_up_c (by omega)]
    by_cases e : k = 7
    · subst e
      rw [if_pos ⟨hp, rfl⟩]
      exact ckM_p hp
    · rw [if_neg (fun q => e q.2), ckM_c (by omega), dMm_c (by omega)]
      exact h2 p k hp hk
  · show bl_up _ 1 20 _ 1 20 = A.2.2.1 + 1
    rw [bl_up_s, h3]
  · rw [dyM_1 (by omega), h4]
    rfl
theorem c_X11_dayNow (σ : bl_S) {nb np : Nat} (rn : Int32) (hn : nb ≤ 6) (hn2 : np ≤ 4) (h4 : σ 1 4 = nI nb) (h11 : σ 1 11 = nI np) (hl : Lw (σ 1 0) (σ 1 1) (σ 1 2)) : bl_Con (bl_mi 136) [.ref 1, .int rn] σ none (dyM nb np (σ 1 0) (σ 1 1) (σ 1 2) rn σ) := by
  refine bl_c (Nat.le_of_ble_eq_true rfl) (vc_X11_dayNow_0 σ rn ?_)
  refine bl_dn (N := nb) (P := fun i => bl_Wx (bl_mi 136) 2 [(0, .ref 1), (1, .int rn), (2, .int (nI i))] [] (dMm (σ 1 0) (σ 1 1) (σ 1 2) rn i σ) (fun v τ => v = none ∧ τ = dyM nb np (σ 1 0) (σ 1 1) (σ 1 2) rn σ)) ?_ ?_
  · refine vc_X11_dayNow_2 _ rn _ ⟨fun q => absurd q ?_, fun _ => ?_⟩
    · rw [dMm_c (by omega), h4]
      exact nI_nlt (Nat.le_refl _) (by omega)
    · refine bl_dn (N := np) (P := fun i => bl_Wx (bl_mi 136) 24 [(0, .ref 1), (1, .int rn), (2, .int (nI i))] [] (ckM i (dMm (σ 1 0) (σ 1 1) (σ 1 2) rn nb σ)) (fun v τ => v = none ∧ τ = dyM nb np (σ 1 0) (σ 1 1) (σ 1 2) rn σ)) ?_ ?_
      · refine vc_X11_dayNow_24 _ rn _ ⟨fun q => absurd q ?_, fun _ => ⟨rfl, ?_⟩⟩
        · rw [ckM_c (by omega), dMm_c (by omega), h11]
          exact nI_nlt (Nat.le_refl _) (by omega)
        · rw [ckM_c (by omega), dMm_c (by omega)]
          rfl
      · intro i hi ih
        refine vc_X11_dayNow_24 _ rn _ ⟨fun _ => ?_, fun q => absurd ?_ q⟩
        · rw [nI_1, ntp (by omega)]
          exact ⟨vip (by omega), ih⟩
        · rw [ckM_c (by omega), dMm_c (by omega), h11]
          exact nI_lt hi (by omega)
  · intro i hi ih
    refine vc_X11_dayNow_2 _ rn _ ⟨fun _ => ?_, fun q => absurd ?_ q⟩
    · rw [nI_1]
      have e1 : dMm (σ 1 0) (σ 1 1) (σ 1 2) rn i σ 1 = σ 1 := dMm_c (by omega)
      have hc := c_X11_ripen (dMm (σ 1 0) (σ 1 1) (σ 1 2) rn i σ) (b := i) rn (by omega) (by rw [e1]; exact hl)
      rw [e1] at hc
      exact ⟨_, hc, ih⟩
    · rw [dMm_c (by omega), h4]
      exact nI_lt hi (by omega)
/-! days, n of them -/
def dnS (nb np : Nat) (rip so fa rn : Int32) (n : Nat) (σ : bl_S) : bl_S := itn (fun _ s => dyS nb np rip so fa rn s) n σ
def dnM (nb np : Nat) (rip so fa rn : Int32) (n : Nat) (σ : bl_S) : bl_S := itn (fun _ s => dyM nb np rip so fa rn s) n σ
def dnA (nb np : Nat) (rip so fa rn : Int32) (n : Nat) (A : AS) : AS := itn (fun _ A => dyA nb np rip so fa rn A) n A
theorem dnS_c {nb np d : Nat} {rip so fa rn : Int32} {σ : bl_S} (h1 : d ≠ 10) (h2 : d < 14 ∨ 20 + np ≤ d) (hn : nb ≤ 6) : ∀ {n : Nat}, dnS nb np rip so fa rn n σ d = σ d
  | 0 => rfl
  | n + 1 => by
    show dyS nb np rip so fa rn (dnS nb np rip so fa rn n σ) d = σ d
    rw [dyS_c h1 h2 hn, dnS_c h1 h2 hn]
theorem dnS_10 {nb np k : Nat} {rip so fa rn : Int32} {σ : bl_S} (h : k ≠ 5) : ∀ {n : Nat}, dnS nb np rip so fa rn n σ 10 k = σ 10 k
  | 0 => rfl
  | n + 1 => by
    show dyS nb np rip so fa rn (dnS nb np rip so fa rn n σ) 10 k = σ 10 k
    rw [dyS_10 h, dnS_10 h]
theorem dnM_c {nb np d : Nat} {rip so fa rn : Int32} {σ : bl_S} (h : d ≠ 1 ∧ d ≠ 105 ∧ d ≠ 106 ∧ d ≠ 107 ∧ d ≠ 115) : ∀ {n : Nat}, dnM nb np rip so fa rn n σ d = σ d
  | 0 => rfl
  | n + 1 => by
    show dyM nb np rip so fa rn (dnM nb np rip so fa rn n σ) d = σ d
    rw [dyM_c h, dnM_c h]
theorem dnM_1 {nb np k : Nat} {rip so fa rn : Int32} {σ : bl_S} (h : k ≠ 20) : ∀ {n : Nat}, dnM nb np rip so fa rn n σ 1 k = σ 1 k
  | 0 => rfl
  | n + 1 => by
    show dyM nb np rip so fa rn (dnM nb np rip so fa rn n σ) 1 k = σ 1 k
    rw [dyM_1 h, dnM_1 h]
theorem CV_days {nb np : Nat} {rip so fa : Int32} (rn : Int32) {A : AS} {s : bl_S} (hn : nb ≤ 6) (hn2 : np ≤ 4) (h : CVt nb np A s) : ∀ n, CVt nb np (dnA nb np rip so fa rn n A) (dnS nb np rip so fa rn n s)
  | 0 => h
  | n + 1 => CV_day rn hn hn2 (CV_days rn hn hn2 h n)
theorem MV_days {nb np : Nat} {rip so fa : Int32} (rn : Int32) {A : AS} {s : bl_S} (h : MVt nb np A s) : ∀ n, MVt nb np (dnA nb np rip so fa rn n A) (dnM nb np rip so fa rn n s)
  | 0 => h
  | n + 1 => MV_day rn (MV_days rn h n)
theorem RA_days {nb np : Nat} {rip so fa : Int32} (rn : Int32) {A : AS} (hl : Lw rip so fa) (h : RA nb np A.1 A.2.1) : ∀ n, RA nb np (dnA nb np rip so fa rn n A).1 (dnA nb np rip so fa rn n A).2.1
  | 0 => h
  | n + 1 => RA_day rn hl (RA_days rn hl h n)
theorem dyA_st {nb np : Nat} {rip so fa rn : Int32} {A : AS} : (∀ b k, k < 3 → (dyA nb np rip so fa rn A).1 b k = A.1 b k) ∧ (∀ p k, k ≠ 7 → (dyA nb np rip so fa rn A).2.1 p k = A.2.1 p k) ∧ (dyA nb np rip so fa rn A).2.2.2 = A.2.2.2 := by
  refine ⟨fun b k hk => ?_, fun p k hk => ?_, rfl⟩
  · show dyB nb rip so fa rn A.1 b k = A.1 b k
    unfold dyB
    split
    · rw [if_neg (by omega), if_neg (by omega), if_neg (by omega)]
    · rfl
  · show dyP np A.2.1 p k = A.2.1 p k
    unfold dyP
    rw [if_neg (fun q => hk q.2)]
theorem dnA_st {nb np : Nat} {rip so fa rn : Int32} {A : AS} : ∀ n, (∀ b k, k < 3 → (dnA nb np rip so fa rn n A).1 b k = A.1 b k) ∧ (∀ p k, k ≠ 7 → (dnA nb np rip so fa rn n A).2.1 p k = A.2.1 p k) ∧ (dnA nb np rip so fa rn n A).2.2.2 = A.2.2.2
  | 0 => ⟨fun _ _ _ => rfl, fun _ _ _ => rfl, rfl⟩
  | n + 1 => by
    obtain ⟨h1, h2, h3⟩ := dnA_st (nb := nb) (np := np) (rip := rip) (so := so) (fa := fa) (rn := rn) (A := A) n
    obtain ⟨g1, g2, g3⟩ := dyA_st (nb := nb) (np := np) (rip := rip) (so := so) (fa := fa) (rn := rn) (A := dnA nb np rip so fa rn n A)
    exact ⟨fun b k hk => (g1 b k hk).trans (h1 b k hk), fun p k hk => (g2 p k hk).trans (h2 p k hk), g3.trans h3⟩
theorem pr_day {σ : bl_S} (h : Inv σ) (x rn : Int32) : Pr 79 137 [.int x, .int rn] σ := by
  obtain ⟨nb, np, nt, a, b, c, hl, hb, hp, hz, ht, hs, hm⟩ := id h
  have hI : Iv nb np nt a b c σ := ⟨hl, hb, hp, hz, ht, hs, hm⟩
  obtain ⟨a1, a2, a3, a4, a5, a6, a7, a8, a9, a10, a11, a12⟩ := id hl
  by_cases g : wi x 1 99 = 0
  · exact ⟨-1000000002, σ, σ, bl_c (Nat.le_of_ble_eq_true rfl) (vc_X10_day_0 σ x rn ⟨_, _, c_X10_within σ x 1 99, fun _ => ⟨rfl, rfl⟩, fun q => absurd g q⟩), bl_c (Nat.le_of_ble_eq_true rfl) (vc_X11_day_0 σ x rn ⟨_, _, c_X11_in σ x 1 99 (by decide) (by decide), fun _ => ⟨rfl, rfl⟩, fun q => absurd g q⟩), h⟩
  have l0 := a7 0 (by omega)
  have l1 := a7 1 (by omega)
  have l2 := a7 2 (by omega)
  rcases a11 with a11 | ⟨-, -, z0, z1, z2⟩
  · have hL : Lw (σ 1 0) (σ 1 1) (σ 1 2) := a11
    have hLc : Lw (σ 11 0) (σ 11 1) (σ 11 2) := by rw [l0, l1, l2]; exact hL
    obtain ⟨n, n1, n2, rfl⟩ := wi_c (a := 1) (b := 99) (by omega) (by omega) g
    obtain ⟨v1, v2, v3⟩ := hI.start
    have c1 := CV_days (rip := σ 11 0) (so := σ 11 1) (fa := σ 11 2) (A := ((fun b k => σ (14 + b) k), (fun p k => σ (20 + p) k), σ 10 5, σ 10 6)) rn a1 a2 v1 n
    have m0 : MVt nb np ((fun b k => σ (14 + b) k), (fun p k => σ (20 + p) k), σ 10 5, σ 10 6) (dnS nb np (σ 11 0) (σ 11 1) (σ 11 2) rn n σ) := by
      obtain ⟨w1, w2, w3, w4⟩ := v2
      exact ⟨fun b k hb hk => by rw [dnS_c (by omega) (by omega) a1]; exact w1 b k hb hk, fun p k hp hk => by rw [dnS_c (by omega) (by omega) a1]; exact w2 p k hp hk, by rw [dnS_c (by omega) (by omega) a1]; exact w3, by rw [dnS_c (by omega) (by omega) a1]; exact w4⟩
    have m1 := MV_days (rip := σ 11 0) (so := σ 11 1) (fa := σ 11 2) rn m0 n
    have r1 := RA_days (rip := σ 11 0) (so := σ 11 1) (fa := σ 11 2) (A := ((fun b k => σ (14 + b) k), (fun p k => σ (20 + p) k), σ 10 5, σ 10 6)) rn hLc v3 n
    obtain ⟨t1, t2, t3⟩ := dnA_st (nb := nb) (np := np) (rip := σ 11 0) (so := σ 11 1) (fa := σ 11 2) (rn := rn) (A := ((fun b k => σ (14 + b) k), (fun p k => σ (20 + p) k), σ 10 5, σ 10 6)) n
    generalize hA : dnA nb np (σ 11 0) (σ 11 1) (σ 11 2) rn n ((fun b k => σ (14 + b) k), (fun p k => σ (20 + p) k), σ 10 5, σ 10 6) = A at c1 m1 r1 t1 t2 t3
    have rC : sm (fun b => dnS nb np (σ 11 0) (σ 11 1) (σ 11 2) rn n σ (10 + 4 + b) 4) nb = sm (fun b => A.1 b 4) nb := sm_eq (fun i hi => c1.1 i 4 hi (by omega))
    have rM : sm (fun b => dnM nb np (σ 11 0) (σ 11 1) (σ 11 2) rn n (dnS nb np (σ 11 0) (σ 11 1) (σ 11 2) rn n σ) 106 b) nb = sm (fun b => A.1 b 4) nb := sm_eq (fun i hi => m1.1 i 4 hi (by omega))
    refine ⟨sm (fun b => A.1 b 4) nb, dnS nb np (σ 11 0) (σ 11 1) (σ 11 2) rn n σ, dnM nb np (σ 11 0) (σ 11 1) (σ 11 2) rn n (dnS nb np (σ 11 0) (σ 11 1) (σ 11 2) rn n σ), bl_c (Nat.le_of_ble_eq_true rfl) (vc_X10_day_0 σ _ rn ⟨_, _, c_X10_within σ _ 1 99, fun q => absurd q g, fun _ => ⟨_, _, c_X4_isTold σ (r := 11) rfl, fun q => absurd q (by rw [hLc.told]; decide), fun _ => ?_⟩⟩), bl_c (Nat.le_of_ble_eq_true rfl) (vc_X11_day_0 _ _ rn ⟨_, _, c_X11_in _ _ 1 99 (by decide) (by decide), fun q => absurd q g, fun _ => ⟨fun q => absurd q ?_, fun _ => ?_⟩⟩), ?_⟩
    · refine bl_dn (N := n) (P := fun i => bl_Wx (bl_mi 79) 31 [(0, .ref 0), (1, .int (nI n)), (2, .int rn), (3, .int (nI i))] [] (dnS nb np (σ 11 0) (σ 11 1) (σ 11 2) rn i σ) (fun v τ => v = some (.int (sm (fun b => A.1 b 4) nb)) ∧ τ = dnS nb np (σ 11 0) (σ 11 1) (σ 11 2) rn n σ)) ?_ ?_
      · refine vc_X10_day_31 _ _ _ _ ⟨fun q => absurd q (nI_nlt (Nat.le_refl _) (by omega)), fun _ => ⟨_, _, c_X3_ripeInAll _ (L := 10) (Or.inl rfl) a1 (by rw [dnS_10 (by omega)]; exact a3), ?_, rfl⟩⟩
        rw [rC]
      · intro i hi ih
        refine vc_X10_day_31 _ _ _ _ ⟨fun _ => ?_, fun q => absurd (nI_lt hi (by omega)) q⟩
        rw [nI_1]
        have e11 : dnS nb np (σ 11 0) (σ 11 1) (σ 11 2) rn i σ 11 = σ 11 := dnS_c (by omega) (by omega) a1
        have hc := c_X3_passDay (dnS nb np (σ 11 0) (σ 11 1) (σ 11 2) rn i σ) rn a1 a2 (by rw [dnS_10 (by omega)]; exact a3) (by rw [dnS_10 (by omega)]; exact a5) (by rw [e11]; exact hLc)
        rw [e11] at hc
        exact ⟨_, hc, ih⟩
    · rw [dnS_c (by omega) (by omega) a1]
      exact hL.nz.1
    · refine bl_dn (N := n) (P := fun i => bl_Wx (bl_mi 137) 28 [(0, .ref 1), (1, .int (nI n)), (2, .int rn), (3, .int (nI i))] [] (dnM nb np (σ 11 0) (σ 11 1) (σ 11 2) rn i (dnS nb np (σ 11 0) (σ 11 1) (σ 11 2) rn n σ)) (fun v τ => v = some (.int (sm (fun b => A.1 b 4) nb)) ∧ τ = dnM nb np (σ 11 0) (σ 11 1) (σ 11 2) rn n (dnS nb np (σ 11 0) (σ 11 1) (σ 11 2) rn n σ))) ?_ ?_
      · refine vc_X11_day_28 _ _ _ _ ⟨fun q => absurd q (nI_nlt (Nat.le_refl _) (by omega)), fun _ => ⟨_, _, c_X11_ripeInAll _ a1 (by rw [dnM_1 (by omega), dnS_c (by omega) (by omega) a1]; exact a4), ?_, rfl⟩⟩
        rw [rM]
      · intro i hi ih
        refine vc_X11_day_28 _ _ _ _ ⟨fun _ => ?_, fun q => absurd (nI_lt hi (by omega)) q⟩
        rw [nI_1]
        have e1 : ∀ k, k ≠ 20 → dnM nb np (σ 11 0) (σ 11 1) (σ 11 2) rn i (dnS nb np (σ 11 0) (σ 11 1) (σ 11 2) rn n σ) 1 k = σ 1 k := fun k hk => by rw [dnM_1 hk, dnS_c (by omega) (by omega) a1]
        have hc := c_X11_dayNow (dnM nb np (σ 11 0) (σ 11 1) (σ 11 2) rn i (dnS nb np (σ 11 0) (σ 11 1) (σ 11 2) rn n σ)) rn a1 a2 (by rw [e1 4 (by omega)]; exact a4) (by rw [e1 11 (by omega)]; exact a6) (by rw [e1 0 (by omega), e1 1 (by omega), e1 2 (by omega)]; exact hL)
        rw [e1 0 (by omega), e1 1 (by omega), e1 2 (by omega), ← l0, ← l1, ← l2] at hc
        exact ⟨_, hc, ih⟩
    · refine (hI.views (B := A.1) (P := A.2.1) (dy := A.2.2.1) (sd := A.2.2.2) ?_ m1 r1 (by rw [t3]; show ¬ σ 10 6 < 0; rw [a9]; exact a10) (fun d hd => ?_) (fun k z1 z2 => ?_) (fun k z1 z2 => ?_) (fun p z1 z2 => ?_) (fun b k _ hk => t1 b k hk) (fun p k _ hk => t2 p k (by omega))).inv
      · obtain ⟨w1, w2, w3, w4⟩ := c1
        exact ⟨fun b k hb hk => by rw [dnM_c (by omega)]; exact w1 b k hb hk, fun p k hp hk => by rw [dnM_c (by omega)]; exact w2 p k hp hk, by rw [dnM_c (by omega)]; exact w3, by rw [dnM_c (by omega)]; exact w4⟩
      · unfold mvg at hd
        rw [dnM_c (by omega), dnS_c (by omega) (by omega) a1]
      · rw [dnM_1 z1, dnS_c (by omega) (by omega) a1]
      · rw [dnM_c (by omega), dnS_10 z1]
      · rw [dnM_c (by omega), dnS_c (by omega) (by omega) a1]
  · refine ⟨-1000000003, σ, σ, bl_c (Nat.le_of_ble_eq_true rfl) (vc_X10_day_0 σ _ rn ⟨_, _, c_X10_within σ _ 1 99, fun q => absurd q g, fun _ => ⟨_, _, c_X4_isTold σ (r := 11) rfl, fun _ => ⟨rfl, rfl⟩, fun q => absurd ?_ q⟩⟩), bl_c (Nat.le_of_ble_eq_true rfl) (vc_X11_day_0 _ _ rn ⟨_, _, c_X11_in _ _ 1 99 (by decide) (by decide), fun q => absurd q g, fun _ => ⟨fun _ => ⟨rfl, rfl⟩, fun q => absurd z0 q⟩⟩), h⟩
    rw [l0, l1, l2, z0, z1, z2]
    decide
