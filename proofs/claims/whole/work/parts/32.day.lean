/-! A DAY: class, reference, and what it does to the rows -/
def itn {S : Type} (f : Nat → S → S) : Nat → S → S
  | 0, s => s
  | n + 1, s => f n (itn f n s)
abbrev AS : Type := (Nat → Nat → Int32) × (Nat → Nat → Int32) × Int32 × Int32
def CVt (nb np : Nat) (A : AS) (s : bl_S) : Prop := CV nb np A.1 A.2.1 A.2.2.1 A.2.2.2 s
def MVt (nb np : Nat) (A : AS) (s : bl_S) : Prop := MV nb np A.1 A.2.1 A.2.2.1 A.2.2.2 s
def dyB (nb : Nat) (rip so fa rn : Int32) (B : Nat → Nat → Int32) : Nat → Nat → Int32 := fun b k => if b < nb then (if k = 3 then dr1 (dm rip (B b 2)) (B b 3) else if k = 4 then dp (dm rip (B b 2)) so rn (B b 3) (B b 4) else if k = 5 then ds (dm rip (B b 2)) so fa rn (B b 3) (B b 4) (B b 5) else B b k) else B b k
def dyP (np : Nat) (P : Nat → Nat → Int32) : Nat → Nat → Int32 := fun p k => if p < np ∧ k = 7 then 0 else P p k
def dyA (nb np : Nat) (rip so fa rn : Int32) (A : AS) : AS := (dyB nb rip so fa rn A.1, dyP np A.2.1, A.2.2.1 + 1, A.2.2.2)
/-- law's numbers -/
def Lw (rip so fa : Int32) : Prop := ∃ a b c : Nat, 1 ≤ a ∧ a ≤ 20 ∧ 1 ≤ b ∧ b ≤ 20 ∧ 1 ≤ c ∧ c ≤ 20 ∧ rip = nI a ∧ so = nI b ∧ fa = nI c
theorem Lw.told {rip so fa : Int32} (h : Lw rip so fa) : tl rip so fa = 1 := by
  obtain ⟨a, b, c, h1, h2, h3, h4, h5, h6, rfl, rfl, rfl⟩ := h
  have e0 : (0 : Int32) = nI 0 := rfl
  unfold tl
  rw [e0, if_pos (nI_lt (by omega) (by omega)), if_pos (nI_lt (by omega) (by omega)), if_pos (nI_lt (by omega) (by omega))]
theorem Lw.nz {rip so fa : Int32} (h : Lw rip so fa) : ¬ rip = 0 ∧ ¬ so = 0 ∧ ¬ fa = 0 := by
  obtain ⟨a, b, c, h1, h2, h3, h4, h5, h6, rfl, rfl, rfl⟩ := h
  exact ⟨nI_ne0 (by omega) (by omega), nI_ne0 (by omega) (by omega), nI_ne0 (by omega) (by omega)⟩
theorem Lw.dmz {rip so fa : Int32} (h : Lw rip so fa) (kd : Int32) : ¬ dm rip kd = 0 := by
  obtain ⟨a, b, c, h1, h2, h3, h4, h5, h6, rfl, rfl, rfl⟩ := h
  show ¬ (if kd = 2 then 2 * nI a else nI a) = 0
  split
  · rw [show (2 : Int32) = nI 2 from rfl, pk_mul]
    exact nI_ne0 (by omega) (by omega)
  · exact nI_ne0 (by omega) (by omega)
theorem RA_day {nb np : Nat} {rip so fa : Int32} (rn : Int32) {A : AS} (hl : Lw rip so fa) (h : RA nb np A.1 A.2.1) : RA nb np (dyA nb np rip so fa rn A).1 (dyA nb np rip so fa rn A).2.1 := by
  obtain ⟨a, b, c, h1, h2, h3, h4, h5, h6, rfl, rfl, rfl⟩ := hl
  refine ⟨fun i hi => ?_, fun p hp => ?_⟩
  · obtain ⟨y, s, kd, rd, rp, sf, r1, r2, r3, r4, e0, e1, e2, e3, e4, e5⟩ := h.1 i hi
    obtain ⟨m, m1, m2, m3⟩ := dm_N h1 h2 r3
    obtain ⟨a', b', c', q1, q2, q3, q4⟩ := day_N (c := sf) m1 m2 h3 h4 h5 h6 r4 rn
    refine ⟨y, s, kd, a', b', c', r1, r2, r3, q1, ?_, ?_, ?_, ?_, ?_, ?_⟩
    · show dyB nb _ _ _ rn A.1 i 0 = _
      simp only [dyB, if_pos hi]
      exact e0
    · show dyB nb _ _ _ rn A.1 i 1 = _
      simp only [dyB, if_pos hi]
      exact e1
    · show dyB nb _ _ _ rn A.1 i 2 = _
      simp only [dyB, if_pos hi]
      exact e2
    · show dyB nb _ _ _ rn A.1 i 3 = _
      simp only [dyB, if_pos hi]
      rw [if_pos trivial, e2, e3, m3]
      exact q2
    · show dyB nb _ _ _ rn A.1 i 4 = _
      simp only [dyB, if_pos hi]
      rw [if_neg (by decide), if_pos trivial, e2, e3, e4, m3]
      exact q3
    · show dyB nb _ _ _ rn A.1 i 5 = _
      simp only [dyB, if_pos hi]
      rw [if_neg (by decide), if_neg (by decide), if_pos trivial, e2, e3, e4, e5, m3]
      exact q4
  · have := h.2 p hp
    simpa [dyA, dyP] using this
/-! the class's day -/
theorem bl_day_c {σ : bl_S} {b d : Nat} {rip so fa rn : Int32} (h : d ≠ b) : bl_day σ b rip so fa rn d = σ d := by
  unfold bl_day
  rw [bl_up_ne h, bl_up_ne h, bl_up_ne h]
theorem bl_day_k {σ : bl_S} {b k : Nat} {rip so fa rn : Int32} : bl_day σ b rip so fa rn b k = (if k = 3 then dr1 (dm rip (σ b 2)) (σ b 3) else if k = 4 then dp (dm rip (σ b 2)) so rn (σ b 3) (σ b 4) else if k = 5 then ds (dm rip (σ b 2)) so fa rn (σ b 3) (σ b 4) (σ b 5) else σ b k) := by
  by_cases h5 : k = 5
  · subst h5
    simp [bl_day, bl_up]
  · by_cases h4 : k = 4
    · subst h4
      simp [bl_day, bl_up]
    · by_cases h3 : k = 3
      · subst h3
        simp [bl_day, bl_up]
      · simp [bl_day, bl_up, h3, h4, h5]
def dB (rip so fa rn : Int32) (n : Nat) (σ : bl_S) : bl_S := itn (fun b s => bl_day s (14 + b) rip so fa rn) n σ
theorem dB_c {rip so fa rn : Int32} {σ : bl_S} {d : Nat} : ∀ {n : Nat}, d < 14 ∨ 14 + n ≤ d → dB rip so fa rn n σ d = σ d
  | 0, _ => rfl
  | n + 1, h => by
    show bl_day (dB rip so fa rn n σ) (14 + n) rip so fa rn d = σ d
    rw [bl_day_c (by omega), dB_c (by omega)]
theorem dB_b {rip so fa rn : Int32} {σ : bl_S} {b k : Nat} : ∀ {n : Nat}, b < n → dB rip so fa rn n σ (14 + b) k = bl_day σ (14 + b) rip so fa rn (14 + b) k
  | 0, h => by omega
  | n + 1, h => by
    show bl_day (dB rip so fa rn n σ) (14 + n) rip so fa rn (14 + b) k = _
    by_cases e : b = n
    · subst e
      rw [bl_day_k, bl_day_k, dB_c (by omega)]
    · rw [bl_day_c (by omega), dB_b (by omega)]
def ckS (n : Nat) (σ : bl_S) : bl_S := itn (fun p s => bl_up s (20 + p) 7 0) n σ
theorem ckS_c {σ : bl_S} {d : Nat} : ∀ {n : Nat}, d < 20 ∨ 20 + n ≤ d → ckS n σ d = σ d
  | 0, _ => rfl
  | n + 1, h => by
    show bl_up (ckS n σ) (20 + n) 7 0 d = σ d
    rw [bl_up_ne (by omega), ckS_c (by omega)]
theorem ckS_p {σ : bl_S} {p k : Nat} : ∀ {n : Nat}, p < n → ckS n σ (20 + p) k = if k = 7 then 0 else σ (20 + p) k
  | 0, h => by omega
  | n + 1, h => by
    show bl_up (ckS n σ) (20 + n) 7 0 (20 + p) k = _
    by_cases e : p = n
    · subst e
      by_cases h7 : k = 7
      · subst h7
        rw [bl_up_s, if_pos rfl]
      · rw [bl_up_j h7, if_neg h7, ckS_c (by omega)]
    · rw [bl_up_c (by omega), ckS_p (by omega)]
def dyS (nb np : Nat) (rip so fa rn : Int32) (σ : bl_S) : bl_S := bl_up (ckS np (dB rip so fa rn nb σ)) 10 5 (σ 10 5 + 1)
theorem dyS_c {nb np d : Nat} {rip so fa rn : Int32} {σ : bl_S} (h1 : d ≠ 10) (h2 : d < 14 ∨ 20 + np ≤ d) (hn : nb ≤ 6) : dyS nb np rip so fa rn σ d = σ d := by
  unfold dyS
  rw [bl_up_ne h1, ckS_c (by omega), dB_c (by omega)]
theorem dyS_10 {nb np k : Nat} {rip so fa rn : Int32} {σ : bl_S} (h : k ≠ 5) : dyS nb np rip so fa rn σ 10 k = σ 10 k := by
  unfold dyS
  rw [bl_up_j h, ckS_c (by omega), dB_c (by omega)]
theorem CV_day {nb np : Nat} {rip so fa : Int32} (rn : Int32) {A : AS} {s : bl_S} (hn : nb ≤ 6) (hn2 : np ≤ 4) (h : CVt nb np A s) : CVt nb np (dyA nb np rip so fa rn A) (dyS nb np rip so fa rn s) := by
  obtain ⟨h1, h2, h3, h4⟩ := h
  refine ⟨fun b k hb hk => ?_, fun p k hp hk => ?_, ?_, ?_⟩
  · show bl_up _ 10 5 _ (14 + b) k = dyB nb rip so fa rn A.1 b k
    rw [bl_up_c (by omega), ckS_c (by omega), dB_b hb, bl_day_k, h1 b 2 hb (by omega), h1 b 3 hb (by omega), h1 b 4 hb (by omega), h1 b 5 hb (by omega), h1 b k hb hk]
    simp only [dyB, if_pos hb]
  · show bl_up _ 10 5 _ (20 + p) k = dyP np A.2.1 p k
    rw [bl_up_c (by omega), ckS_p hp, dB_c (by omega), h2 p k hp hk]
    unfold dyP
    by_cases e : k = 7
    · rw [if_pos e, if_pos ⟨hp, e⟩]
    · rw [if_neg e, if_neg (fun q => e q.2)]
  · show bl_up _ 10 5 _ 10 5 = A.2.2.1 + 1
    rw [bl_up_s, h3]
  · rw [dyS_10 (by omega), h4]
    rfl
theorem c_X3_passDay (σ : bl_S) {nb np : Nat} (rn : Int32) (hn : nb ≤ 6) (hn2 : np ≤ 4) (h3 : σ 10 3 = nI nb) (h4 : σ 10 4 = nI np) (hl : Lw (σ 11 0) (σ 11 1) (σ 11 2)) : bl_Con (bl_mi 29) [.ref 10, .int rn] σ none (dyS nb np (σ 11 0) (σ 11 1) (σ 11 2) rn σ) := by
  refine bl_c (Nat.le_of_ble_eq_true rfl) (vc_X3_passDay_0 σ 10 rn rfl ?_)
  refine bl_dn (N := nb) (P := fun i => bl_Wx (bl_mi 29) 2 [(0, .ref 10), (1, .int rn), (2, .int (nI i))] [] (dB (σ 11 0) (σ 11 1) (σ 11 2) rn i σ) (fun v τ => v = none ∧ τ = dyS nb np (σ 11 0) (σ 11 1) (σ 11 2) rn σ)) ?_ ?_
  · refine vc_X3_passDay_2 _ 10 rn _ rfl ⟨fun q => absurd q ?_, fun _ => ?_⟩
    · rw [dB_c (by omega), h3]
      exact nI_nlt (Nat.le_refl _) (by omega)
    · refine bl_dn (N := np) (P := fun i => bl_Wx (bl_mi 29) 32 [(0, .ref 10), (1, .int rn), (2, .int (nI i))] [] (ckS i (dB (σ 11 0) (σ 11 1) (σ 11 2) rn nb σ)) (fun v τ => v = none ∧ τ = dyS nb np (σ 11 0) (σ 11 1) (σ 11 2) rn σ)) ?_ ?_
      · refine vc_X3_passDay_32 _ 10 rn _ rfl ⟨fun q => absurd q ?_, fun _ => ⟨rfl, ?_⟩⟩
        · rw [ckS_c (by omega), dB_c (by omega), h4]
          exact nI_nlt (Nat.le_refl _) (by omega)
        · rw [ckS_c (by omega), dB_c (by omega)]
          rfl
      · intro i hi ih
        refine vc_X3_passDay_32 _ 10 rn _ rfl ⟨fun _ => ?_, fun q => absurd ?_ q⟩
        · rw [nI_1]
          show (bl_kd 13 = 24) ∧ (vp_in (nI i) (bl_ln 13)) ∧ (bl_kd (20 + Int32.toNatClampNeg (nI i)) = 5) ∧ bl_Wx (bl_mi 29) 32 [(0, .ref 10), (1, .int rn), (2, .int (nI (i + 1)))] [] (bl_up _ (20 + Int32.toNatClampNeg (nI i)) 7 0) _
          rw [ntp (by omega)]
          exact ⟨rfl, vip (by omega), kdp i (by omega), ih⟩
        · rw [ckS_c (by omega), dB_c (by omega), h4]
          exact nI_lt hi (by omega)
  · intro i hi ih
    refine vc_X3_passDay_2 _ 10 rn _ rfl ⟨fun _ => ?_, fun q => absurd ?_ q⟩
    · rw [nI_1]
      show (bl_kd 12 = 23) ∧ (vp_in (nI i) (bl_ln 12)) ∧ (bl_kd (14 + Int32.toNatClampNeg (nI i)) = 1) ∧ (∃ τ : bl_S, bl_Con (bl_mi 17) [.ref (14 + Int32.toNatClampNeg (nI i)), .ref 11, .int rn] _ none τ ∧ bl_Wx (bl_mi 29) 2 [(0, .ref 10), (1, .int rn), (2, .int (nI (i + 1)))] [] τ _)
      rw [ntb (by omega)]
      have e11 : dB (σ 11 0) (σ 11 1) (σ 11 2) rn i σ 11 = σ 11 := dB_c (by omega)
      have hc := c_X1_passDay (dB (σ 11 0) (σ 11 1) (σ 11 2) rn i σ) rn (b := 14 + i) (w := 11) (kdb i (by omega)) rfl (by rw [e11]; exact hl.told) (by rw [e11]; exact hl.dmz _) (by rw [e11]; exact hl.nz.2.1) (by rw [e11]; exact hl.nz.2.2)
      rw [e11] at hc
      exact ⟨rfl, vib (by omega), kdb i (by omega), _, hc, ih⟩
    · rw [dB_c (by omega), h3]
      exact nI_lt hi (by omega)
/-! the reference's day -/
def rpM (rip so fa rn : Int32) (b : Nat) (s : bl_S) : bl_S := bl_up (bl_up (bl_up s 105 b (dr1 (dm rip (s 104 b)) (s 105 b))) 106 b (dp (dm rip (s 104 b)) so rn (s 105 b) (s 106 b))) 107 b (ds (dm rip (s 104 b)) so fa rn (s 105 b) (s 106 b) (s 107 b))
set_option maxHeartbeats 2000000 in
theorem c_X11_ripen (σ : bl_S) {b : Nat} (rn : Int32) (hb : b < 6) (hl : Lw (σ 1 0) (σ 1 1) (σ 1 2)) : bl_Con (bl_mi 135) [.ref 1, .int (nI b), .int rn] σ none (rpM (σ 1 0) (σ 1 1) (σ 1 2) rn b σ) := by
  refine bl_c (Nat.le_of_ble_eq_true rfl) (vc_X11_ripen_0 σ _ rn ⟨vib hb, fun v2 e2 => ?_⟩)
  rw [ntb hb] at e2
  have e2 : v2 = dm (σ 1 0) (σ 104 b) := e2
  subst e2
  refine ⟨hl.dmz _, fun v4 e4 => ⟨hl.nz.2.1, hl.nz.2.2, fun v6 e6 v8 e8 s e => ⟨rfl, ?_⟩⟩⟩
  simp only [ntb hb] at e4 e6 e8 e
  rw [e]
  unfold rpM
  by_cases hr : rn = 0
  · rw [if_pos hr]
    unfold dp ds
    rw [if_pos hr, if_pos hr, e8, e6, e4]
    rfl
  · rw [if_neg hr]
    unfold dp ds
    rw [if_neg hr, if_neg hr]
    have e6' : v6 = dp1 (dm (σ 1 0) (σ 104 b)) (σ 1 1) (σ 105 b) (σ 106 b) := by rw [e6, e4]; rfl
    have e4' : σ 105 b - v4 = dr1 (dm (σ 1 0) (σ 104 b)) (σ 105 b) := by rw [e4]; rfl
    rw [e4', e6']
    funext c j
    simp only [bl_up]
    by_cases hj : j = b
    · subst hj
      by_cases c7 : c = 107
      · subst c7; simp
      · by_cases c6 : c = 106
        · subst c6; simp
        · by_cases c5 : c = 105
          · subst c5; simp
          · simp [c7, c6, c5]
    · simp [hj]
