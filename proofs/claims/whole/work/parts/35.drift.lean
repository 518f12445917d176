/-! DRIFT -/
theorem RA_walk {nb np p b : Nat} {A : AS} (hp : p < np) (hb : b < nb) (h : RA nb np A.1 A.2.1) : RA nb np (wkA p b A).1 (wkA p b A).2.1 := by
  refine ⟨h.1, fun i hi => ?_⟩
  by_cases e : i = p
  · subst e
    obtain ⟨y, s, kd, rd, rp, sf, r1, r2, r3, r4, e0, e1, e2, e3, e4, e5⟩ := h.1 b hb
    obtain ⟨y', s', q', a', h', t1, t2, t3, t4, t5, t6, u0, u1, u2, u3, u4⟩ := h.2 i hi
    refine ⟨y, s, q', a', h', r1, r2, t3, t4, t5, t6, ?_, ?_, ?_, ?_, ?_⟩
    · show bl_up (bl_up (bl_up _ i 7 _) i 0 _) i 1 _ i 0 = _
      rw [bl_up_j (by omega), bl_up_s]; exact e0
    · show bl_up (bl_up (bl_up _ i 7 _) i 0 _) i 1 _ i 1 = _
      rw [bl_up_s]; exact e1
    · show bl_up (bl_up (bl_up _ i 7 _) i 0 _) i 1 _ i 2 = _
      rw [bl_up_j (by omega), bl_up_j (by omega), bl_up_j (by omega)]; exact u2
    · show bl_up (bl_up (bl_up _ i 7 _) i 0 _) i 1 _ i 3 = _
      rw [bl_up_j (by omega), bl_up_j (by omega), bl_up_j (by omega)]; exact u3
    · show bl_up (bl_up (bl_up _ i 7 _) i 0 _) i 1 _ i 4 = _
      rw [bl_up_j (by omega), bl_up_j (by omega), bl_up_j (by omega)]; exact u4
  · have : (wkA p b A).2.1 i = A.2.1 i := by
      show bl_up (bl_up (bl_up _ p 7 _) p 0 _) p 1 _ i = _
      rw [bl_up_ne e, bl_up_ne e, bl_up_ne e]
    rw [this]
    exact h.2 i hi
theorem RA_take {nb np p b n : Nat} {ho : Int32} {A : AS} (hp : p < np) (hb : b < nb) (h : RA nb np A.1 A.2.1) : RA nb np (tkA p b n ho A).1 (tkA p b n ho A).2.1 := by
  obtain ⟨y', s', q', a', h', t1, t2, t3, t4, t5, t6, u0, u1, u2, u3, u4⟩ := h.2 p hp
  refine ⟨fun i hi => ?_, fun i hi => ?_⟩
  · by_cases e : i = b
    · subst e
      obtain ⟨y, s, kd, rd, rp, sf, r1, r2, r3, r4, e0, e1, e2, e3, e4, e5⟩ := h.1 i hi
      have hle := hsN_le q' h' kd rp n
      refine ⟨y, s, kd, rd, hsN q' h' kd rp n, sf, r1, r2, r3, by omega, ?_, ?_, ?_, ?_, ?_, ?_⟩
      · show bl_up _ i 4 _ i 0 = _
        rw [bl_up_j (by omega)]; exact e0
      · show bl_up _ i 4 _ i 1 = _
        rw [bl_up_j (by omega)]; exact e1
      · show bl_up _ i 4 _ i 2 = _
        rw [bl_up_j (by omega)]; exact e2
      · show bl_up _ i 4 _ i 3 = _
        rw [bl_up_j (by omega)]; exact e3
      · show bl_up _ i 4 _ i 4 = _
        rw [bl_up_s, u2, u4, e2, e4, hsN_eq (by omega) (by omega) (by omega) (by omega)]
      · show bl_up _ i 4 _ i 5 = _
        rw [bl_up_j (by omega)]; exact e5
    · have : (tkA p b n ho A).1 i = A.1 i := by
        show bl_up _ b 4 _ i = _
        rw [bl_up_ne e]
      rw [this]
      exact h.1 i hi
  · have : ∀ k, k < 5 → (tkA p b n ho A).2.1 i k = A.2.1 i k := by
      intro k hk
      show bl_up (bl_up (bl_up _ p 6 _) p 5 _) p 7 _ i k = _
      rw [bl_up_j (by omega), bl_up_j (by omega), bl_up_j (by omega)]
    rw [this 0 (by omega), this 1 (by omega), this 2 (by omega), this 3 (by omega), this 4 (by omega)]
    exact h.2 i hi
noncomputable def d1S (nb p : Nat) (s : bl_S) : bl_S := tkS (bl_up (wkS (bl_up s 10 6 (nx (s 10 6))) (20 + p) (14 + Int32.toNatClampNeg (dv (s 10 6) (nI nb)))) 10 6 (nx (nx (s 10 6)))) (20 + p) (14 + Int32.toNatClampNeg (dv (s 10 6) (nI nb))) (s 11 3) (Int32.toNatClampNeg (dv (nx (s 10 6)) 6))
noncomputable def d1M (nb p : Nat) (s : bl_S) : bl_S := tkM (bl_up (wkM (bl_up s 1 21 (nx (s 1 21))) p (Int32.toNatClampNeg (dv (s 1 21) (nI nb)))) 1 21 (nx (nx (s 1 21)))) p (Int32.toNatClampNeg (dv (s 1 21) (nI nb))) (Int32.toNatClampNeg (dv (nx (s 1 21)) 6))
noncomputable def d1A (nb : Nat) (ho : Int32) (p : Nat) (A : AS) : AS := tkA p (Int32.toNatClampNeg (dv A.2.2.2 (nI nb))) (Int32.toNatClampNeg (dv (nx A.2.2.2) 6)) ho (sdA (wkA p (Int32.toNatClampNeg (dv A.2.2.2 (nI nb))) (sdA A)))
theorem dv_nt {sd : Int32} (h : ¬ sd < 0) {n : Nat} (h1 : 1 ≤ n) (h2 : n ≤ 1000) : Int32.toNatClampNeg (dv sd (nI n)) < n ∧ dv sd (nI n) = nI (Int32.toNatClampNeg (dv sd (nI n))) := by
  obtain ⟨j, hj, e⟩ := dv_N h h1 h2
  rw [e, nI_clamp (by omega)]
  exact ⟨hj, rfl⟩
theorem d1S_c {nb p d : Nat} {s : bl_S} (hb : Int32.toNatClampNeg (dv (s 10 6) (nI nb)) < 6) (h1 : d ≠ 10) (h2 : d ≠ 20 + p) (h3 : d < 14 ∨ 20 ≤ d) : d1S nb p s d = s d := by
  unfold d1S
  rw [tkS_c h2 (by omega), bl_up_ne h1, wkS_c h2, bl_up_ne h1]
theorem d1S_10 {nb p k : Nat} {s : bl_S} (hb : Int32.toNatClampNeg (dv (s 10 6) (nI nb)) < 6) : d1S nb p s 10 k = if k = 6 then nx (nx (s 10 6)) else s 10 k := by
  unfold d1S
  rw [tkS_c (by omega) (by omega)]
  by_cases e : k = 6
  · subst e
    rw [bl_up_s, if_pos rfl]
  · rw [bl_up_j e, wkS_c (by omega), bl_up_j e, if_neg e]
theorem d1M_c {nb p d : Nat} {s : bl_S} (h : d < 106 ∧ d ≠ 1 ∨ d = 107 ∨ (110 ≤ d ∧ d ≤ 112) ∨ 115 < d) : d1M nb p s d = s d := by
  unfold d1M
  rw [tkM_c (by omega), bl_up_ne (by omega), wkM_c (by omega), bl_up_ne (by omega)]
theorem d1M_1 {nb p k : Nat} {s : bl_S} : d1M nb p s 1 k = if k = 21 then nx (nx (s 1 21)) else s 1 k := by
  unfold d1M
  rw [tkM_c (by omega)]
  by_cases e : k = 21
  · subst e
    rw [bl_up_s, if_pos rfl]
  · rw [bl_up_j e, wkM_c (by omega), bl_up_j e, if_neg e]
theorem CVt_sd {nb np : Nat} {A : AS} {s : bl_S} {v : Int32} (hv : v = nx A.2.2.2) (h : CVt nb np A s) : CVt nb np (sdA A) (bl_up s 10 6 v) := by
  subst hv
  exact CV_sd h
theorem MVt_sd {nb np : Nat} {A : AS} {s : bl_S} {v : Int32} (hv : v = nx A.2.2.2) (h : MVt nb np A s) : MVt nb np (sdA A) (bl_up s 1 21 v) := by
  subst hv
  exact MV_sd h
theorem sdA_sd (A : AS) : (sdA A).2.2.2 = nx A.2.2.2 := rfl
theorem sdA_RA {nb np : Nat} {A : AS} (h : RA nb np A.1 A.2.1) : RA nb np (sdA A).1 (sdA A).2.1 := h
theorem wkA_sd (p b : Nat) (A : AS) : (wkA p b A).2.2.2 = A.2.2.2 := rfl
theorem tkA_sd (p b n : Nat) (ho : Int32) (A : AS) : (tkA p b n ho A).2.2.2 = A.2.2.2 := rfl
theorem sdA_dy (A : AS) : (sdA A).2.2.1 = A.2.2.1 := rfl
theorem wkA_dy (p b : Nat) (A : AS) : (wkA p b A).2.2.1 = A.2.2.1 := rfl
theorem tkA_dy (p b n : Nat) (ho : Int32) (A : AS) : (tkA p b n ho A).2.2.1 = A.2.2.1 := rfl
theorem sdA_B (A : AS) : (sdA A).1 = A.1 := rfl
theorem sdA_P (A : AS) : (sdA A).2.1 = A.2.1 := rfl
theorem wkA_B (p b : Nat) (A : AS) : (wkA p b A).1 = A.1 := rfl
theorem wkA_P {p b q k : Nat} {A : AS} (h : k = 2 ∨ k = 3) : (wkA p b A).2.1 q k = A.2.1 q k := by
  unfold wkA
  show bl_up (bl_up (bl_up A.2.1 p 7 _) p 0 _) p 1 _ q k = A.2.1 q k
  rw [bl_up_j (by omega), bl_up_j (by omega), bl_up_j (by omega)]
theorem tkA_P {p b n q k : Nat} {ho : Int32} {A : AS} (h : k = 2 ∨ k = 3) : (tkA p b n ho A).2.1 q k = A.2.1 q k := by
  unfold tkA
  show bl_up (bl_up (bl_up A.2.1 p 6 _) p 5 _) p 7 _ q k = A.2.1 q k
  rw [bl_up_j (by omega), bl_up_j (by omega), bl_up_j (by omega)]
theorem tkA_B {p b n q k : Nat} {ho : Int32} {A : AS} (h : k < 3) : (tkA p b n ho A).1 q k = A.1 q k := by
  unfold tkA
  show bl_up A.1 b 4 _ q k = A.1 q k
  rw [bl_up_j (by omega)]
theorem CV_d1 {nb np p : Nat} {A : AS} {s : bl_S} (hn : nb ≤ 6) (h0 : 1 ≤ nb) (hp : p < np) (hsd : ¬ A.2.2.2 < 0) (h : CVt nb np A s) : CVt nb np (d1A nb (s 11 3) p A) (d1S nb p s) := by
  have e : s 10 6 = A.2.2.2 := h.2.2.2
  have hb := (dv_nt hsd h0 (by omega)).1
  unfold d1S d1A
  rw [e]
  generalize Int32.toNatClampNeg (dv A.2.2.2 (nI nb)) = b at hb ⊢
  generalize Int32.toNatClampNeg (dv (nx A.2.2.2) 6) = n
  have k1 := CVt_sd (v := nx A.2.2.2) rfl h
  have k2 := CV_walk (p := p) hn hp hb k1
  have k3 := CVt_sd (v := nx (nx A.2.2.2)) (by rw [wkA_sd, sdA_sd]) k2
  exact CV_take hn hp hb k3
theorem MV_d1 {nb np p : Nat} {A : AS} {s : bl_S} (hn : nb ≤ 6) (h0 : 1 ≤ nb) (hp : p < np) (hsd : ¬ A.2.2.2 < 0) (h : MVt nb np A s) : MVt nb np (d1A nb (s 1 3) p A) (d1M nb p s) := by
  have e : s 1 21 = A.2.2.2 := h.2.2.2
  have hb := (dv_nt hsd h0 (by omega)).1
  unfold d1M d1A
  rw [e]
  generalize Int32.toNatClampNeg (dv A.2.2.2 (nI nb)) = b at hb ⊢
  generalize Int32.toNatClampNeg (dv (nx A.2.2.2) 6) = n
  have k1 := MVt_sd (v := nx A.2.2.2) rfl h
  have k2 := MV_walk (p := p) hp hb k1
  have k3 := MVt_sd (v := nx (nx A.2.2.2)) (by rw [wkA_sd, sdA_sd]) k2
  have k4 := MV_take (n := n) hp hb k3
  have e3 : bl_up (wkM (bl_up s 1 21 (nx A.2.2.2)) p b) 1 21 (nx (nx A.2.2.2)) 1 3 = s 1 3 := by
    rw [bl_up_j (by omega), wkM_c (by omega), bl_up_j (by omega)]
  rw [e3] at k4
  exact k4
theorem RA_d1 {nb np p : Nat} {ho : Int32} {A : AS} (hn : nb ≤ 6) (h0 : 1 ≤ nb) (hp : p < np) (hsd : ¬ A.2.2.2 < 0) (h : RA nb np A.1 A.2.1) : RA nb np (d1A nb ho p A).1 (d1A nb ho p A).2.1 := by
  have hb := (dv_nt hsd h0 (by omega)).1
  unfold d1A
  generalize Int32.toNatClampNeg (dv A.2.2.2 (nI nb)) = b at hb ⊢
  generalize Int32.toNatClampNeg (dv (nx A.2.2.2) 6) = n
  exact RA_take hp hb (sdA_RA (RA_walk hp hb (sdA_RA h)))
theorem d1A_st {nb p : Nat} {ho : Int32} {A : AS} : (∀ b k, k < 3 → (d1A nb ho p A).1 b k = A.1 b k) ∧ (∀ q k, k = 2 ∨ k = 3 → (d1A nb ho p A).2.1 q k = A.2.1 q k) ∧ (d1A nb ho p A).2.2.1 = A.2.2.1 ∧ (d1A nb ho p A).2.2.2 = nx (nx A.2.2.2) := by
  unfold d1A
  generalize Int32.toNatClampNeg (dv A.2.2.2 (nI nb)) = c
  generalize Int32.toNatClampNeg (dv (nx A.2.2.2) 6) = n
  refine ⟨fun b k hk => ?_, fun q k hk => ?_, ?_, ?_⟩
  · rw [tkA_B hk, sdA_B, wkA_B, sdA_B]
  · rw [tkA_P hk, sdA_P, wkA_P hk, sdA_P]
  · rw [tkA_dy, sdA_dy, wkA_dy, sdA_dy]
  · rw [tkA_sd, sdA_sd, wkA_sd, sdA_sd]
/-! all pickers, then the day -/
noncomputable def dpS (nb n : Nat) (s : bl_S) : bl_S := itn (fun p s => d1S nb p s) n s
noncomputable def dpM (nb n : Nat) (s : bl_S) : bl_S := itn (fun p s => d1M nb p s) n s
noncomputable def dpA (nb : Nat) (ho : Int32) (n : Nat) (A : AS) : AS := itn (fun p A => d1A nb ho p A) n A
theorem dpA_all {nb np : Nat} {ho : Int32} {A : AS} (hn : nb ≤ 6) (h0 : 1 ≤ nb) (hsd : ¬ A.2.2.2 < 0) (h : RA nb np A.1 A.2.1) : ∀ n, n ≤ np → RA nb np (dpA nb ho n A).1 (dpA nb ho n A).2.1 ∧ ¬ (dpA nb ho n A).2.2.2 < 0 ∧ (∀ b k, k < 3 → (dpA nb ho n A).1 b k = A.1 b k) ∧ (∀ q k, k = 2 ∨ k = 3 → (dpA nb ho n A).2.1 q k = A.2.1 q k) ∧ (dpA nb ho n A).2.2.1 = A.2.2.1
  | 0, _ => ⟨h, hsd, fun _ _ _ => rfl, fun _ _ _ => rfl, rfl⟩
  | n + 1, hle => by
    obtain ⟨r1, r2, r3, r4, r5⟩ := dpA_all hn h0 hsd h n (by omega)
    obtain ⟨s1, s2, s3, s4⟩ := d1A_st (nb := nb) (p := n) (ho := ho) (A := dpA nb ho n A)
    refine ⟨RA_d1 hn h0 (by omega) r2 r1, ?_, fun b k hk => (s1 b k hk).trans (r3 b k hk), fun q k hk => (s2 q k hk).trans (r4 q k hk), s3.trans r5⟩
    show ¬ (d1A nb ho n (dpA nb ho n A)).2.2.2 < 0
    rw [s4]
    exact nx_pos (nx_pos r2)
theorem dpS_all {nb np : Nat} {A : AS} {s : bl_S} (hn : nb ≤ 6) (h0 : 1 ≤ nb) (hn2 : np ≤ 4) (hsd : ¬ A.2.2.2 < 0) (hr : RA nb np A.1 A.2.1) (h : CVt nb np A s) : ∀ n, n ≤ np → CVt nb np (dpA nb (s 11 3) n A) (dpS nb n s) ∧ (∀ d, d ≠ 10 → d < 14 ∨ 20 + np ≤ d → dpS nb n s d = s d) ∧ (∀ k, k ≠ 6 → dpS nb n s 10 k = s 10 k)
  | 0, _ => ⟨h, fun _ _ _ => rfl, fun _ _ => rfl⟩
  | n + 1, hle => by
    obtain ⟨r1, r2, r3⟩ := dpS_all hn h0 hn2 hsd hr h n (by omega)
    obtain ⟨-, q2, -⟩ := dpA_all (ho := s 11 3) hn h0 hsd hr n (by omega)
    have e : dpS nb n s 10 6 = (dpA nb (s 11 3) n A).2.2.2 := r1.2.2.2
    have hb := (dv_nt q2 h0 (by omega)).1
    rw [← e] at hb
    have e11 : dpS nb n s 11 = s 11 := r2 11 (by omega) (by omega)
    have c1 := CV_d1 (p := n) hn h0 (by omega) q2 r1
    rw [e11] at c1
    refine ⟨c1, fun d z1 z2 => ?_, fun k hk => ?_⟩
    · show d1S nb n (dpS nb n s) d = s d
      rw [d1S_c (by omega) z1 (by omega) (by omega), r2 d z1 z2]
    · show d1S nb n (dpS nb n s) 10 k = s 10 k
      rw [d1S_10 (by omega), if_neg hk, r3 k hk]
theorem dpM_all {nb np : Nat} {A : AS} {s : bl_S} (hn : nb ≤ 6) (h0 : 1 ≤ nb) (hsd : ¬ A.2.2.2 < 0) (hr : RA nb np A.1 A.2.1) (h : MVt nb np A s) : ∀ n, n ≤ np → MVt nb np (dpA nb (s 1 3) n A) (dpM nb n s) ∧ (∀ d, d < 102 ∧ d ≠ 1 ∨ 115 < d → dpM nb n s d = s d) ∧ (∀ k, k ≠ 21 → dpM nb n s 1 k = s 1 k)
  | 0, _ => ⟨h, fun _ _ => rfl, fun _ _ => rfl⟩
  | n + 1, hle => by
    obtain ⟨r1, r2, r3⟩ := dpM_all hn h0 hsd hr h n (by omega)
    obtain ⟨-, q2, -⟩ := dpA_all (ho := s 1 3) hn h0 hsd hr n (by omega)
    have e3 : dpM nb n s 1 3 = s 1 3 := r3 3 (by omega)
    have c1 := MV_d1 (p := n) hn h0 (by omega) q2 r1
    rw [e3] at c1
    refine ⟨c1, fun d z => ?_, fun k hk => ?_⟩
    · show d1M nb n (dpM nb n s) d = s d
      rw [d1M_c (by omega), r2 d z]
    · show d1M nb n (dpM nb n s) 1 k = s 1 k
      rw [d1M_1, if_neg hk, r3 k hk]
noncomputable def r4 (sd : Int32) : Int32 := if dv sd 4 = 0 then 1 else 0
noncomputable def ddS (nb np : Nat) (rip so fa : Int32) (s : bl_S) : bl_S := dyS nb np rip so fa (r4 (dpS nb np s 10 6)) (bl_up (dpS nb np s) 10 6 (nx (dpS nb np s 10 6)))
noncomputable def ddM (nb np : Nat) (rip so fa : Int32) (s : bl_S) : bl_S := dyM nb np rip so fa (r4 (dpM nb np s 1 21)) (bl_up (dpM nb np s) 1 21 (nx (dpM nb np s 1 21)))
noncomputable def ddA (nb np : Nat) (ho rip so fa : Int32) (A : AS) : AS := dyA nb np rip so fa (r4 (dpA nb ho np A).2.2.2) (sdA (dpA nb ho np A))
theorem CV_dd {nb np : Nat} {rip so fa : Int32} {A : AS} {s : bl_S} (hn : nb ≤ 6) (h0 : 1 ≤ nb) (hn2 : np ≤ 4) (hsd : ¬ A.2.2.2 < 0) (hr : RA nb np A.1 A.2.1) (h : CVt nb np A s) : CVt nb np (ddA nb np (s 11 3) rip so fa A) (ddS nb np rip so fa s) := by
  obtain ⟨r1, r2, r3⟩ := dpS_all hn h0 hn2 hsd hr h np (Nat.le_refl _)
  have e : dpS nb np s 10 6 = (dpA nb (s 11 3) np A).2.2.2 := r1.2.2.2
  unfold ddA ddS
  rw [e]
  exact CV_day _ hn hn2 (CVt_sd rfl r1)
theorem MV_dd {nb np : Nat} {rip so fa : Int32} {A : AS} {s : bl_S} (hn : nb ≤ 6) (h0 : 1 ≤ nb) (hsd : ¬ A.2.2.2 < 0) (hr : RA nb np A.1 A.2.1) (h : MVt nb np A s) : MVt nb np (ddA nb np (s 1 3) rip so fa A) (ddM nb np rip so fa s) := by
  obtain ⟨r1, r2, r3⟩ := dpM_all hn h0 hsd hr h np (Nat.le_refl _)
  have e : dpM nb np s 1 21 = (dpA nb (s 1 3) np A).2.2.2 := r1.2.2.2
  unfold ddA ddM
  rw [e]
  exact MV_day _ (MVt_sd rfl r1)
theorem ddA_all {nb np : Nat} {ho rip so fa : Int32} {A : AS} (hn : nb ≤ 6) (h0 : 1 ≤ nb) (hl : Lw rip so fa) (hsd : ¬ A.2.2.2 < 0) (h : RA nb np A.1 A.2.1) : RA nb np (ddA nb np ho rip so fa A).1 (ddA nb np ho rip so fa A).2.1 ∧ ¬ (ddA nb np ho rip so fa A).2.2.2 < 0 ∧ (∀ b k, k < 3 → (ddA nb np ho rip so fa A).1 b k = A.1 b k) ∧ (∀ q k, k = 2 ∨ k = 3 → (ddA nb np ho rip so fa A).2.1 q k = A.2.1 q k) := by
  obtain ⟨r1, r2, r3, r4', r5⟩ := dpA_all (ho := ho) hn h0 hsd h np (Nat.le_refl _)
  unfold ddA
  obtain ⟨s1, s2, s3⟩ := dyA_st (nb := nb) (np := np) (rip := rip) (so := so) (fa := fa) (rn := r4 (dpA nb ho np A).2.2.2) (A := sdA (dpA nb ho np A))
  refine ⟨RA_day _ hl (sdA_RA r1), ?_, fun b k hk => ?_, fun q k hk => ?_⟩
  · rw [s3, sdA_sd]
    exact nx_pos r2
  · rw [s1 b k hk, sdA_B]
    exact r3 b k hk
  · rw [s2 q k (by omega), sdA_P]
    exact r4' q k hk
theorem ddS_fr {nb np : Nat} {rip so fa : Int32} {A : AS} {s : bl_S} (hn : nb ≤ 6) (h0 : 1 ≤ nb) (hn2 : np ≤ 4) (hsd : ¬ A.2.2.2 < 0) (hr : RA nb np A.1 A.2.1) (h : CVt nb np A s) : (∀ d, d ≠ 10 → d < 14 ∨ 20 + np ≤ d → ddS nb np rip so fa s d = s d) ∧ (∀ k, k ≠ 5 → k ≠ 6 → ddS nb np rip so fa s 10 k = s 10 k) := by
  obtain ⟨r1, r2, r3⟩ := dpS_all hn h0 hn2 hsd hr h np (Nat.le_refl _)
  unfold ddS
  refine ⟨fun d z1 z2 => ?_, fun k z1 z2 => ?_⟩
  · rw [dyS_c z1 z2 hn, bl_up_ne z1, r2 d z1 z2]
  · rw [dyS_10 z1, bl_up_j z2, r3 k z2]
theorem ddM_fr {nb np : Nat} {rip so fa : Int32} {A : AS} {s : bl_S} (hn : nb ≤ 6) (h0 : 1 ≤ nb) (hsd : ¬ A.2.2.2 < 0) (hr : RA nb np A.1 A.2.1) (h : MVt nb np A s) : (∀ d, d < 102 ∧ d ≠ 1 ∨ 115 < d → ddM nb np rip so fa s d = s d) ∧ (∀ k, k ≠ 20 → k ≠ 21 → ddM nb np rip so fa s 1 k = s 1 k) := by
  obtain ⟨r1, r2, r3⟩ := dpM_all hn h0 hsd hr h np (Nat.le_refl _)
  unfold ddM
  refine ⟨fun d z => ?_, fun k z1 z2 => ?_⟩
  · rw [dyM_c (by omega), bl_up_ne (by omega), r2 d z]
  · rw [dyM_1 z1, bl_up_j z2, r3 k z2]
/-- the class's day by draws -/
theorem c_X3_passDayByDraws (σ : bl_S) {nb np : Nat} {A : AS} (hn : nb ≤ 6) (h0 : 1 ≤ nb) (hn2 : np ≤ 4) (h3 : σ 10 3 = nI nb) (h4 : σ 10 4 = nI np) (hl : Lw (σ 11 0) (σ 11 1) (σ 11 2)) (hsd : ¬ A.2.2.2 < 0) (hr : RA nb np A.1 A.2.1) (h : CVt nb np A σ) : bl_Con (bl_mi 33) [.ref 10] σ none (ddS nb np (σ 11 0) (σ 11 1) (σ 11 2) σ) := by
  refine bl_c (Nat.le_of_ble_eq_true rfl) (vc_X3_passDayByDraws_0 σ 10 rfl ?_)
  refine bl_dn (N := np) (P := fun i => bl_Wx (bl_mi 33) 2 [(0, .ref 10), (1, .int (nI i))] [] (dpS nb i σ) (fun v τ => v = none ∧ τ = ddS nb np (σ 11 0) (σ 11 1) (σ 11 2) σ)) ?_ ?_
  · obtain ⟨r1, r2, r3⟩ := dpS_all hn h0 hn2 hsd hr h np (Nat.le_refl _)
    refine vc_X3_passDayByDraws_2 _ 10 _ rfl ⟨fun q => absurd q ?_, fun _ => ⟨_, _, c_X3_draw _ (n := 4) (by omega) (by omega), fun v e => ?_⟩⟩
    · rw [r3 4 (by omega), h4]
      exact nI_nlt (Nat.le_refl _) (by omega)
    · have e : v = r4 (dpS nb np σ 10 6) := e
      have e11 : bl_up (dpS nb np σ) 10 6 (nx (dpS nb np σ 10 6)) 11 = σ 11 := by rw [bl_up_ne (by omega), r2 11 (by omega) (by omega)]
      have hc := c_X3_passDay (bl_up (dpS nb np σ) 10 6 (nx (dpS nb np σ 10 6))) v hn hn2 (by rw [bl_up_j (by omega), r3 3 (by omega)]; exact h3) (by rw [bl_up_j (by omega), r3 4 (by omega)]; exact h4) (by rw [e11]; exact hl)
      rw [e11] at hc
      refine ⟨_, hc, rfl, ?_⟩
      rw [e]
      rfl
  · intro i hi ih
    obtain ⟨r1, r2, r3⟩ := dpS_all hn h0 hn2 hsd hr h i (by omega)
    obtain ⟨-, q2, -⟩ := dpA_all (ho := σ 11 3) hn h0 hsd hr i (by omega)
    have e6 : dpS nb i σ 10 6 = (dpA nb (σ 11 3) i A).2.2.2 := r1.2.2.2
    have hsd2 : ¬ dpS nb i σ 10 6 < 0 := by rw [e6]; exact q2
    have hb := dv_nt hsd2 h0 (by omega)
    have hk := dv_nt (nx_pos hsd2) (n := 6) (by omega) (by omega)
    have e11 : dpS nb i σ 11 = σ 11 := r2 11 (by omega) (by omega)
    refine vc_X3_passDayByDraws_2 _ 10 _ rfl ⟨fun _ => ?_, fun q => absurd ?_ q⟩
    · rw [r3 3 (by omega), h3, nI_1]
      refine ⟨_, _, c_X3_draw _ h0 (by omega), ?_⟩
      show (bl_kd 12 = 23) ∧ (vp_in (dv (dpS nb i σ 10 6) (nI nb)) (bl_ln 12)) ∧ (bl_kd 13 = 24) ∧ (vp_in (nI i) (bl_ln 13)) ∧ (bl_kd (20 + Int32.toNatClampNeg (nI i)) = 5) ∧ (∃ τ6 : bl_S, bl_Con (bl_mi 31) [.ref (20 + Int32.toNatClampNeg (nI i)), .ref (14 + Int32.toNatClampNeg (dv (dpS nb i σ 10 6) (nI nb)))] _ none τ6 ∧ (∃ (y12 : Int32) (τ9 : bl_S), bl_Con (bl_mi 30) [.ref 10, .int 6] τ6 (some (.int y12)) τ9 ∧ (bl_kd 11 = 4) ∧ (∃ (y16 : Int32) (τ13 : bl_S), bl_Con (bl_mi 32) [.ref (20 + Int32.toNatClampNeg (nI i)), .ref (14 + Int32.toNatClampNeg (dv (dpS nb i σ 10 6) (nI nb))), .int y12, .int (τ9 11 3)] τ9 (some (.int y16)) τ13 ∧ bl_Wx (bl_mi 33) 2 [(0, .ref 10), (1, .int (nI (i + 1)))] [] τ13 _)))
      rw [ntp (by omega)]
      have hv : vp_in (dv (dpS nb i σ 10 6) (nI nb)) (bl_ln 12) := by
        rw [hb.2]
        exact vib (by omega)
      have kb := kdb _ (show Int32.toNatClampNeg (dv (dpS nb i σ 10 6) (nI nb)) < 6 by omega)
      refine ⟨rfl, hv, rfl, vip (by omega), kdp i (by omega), _, c_X5_walkTo _ (kdp i (by omega)) kb, _, _, c_X3_draw _ (n := 6) (by omega) (by omega), rfl, ?_⟩
      have e1 : wkS (bl_up (dpS nb i σ) 10 6 (nx (dpS nb i σ 10 6))) (20 + i) (14 + Int32.toNatClampNeg (dv (dpS nb i σ 10 6) (nI nb))) 10 6 = nx (dpS nb i σ 10 6) := by rw [wkS_c (by omega), bl_up_s]
      have e2 : bl_up (wkS (bl_up (dpS nb i σ) 10 6 (nx (dpS nb i σ 10 6))) (20 + i) (14 + Int32.toNatClampNeg (dv (dpS nb i σ 10 6) (nI nb)))) 10 6 (nx (nx (dpS nb i σ 10 6))) 11 3 = dpS nb i σ 11 3 := by rw [bl_up_c (by omega), wkS_c (by omega), bl_up_c (by omega)]
      rw [e1, e2]
      have hc := c_X5_takeHandfuls (bl_up (wkS (bl_up (dpS nb i σ) 10 6 (nx (dpS nb i σ 10 6))) (20 + i) (14 + Int32.toNatClampNeg (dv (dpS nb i σ 10 6) (nI nb)))) 10 6 (nx (nx (dpS nb i σ 10 6)))) (Int32.toNatClampNeg (dv (nx (dpS nb i σ 10 6)) 6)) (dpS nb i σ 11 3) (kdp i (by omega)) kb (by have := hk.1; rw [show nI 6 = (6 : Int32) from rfl] at this; omega)
      have hk2 := hk.2
      rw [show nI 6 = (6 : Int32) from rfl] at hk2
      rw [← hk2] at hc
      exact ⟨_, _, hc, ih⟩
    · rw [r3 4 (by omega), h4]
      exact nI_lt hi (by omega)
