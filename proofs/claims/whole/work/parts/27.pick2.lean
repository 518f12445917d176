/-! handfuls in natural numbers -/
def mN (q rp : Nat) : Nat := if (rp + 4) / 5 < q then (rp + 4) / 5 else q
def hqN (q hi kd rp : Nat) : Nat := if kd = 1 then (if hi = 0 then mN q rp / 2 else mN q rp) else mN q rp
theorem mN_le (q rp : Nat) : mN q rp ≤ rp ∧ mN q rp ≤ q := by
  unfold mN
  split <;> omega
theorem hqN_le (q hi kd rp : Nat) : hqN q hi kd rp ≤ rp ∧ hqN q hi kd rp ≤ q := by
  have := mN_le q rp
  unfold hqN
  (repeat' split) <;> omega
theorem mN_eq {q rp : Nat} (hq1 : q < 2 ^ 31) (hr : rp < 2 ^ 30) : (if (nI rp + 4) / 5 < nI q then (nI rp + 4) / 5 else nI q) = nI (mN q rp) := by
  have e4 : (4 : Int32) = nI 4 := rfl
  have e5 : (5 : Int32) = nI 5 := rfl
  rw [e4, e5, nI_add, pk_div (by omega) (by omega) (by omega)]
  unfold mN
  by_cases h : (rp + 4) / 5 < q
  · rw [if_pos (nI_lt h hq1), if_pos h]
  · rw [if_neg (nI_nlt (by omega) (by omega)), if_neg h]
theorem hqN_eq {q hi kd rp : Nat} (h1 : q < 2 ^ 31) (h2 : hi < 2 ^ 31) (h3 : kd < 2 ^ 31) (h4 : rp < 2 ^ 30) : hq (nI q) (nI hi) (nI kd) (nI rp) = nI (hqN q hi kd rp) := by
  unfold hq hqN
  rw [mN_eq h1 h4]
  have e1 : (1 : Int32) = nI 1 := rfl
  have e0 : (0 : Int32) = nI 0 := rfl
  have e2 : (2 : Int32) = nI 2 := rfl
  have hm := mN_le q rp
  by_cases a : kd = 1
  · rw [if_pos (by rw [a]; rfl), if_pos a]
    by_cases b : hi = 0
    · rw [if_pos (by rw [b]; rfl), if_pos b, e2, pk_div (by omega) (by omega) (by omega)]
    · rw [if_neg (by rw [e0, nI_eq h2 (by omega)]; exact b), if_neg b]
  · rw [if_neg (by rw [e1, nI_eq h3 (by omega)]; exact a), if_neg a]
def hsN (q hi kd rp : Nat) : Nat → Nat
  | 0 => rp
  | n + 1 => hsN q hi kd rp n - hqN q hi kd (hsN q hi kd rp n)
theorem hsN_le (q hi kd rp : Nat) : ∀ n, hsN q hi kd rp n ≤ rp
  | 0 => Nat.le_refl _
  | n + 1 => by
    have := hsN_le q hi kd rp n
    show hsN q hi kd rp n - _ ≤ rp
    omega
theorem hsN_eq {q hi kd rp : Nat} (h1 : q < 2 ^ 31) (h2 : hi < 2 ^ 31) (h3 : kd < 2 ^ 31) (h4 : rp < 2 ^ 30) : ∀ n, hs (nI q) (nI hi) (nI kd) (nI rp) n = nI (hsN q hi kd rp n)
  | 0 => rfl
  | n + 1 => by
    show hs (nI q) (nI hi) (nI kd) (nI rp) n - hq (nI q) (nI hi) (nI kd) (hs (nI q) (nI hi) (nI kd) (nI rp) n) = _
    have h5 := hsN_le q hi kd rp n
    rw [hsN_eq h1 h2 h3 h4 n, hqN_eq h1 h2 h3 (by omega), pk_sub (hqN_le _ _ _ _).1]
    rfl
theorem tkS_c {σ : bl_S} {r b : Nat} {ho : Int32} {n d : Nat} (h1 : d ≠ r) (h2 : d ≠ b) : tkS σ r b ho n d = σ d := by
  unfold tkS
  rw [bl_up_ne h1, bl_up_ne h1, bl_up_ne h1, bl_up_ne h2]
theorem tkM_c {σ : bl_S} {p b n d : Nat} (h : d ≠ 106 ∧ d ≠ 113 ∧ d ≠ 114 ∧ d ≠ 115) : tkM σ p b n d = σ d := by
  unfold tkM
  rw [bl_up_ne h.2.2.2, bl_up_ne h.2.2.1, bl_up_ne h.2.1, bl_up_ne h.1]
/-- handfuls keep the invariant -/
theorem Iv.take {nb np nt a b c i j : Nat} {σ : bl_S} (h : Iv nb np nt a b c σ) (hi : i < np) (hj : j < nb) (n : Nat) : Iv nb np nt a b c (tkM (tkS σ (20 + i) (14 + j) (σ 11 3) n) i j n) := by
  obtain ⟨hl, hb, hp, hz, ht, hs', hm⟩ := id h
  have hn := hl.1
  have hn2 := hl.2.1
  obtain ⟨rj, y2, s2, k2, rd, rp, sf, d1, d2, d3, d4, t1, t2, t3, t4, t5, t6⟩ := hb j hj
  obtain ⟨ri, y1, s1, q1, a1, h1, b1, b2, b3, b4, b5, b6, e1, e2, e3, e4, e5⟩ := hp i hi
  have cS : ∀ d, d ≠ 20 + i → d ≠ 14 + j → tkS σ (20 + i) (14 + j) (σ 11 3) n d = σ d := fun d z1 z2 => tkS_c z1 z2
  have v106 : tkM (tkS σ (20 + i) (14 + j) (σ 11 3) n) i j n 106 j = hs (σ 110 i) (σ 112 i) (σ 104 j) (σ 106 j) n := by
    unfold tkM
    rw [bl_up_c (by omega), bl_up_c (by omega), bl_up_c (by omega), bl_up_s, cS 110 (by omega) (by omega), cS 112 (by omega) (by omega), cS 104 (by omega) (by omega), cS 106 (by omega) (by omega)]
  have r2 := ri 2 (by omega)
  have r3 := ri 3 (by omega)
  have r4 := ri 4 (by omega)
  have u2 := rj 2 (by omega)
  have u4 := rj 4 (by omega)
  refine h.act hi hj (fun d z1 z2 z3 => ?_) (fun k j' hk z => ?_) (fun k j' hk z => ?_) (fun k hk => ?_) (fun k hk => ?_) (fun k hk => ?_) (fun k hk => ?_) ?_ ?_
  · rw [tkM_c (by omega), cS d z1 z2]
  · by_cases z4 : k = 4
    · subst z4
      show tkM (tkS σ (20 + i) (14 + j) (σ 11 3) n) i j n 106 j' = σ 106 j'
      unfold tkM
      rw [bl_up_c (by omega), bl_up_c (by omega), bl_up_c (by omega), bl_up_j z, cS 106 (by omega) (by omega)]
    · rw [tkM_c (by omega), cS _ (by omega) (by omega)]
  · unfold tkM
    rw [bl_up_j z, bl_up_j z, bl_up_j z, bl_up_c (by omega), cS _ (by omega) (by omega)]
  · rw [tkM_c (d := 14 + j) (by omega)]
    by_cases z4 : k = 4
    · subst z4
      rw [show (102 + 4 : Nat) = 106 from rfl, v106]
      unfold tkS
      rw [bl_up_c (by omega), bl_up_c (by omega), bl_up_c (by omega), bl_up_s]
      rw [show (108 + 2 : Nat) = 110 from rfl] at r2
      rw [show (108 + 4 : Nat) = 112 from rfl] at r4
      rw [show (102 + 2 : Nat) = 104 from rfl] at u2
      rw [show (102 + 4 : Nat) = 106 from rfl] at u4
      rw [r2, r4, u2, u4]
    · rw [tkM_c (by omega), cS (102 + k) (by omega) (by omega), ← rj k hk]
      unfold tkS
      rw [bl_up_c (by omega), bl_up_c (by omega), bl_up_c (by omega), bl_up_j z4]
  · rw [tkM_c (d := 20 + i) (by omega)]
    have r5 := ri 5 (by omega)
    have r6 := ri 6 (by omega)
    have r7 := ri 7 (by omega)
    have l3 := hl.2.2.2.2.2.2.1 3 (by omega)
    match k, hk with
    | 0, _ =>
      rw [tkM_c (by omega), cS (108 + 0) (by omega) (by omega), ← ri 0 (by omega)]
      simp [tkS, bl_up]
    | 1, _ =>
      rw [tkM_c (by omega), cS (108 + 1) (by omega) (by omega), ← ri 1 (by omega)]
      simp [tkS, bl_up]
    | 2, _ =>
      rw [tkM_c (by omega), cS (108 + 2) (by omega) (by omega), ← ri 2 (by omega)]
      simp [tkS, bl_up]
    | 3, _ =>
      rw [tkM_c (by omega), cS (108 + 3) (by omega) (by omega), ← ri 3 (by omega)]
      simp [tkS, bl_up]
    | 4, _ =>
      rw [tkM_c (by omega), cS (108 + 4) (by omega) (by omega), ← ri 4 (by omega)]
      unfold tkS
      rw [bl_up_j (by omega), bl_up_j (by omega), bl_up_j (by omega), bl_up_c (by omega)]
    | 5, _ =>
      show tkS σ (20 + i) (14 + j) (σ 11 3) n (20 + i) 5 = tkM (tkS σ (20 + i) (14 + j) (σ 11 3) n) i j n 113 i
      have e : tkM (tkS σ (20 + i) (14 + j) (σ 11 3) n) i j n 113 i = pcn (σ 110 i) (σ 112 i) (σ 104 j) (σ 111 i) (σ 106 j) (σ 1 3) (σ 113 i) n := by
        unfold tkM
        rw [bl_up_c (by omega), bl_up_c (by omega), bl_up_s, cS 110 (by omega) (by omega), cS 112 (by omega) (by omega), cS 104 (by omega) (by omega), cS 106 (by omega) (by omega), cS 111 (by omega) (by omega), cS 1 (by omega) (by omega), cS 113 (by omega) (by omega)]
      rw [e]
      unfold tkS
      rw [bl_up_j (by omega), bl_up_s, r2, r3, r4, u2, u4, r5, l3]
    | 6, _ =>
      show tkS σ (20 + i) (14 + j) (σ 11 3) n (20 + i) 6 = tkM (tkS σ (20 + i) (14 + j) (σ 11 3) n) i j n 114 i
      have e : tkM (tkS σ (20 + i) (14 + j) (σ 11 3) n) i j n 114 i = pe (σ 110 i) (σ 112 i) (σ 104 j) (σ 111 i) (σ 106 j) (σ 114 i) n := by
        unfold tkM
        rw [bl_up_c (by omega), bl_up_s, cS 110 (by omega) (by omega), cS 112 (by omega) (by omega), cS 104 (by omega) (by omega), cS 106 (by omega) (by omega), cS 111 (by omega) (by omega), cS 114 (by omega) (by omega)]
      rw [e]
      unfold tkS
      rw [bl_up_j (by omega), bl_up_j (by omega), bl_up_s, r2, r3, r4, u2, u4, r6]
    | 7, _ =>
      show tkS σ (20 + i) (14 + j) (σ 11 3) n (20 + i) 7 = tkM (tkS σ (20 + i) (14 + j) (σ 11 3) n) i j n 115 i
      have e : tkM (tkS σ (20 + i) (14 + j) (σ 11 3) n) i j n 115 i = kc (σ 104 j) (σ 115 i) n := by
        unfold tkM
        rw [bl_up_s, cS 104 (by omega) (by omega), cS 115 (by omega) (by omega)]
      rw [e]
      unfold tkS
      rw [bl_up_s, u2, r7]
    | k + 8, hk => omega
  · rw [tkM_c (by omega)]
    unfold tkS
    rw [bl_up_c (by omega), bl_up_c (by omega), bl_up_c (by omega), bl_up_j (by omega)]
  · rw [tkM_c (by omega)]
    unfold tkS
    rw [bl_up_j (by omega), bl_up_j (by omega), bl_up_j (by omega), bl_up_c (by omega)]
  · have g : ∀ d, 102 ≤ d → d ≤ 107 → d ≠ 106 → tkM (tkS σ (20 + i) (14 + j) (σ 11 3) n) i j n d = σ d := fun d v1 v2 v3 => by rw [tkM_c (by omega), cS _ (by omega) (by omega)]
    rw [g 102 (by omega) (by omega) (by omega), g 103 (by omega) (by omega) (by omega), g 104 (by omega) (by omega) (by omega), g 105 (by omega) (by omega) (by omega), g 107 (by omega) (by omega) (by omega), v106, e3, e5, t3, t5, hsN_eq (by omega) (by omega) (by omega) (by omega)]
    have := hsN_le q1 h1 k2 rp n
    exact ⟨y2, s2, k2, rd, _, sf, d1, d2, d3, by omega, t1, t2, rfl, t4, rfl, t6⟩
  · have g : ∀ d, 108 ≤ d → d ≤ 112 → tkM (tkS σ (20 + i) (14 + j) (σ 11 3) n) i j n d = σ d := fun d v1 v2 => by rw [tkM_c (by omega), cS _ (by omega) (by omega)]
    rw [g 108 (by omega) (by omega), g 109 (by omega) (by omega), g 110 (by omega) (by omega), g 111 (by omega) (by omega), g 112 (by omega) (by omega)]
    exact ⟨y1, s1, q1, a1, h1, b1, b2, b3, b4, b5, b6, e1, e2, e3, e4, e5⟩
theorem pr_pick {σ : bl_S} (h : Inv σ) (x y z : Int32) : Pr 76 132 [.int x, .int y, .int z] σ := by
  obtain ⟨nb, np, nt, a, b, c, hl, hb, hp, hz, ht, hs', hm⟩ := id h
  have hn := hl.1
  have hn2 := hl.2.1
  by_cases g : wi x 0 (nI np - 1) = 0
  · exact ⟨-1000000001, σ, σ, bl_c (Nat.le_of_ble_eq_true rfl) (vc_X10_pick_0 σ x y z ⟨_, _, g71 hl x, fun _ => ⟨rfl, rfl⟩, fun q => absurd g q⟩), bl_c (Nat.le_of_ble_eq_true rfl) (vc_X11_pick_0 σ x y z ⟨_, _, g104 hl x, fun _ => ⟨rfl, rfl⟩, fun q => absurd g q⟩), h⟩
  by_cases f : wi y 0 (nI nb - 1) = 0
  · exact ⟨-1000000001, σ, σ, bl_c (Nat.le_of_ble_eq_true rfl) (vc_X10_pick_0 σ x y z ⟨_, _, g71 hl x, fun q => absurd q g, fun _ => ⟨_, _, g69 hl y, fun _ => ⟨rfl, rfl⟩, fun q => absurd f q⟩⟩), bl_c (Nat.le_of_ble_eq_true rfl) (vc_X11_pick_0 σ x y z ⟨_, _, g104 hl x, fun q => absurd q g, fun _ => ⟨_, _, g103 hl y, fun _ => ⟨rfl, rfl⟩, fun q => absurd f q⟩⟩), h⟩
  by_cases w : wi z 1 60 = 0
  · exact ⟨-1000000002, σ, σ, bl_c (Nat.le_of_ble_eq_true rfl) (vc_X10_pick_0 σ x y z ⟨_, _, g71 hl x, fun q => absurd q g, fun _ => ⟨_, _, g69 hl y, fun q => absurd q f, fun _ => ⟨_, _, c_X10_within σ z 1 60, fun _ => ⟨rfl, rfl⟩, fun q => absurd w q⟩⟩⟩), bl_c (Nat.le_of_ble_eq_true rfl) (vc_X11_pick_0 σ x y z ⟨_, _, g104 hl x, fun q => absurd q g, fun _ => ⟨_, _, g103 hl y, fun q => absurd q f, fun _ => ⟨_, _, c_X11_in σ z 1 60 (by decide) (by decide), fun _ => ⟨rfl, rfl⟩, fun q => absurd w q⟩⟩⟩), h⟩
  obtain ⟨i, hi, rfl⟩ := wi_n (by omega) g
  obtain ⟨j, hj, rfl⟩ := wi_n (by omega) f
  obtain ⟨n, n1, n2, rfl⟩ := wi_c (a := 1) (b := 60) (by omega) (by omega) w
  have i4 : i < 4 := by omega
  have j6 : j < 6 := by omega
  have ri := (hp i hi).1
  have rj := (hb j hj).1
  have cS : ∀ d, d ≠ 20 + i → d ≠ 14 + j → tkS σ (20 + i) (14 + j) (σ 11 3) n d = σ d := fun d z1 z2 => tkS_c z1 z2
  by_cases at0 : σ (20 + i) 0 = σ (14 + j) 0
  · by_cases at1 : σ (20 + i) 1 = σ (14 + j) 1
    · have hpk := c_X11_pickNow (tkS σ (20 + i) (14 + j) (σ 11 3) n) n i4 j6 (by omega)
      rw [cS 110 (by omega) (by omega), cS 112 (by omega) (by omega), cS 104 (by omega) (by omega), cS 106 (by omega) (by omega)] at hpk
      have hl2 : Jl nb np (tkS σ (20 + i) (14 + j) (σ 11 3) n) := hl.fr (cS _ (by omega) (by omega)) (cS _ (by omega) (by omega)) (fun k _ => by rw [cS 1 (by omega) (by omega)])
      refine ⟨sg (σ (20 + i) 2) (σ (20 + i) 4) (σ (14 + j) 2) (σ (14 + j) 4) n, tkS σ (20 + i) (14 + j) (σ 11 3) n, tkM (tkS σ (20 + i) (14 + j) (σ 11 3) n) i j n, bl_c (Nat.le_of_ble_eq_true rfl) (vc_X10_pick_0 σ _ _ _ ⟨_, _, g71 hl _, fun q => absurd q g, fun _ => ⟨_, _, g69 hl _, fun q => absurd q f, fun _ => ⟨_, _, c_X10_within σ _ 1 60, fun q => absurd q w, fun _ => ⟨vip i4, vib j6, ?_⟩⟩⟩⟩), bl_c (Nat.le_of_ble_eq_true rfl) (vc_X11_pick_0 _ _ _ _ ⟨_, _, g104 hl2 _, fun q => absurd q g, fun _ => ⟨_, _, g103 hl2 _, fun q => absurd q f, fun _ => ⟨_, _, c_X11_in _ _ 1 60 (by decide) (by decide), fun q => absurd q w, fun _ => ⟨vip i4, vib j6, ?_⟩⟩⟩⟩), (Iv.take ⟨hl, hb, hp, hz, ht, hs', hm⟩ hi hj n).inv⟩
      · rw [ntp i4, ntb j6]
        refine ⟨kdp i i4, _, _, c_X5_isAt σ (kdp i i4) (kdb j j6), fun q => absurd q ?_, fun _ => ⟨_, _, c_X5_takeHandfuls σ n _ (kdp i i4) (kdb j j6) (by omega), rfl, rfl⟩⟩
        rw [if_pos at0, if_pos at1]
        decide
      · rw [ntp i4, ntb j6, cS 108 (by omega) (by omega), cS 109 (by omega) (by omega), cS 102 (by omega) (by omega), cS 103 (by omega) (by omega)]
        refine ⟨fun _ => ⟨fun _ => ⟨_, _, hpk, ?_, rfl⟩, fun q => absurd ?_ q⟩, fun q => absurd ?_ q⟩
        · rw [ri 2 (by omega), ri 4 (by omega), rj 2 (by omega), rj 4 (by omega)]
        · rw [← show σ (20 + i) 1 = σ 109 i from ri 1 (by omega), at1]
          exact rj 1 (by omega)
        · rw [← show σ (20 + i) 0 = σ 108 i from ri 0 (by omega), at0]
          exact rj 0 (by omega)
    · refine ⟨-1000000003, σ, σ, bl_c (Nat.le_of_ble_eq_true rfl) (vc_X10_pick_0 σ _ _ _ ⟨_, _, g71 hl _, fun q => absurd q g, fun _ => ⟨_, _, g69 hl _, fun q => absurd q f, fun _ => ⟨_, _, c_X10_within σ _ 1 60, fun q => absurd q w, fun _ => ⟨vip i4, vib j6, ?_⟩⟩⟩⟩), bl_c (Nat.le_of_ble_eq_true rfl) (vc_X11_pick_0 _ _ _ _ ⟨_, _, g104 hl _, fun q => absurd q g, fun _ => ⟨_, _, g103 hl _, fun q => absurd q f, fun _ => ⟨_, _, c_X11_in _ _ 1 60 (by decide) (by decide), fun q => absurd q w, fun _ => ⟨vip i4, vib j6, ?_⟩⟩⟩⟩), h⟩
      · rw [ntp i4, ntb j6]
        refine ⟨kdp i i4, _, _, c_X5_isAt σ (kdp i i4) (kdb j j6), fun _ => ⟨rfl, rfl⟩, fun q => absurd ?_ q⟩
        rw [if_pos at0, if_neg at1]
      · rw [ntp i4, ntb j6]
        refine ⟨fun _ => ⟨fun q => absurd ?_ at1, fun _ => ⟨rfl, rfl⟩⟩, fun _ => ⟨rfl, rfl⟩⟩
        rw [ri 1 (by omega), rj 1 (by omega)]
        exact q
  · refine ⟨-1000000003, σ, σ, bl_c (Nat.le_of_ble_eq_true rfl) (vc_X10_pick_0 σ _ _ _ ⟨_, _, g71 hl _, fun q => absurd q g, fun _ => ⟨_, _, g69 hl _, fun q => absurd q f, fun _ => ⟨_, _, c_X10_within σ _ 1 60, fun q => absurd q w, fun _ => ⟨vip i4, vib j6, ?_⟩⟩⟩⟩), bl_c (Nat.le_of_ble_eq_true rfl) (vc_X11_pick_0 _ _ _ _ ⟨_, _, g104 hl _, fun q => absurd q g, fun _ => ⟨_, _, g103 hl _, fun q => absurd q f, fun _ => ⟨_, _, c_X11_in _ _ 1 60 (by decide) (by decide), fun q => absurd q w, fun _ => ⟨vip i4, vib j6, ?_⟩⟩⟩⟩), h⟩
    · rw [ntp i4, ntb j6]
      refine ⟨kdp i i4, _, _, c_X5_isAt σ (kdp i i4) (kdb j j6), fun _ => ⟨rfl, rfl⟩, fun q => absurd ?_ q⟩
      rw [if_neg at0]
    · rw [ntp i4, ntb j6]
      refine ⟨fun q => absurd ?_ at0, fun _ => ⟨rfl, rfl⟩⟩
      rw [ri 0 (by omega), rj 0 (by omega)]
      exact q
