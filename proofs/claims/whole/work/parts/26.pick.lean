theorem wkS_c {σ : bl_S} {r b c : Nat} (h : c ≠ r) : wkS σ r b c = σ c := by
  unfold wkS
  rw [bl_up_ne h, bl_up_ne h, bl_up_ne h]
theorem wkM_c {σ : bl_S} {p b c : Nat} (h : c ≠ 108 ∧ c ≠ 109 ∧ c ≠ 115) : wkM σ p b c = σ c := by
  unfold wkM
  rw [bl_up_ne h.2.1, bl_up_ne h.1, bl_up_ne h.2.2]
theorem wkM_j {σ : bl_S} {p b c j : Nat} (h : j ≠ p) : wkM σ p b c j = σ c j := by
  unfold wkM
  rw [bl_up_j h, bl_up_j h, bl_up_j h]
/-- a walk keeps the invariant -/
theorem Iv.walk {nb np nt a b c i j : Nat} {σ : bl_S} (h : Iv nb np nt a b c σ) (hi : i < np) (hj : j < nb) : Iv nb np nt a b c (wkM (wkS σ (20 + i) (14 + j)) i j) := by
  obtain ⟨hl, hb, hp, hz, ht, hs, hm⟩ := id h
  have hn := hl.1
  have hn2 := hl.2.1
  obtain ⟨rj, y2, s2, k2, rd, rp, sf, d1, d2, d3, d4, t1, t2, t3, t4, t5, t6⟩ := hb j hj
  obtain ⟨ri, y1, s1, q1, a1, h1, b1, b2, b3, b4, b5, b6, e1, e2, e3, e4, e5⟩ := hp i hi
  have cS : ∀ d, d ≠ 20 + i → wkS σ (20 + i) (14 + j) d = σ d := fun d hd => wkS_c hd
  refine h.act hi hj (fun d z1 z2 z3 => ?_) (fun k j' hk z => ?_) (fun k j' hk z => ?_) (fun k hk => ?_) (fun k hk => ?_) (fun k hk => ?_) (fun k hk => ?_) ?_ ?_
  · rw [wkM_c (by omega), cS d z1]
  · rw [wkM_c (by omega), cS _ (by omega)]
  · rw [wkM_j z, cS _ (by omega)]
  · rw [wkM_c (by omega), wkM_c (by omega), cS _ (by omega), cS _ (by omega)]
    exact rj k hk
  · rw [wkM_c (c := 20 + i) (by omega)]
    match k, hk with
    | 0, _ =>
      have e : wkM (wkS σ (20 + i) (14 + j)) i j (108 + 0) i = σ 102 j := by
        show wkM (wkS σ (20 + i) (14 + j)) i j 108 i = _
        unfold wkM
        rw [bl_up_c (by omega), bl_up_s, cS 102 (by omega)]
      have e2 : wkS σ (20 + i) (14 + j) (20 + i) 0 = σ (14 + j) 0 := by
        unfold wkS
        rw [bl_up_j (by omega), bl_up_s]
      rw [e, e2]
      exact rj 0 (by omega)
    | 1, _ =>
      have e : wkM (wkS σ (20 + i) (14 + j)) i j (108 + 1) i = σ 103 j := by
        show wkM (wkS σ (20 + i) (14 + j)) i j 109 i = _
        unfold wkM
        rw [bl_up_s, cS 103 (by omega)]
      have e2 : wkS σ (20 + i) (14 + j) (20 + i) 1 = σ (14 + j) 1 := by
        unfold wkS
        rw [bl_up_s]
      rw [e, e2]
      exact rj 1 (by omega)
    | 2, _ =>
      rw [wkM_c (by omega), cS (108 + 2) (by omega), ← ri 2 (by omega)]
      simp [wkS, bl_up]
    | 3, _ =>
      rw [wkM_c (by omega), cS (108 + 3) (by omega), ← ri 3 (by omega)]
      simp [wkS, bl_up]
    | 4, _ =>
      rw [wkM_c (by omega), cS (108 + 4) (by omega), ← ri 4 (by omega)]
      simp [wkS, bl_up]
    | 5, _ =>
      rw [wkM_c (by omega), cS (108 + 5) (by omega), ← ri 5 (by omega)]
      simp [wkS, bl_up]
    | 6, _ =>
      rw [wkM_c (by omega), cS (108 + 6) (by omega), ← ri 6 (by omega)]
      simp [wkS, bl_up]
    | 7, _ =>
      have e : wkM (wkS σ (20 + i) (14 + j)) i j (108 + 7) i = σ 115 i + wy (σ 108 i) (σ 109 i) (σ 102 j) (σ 103 j) := by
        show wkM (wkS σ (20 + i) (14 + j)) i j 115 i = _
        unfold wkM
        rw [bl_up_c (by omega), bl_up_c (by omega), bl_up_s, cS 115 (by omega), cS 108 (by omega), cS 109 (by omega), cS 102 (by omega), cS 103 (by omega)]
      rw [e]
      have e2 : wkS σ (20 + i) (14 + j) (20 + i) 7 = σ (20 + i) 7 + wy (σ (20 + i) 0) (σ (20 + i) 1) (σ (14 + j) 0) (σ (14 + j) 1) := by
        unfold wkS
        rw [bl_up_j (by omega), bl_up_j (by omega), bl_up_s]
      rw [e2, ri 7 (by omega), ri 0 (by omega), ri 1 (by omega), rj 0 (by omega), rj 1 (by omega)]
    | k + 8, hk => omega
  · rw [wkM_c (by omega), cS _ (by omega)]
  · rw [wkM_c (by omega)]
    rcases hk with rfl | rfl <;> simp [wkS, bl_up]
  · have g : ∀ d, 102 ≤ d → d ≤ 107 → wkM (wkS σ (20 + i) (14 + j)) i j d = σ d := fun d u1 u2 => by rw [wkM_c (by omega), cS _ (by omega)]
    rw [g 102 (by omega) (by omega), g 103 (by omega) (by omega), g 104 (by omega) (by omega), g 105 (by omega) (by omega), g 106 (by omega) (by omega), g 107 (by omega) (by omega)]
    exact ⟨y2, s2, k2, rd, rp, sf, d1, d2, d3, d4, t1, t2, t3, t4, t5, t6⟩
  · have g : ∀ d, 110 ≤ d → d ≤ 112 → wkM (wkS σ (20 + i) (14 + j)) i j d = σ d := fun d u1 u2 => by rw [wkM_c (by omega), cS _ (by omega)]
    rw [g 110 (by omega) (by omega), g 111 (by omega) (by omega), g 112 (by omega) (by omega)]
    refine ⟨y2, s2, q1, a1, h1, d1, d2, b3, b4, b5, b6, ?_, ?_, e3, e4, e5⟩
    · unfold wkM
      rw [bl_up_c (by omega), bl_up_s, cS 102 (by omega)]
      exact t1
    · unfold wkM
      rw [bl_up_s, cS 103 (by omega)]
      exact t2
theorem pr_go {σ : bl_S} (h : Inv σ) (x y : Int32) : Pr 75 129 [.int x, .int y] σ := by
  obtain ⟨nb, np, nt, a, b, c, hl, hb, hp, hz, ht, hs, hm⟩ := id h
  have hn := hl.1
  have hn2 := hl.2.1
  by_cases g : wi x 0 (nI np - 1) = 0
  · exact ⟨-1000000001, σ, σ, bl_c (Nat.le_of_ble_eq_true rfl) (vc_X10_go_0 σ x y ⟨_, _, g71 hl x, fun _ => ⟨rfl, rfl⟩, fun q => absurd g q⟩), bl_c (Nat.le_of_ble_eq_true rfl) (vc_X11_go_0 σ x y ⟨_, _, g104 hl x, fun _ => ⟨rfl, rfl⟩, fun q => absurd g q⟩), h⟩
  by_cases f : wi y 0 (nI nb - 1) = 0
  · exact ⟨-1000000001, σ, σ, bl_c (Nat.le_of_ble_eq_true rfl) (vc_X10_go_0 σ x y ⟨_, _, g71 hl x, fun q => absurd q g, fun _ => ⟨_, _, g69 hl y, fun _ => ⟨rfl, rfl⟩, fun q => absurd f q⟩⟩), bl_c (Nat.le_of_ble_eq_true rfl) (vc_X11_go_0 σ x y ⟨_, _, g104 hl x, fun q => absurd q g, fun _ => ⟨_, _, g103 hl y, fun _ => ⟨rfl, rfl⟩, fun q => absurd f q⟩⟩), h⟩
  obtain ⟨i, hi, rfl⟩ := wi_n (by omega) g
  obtain ⟨j, hj, rfl⟩ := wi_n (by omega) f
  have i4 : i < 4 := by omega
  have j6 : j < 6 := by omega
  have ri := (hp i hi).1
  have rj := (hb j hj).1
  obtain ⟨y1, s1, q1, a1, h1, b1, b2, b3, b4, b5, b6, e1, e2, e3, e4, e5⟩ := (hp i hi).2
  obtain ⟨y2, s2, k2, rd, rp, sf, d1, d2, d3, d4, t1, t2, t3, t4, t5, t6⟩ := (hb j hj).2
  have cS : ∀ d, d ≠ 20 + i → wkS σ (20 + i) (14 + j) d = σ d := fun d hd => wkS_c hd
  have hgo := c_X11_go (wkS σ (20 + i) (14 + j)) hn hn2 (by rw [cS 1 (by omega)]; exact hl.2.2.2.1) (by rw [cS 1 (by omega)]; exact hl.2.2.2.2.2.1) hi hj ⟨y1, y2, b1, d1, by rw [cS 108 (by omega)]; exact e1, by rw [cS 102 (by omega)]; exact t1⟩
  rw [cS 115 (by omega), cS 108 (by omega), cS 109 (by omega), cS 102 (by omega), cS 103 (by omega)] at hgo
  refine ⟨_, wkS σ (20 + i) (14 + j), _, bl_c (Nat.le_of_ble_eq_true rfl) (vc_X10_go_0 σ _ _ ⟨_, _, g71 hl _, fun q => absurd q g, fun _ => ⟨_, _, g69 hl _, fun q => absurd q f, fun _ => ⟨vip i4, vib j6, ?_⟩⟩⟩), hgo, (Iv.walk ⟨hl, hb, hp, hz, ht, hs, hm⟩ hi hj).inv⟩
  rw [ntp i4, ntb j6]
  refine ⟨kdp i i4, _, c_X5_walkTo σ (kdp i i4) (kdb j j6), ?_, rfl⟩
  have e2 : wkS σ (20 + i) (14 + j) (20 + i) 7 = σ (20 + i) 7 + wy (σ (20 + i) 0) (σ (20 + i) 1) (σ (14 + j) 0) (σ (14 + j) 1) := by
    unfold wkS
    rw [bl_up_j (by omega), bl_up_j (by omega), bl_up_s]
  rw [e2, ri 7 (by omega), ri 0 (by omega), ri 1 (by omega), rj 0 (by omega), rj 1 (by omega)]
/-! picking: what is given in all, eaten, in the can, on the clock, behind n handfuls -/
def sg (q hi kd rp : Int32) : Nat → Int32
  | 0 => 0
  | n + 1 => sg q hi kd rp n + hq q hi kd (hs q hi kd rp n)
def sw (q hi kd ap rp : Int32) : Int32 := if hq q hi kd rp < ap then hq q hi kd rp else ap
def pe (q hi kd ap rp et : Int32) : Nat → Int32
  | 0 => et
  | n + 1 => if 999999 < pe q hi kd ap rp et n + sw q hi kd ap (hs q hi kd rp n) then 999999 else pe q hi kd ap rp et n + sw q hi kd ap (hs q hi kd rp n)
def pcn (q hi kd ap rp ho cn : Int32) : Nat → Int32
  | 0 => cn
  | n + 1 => if ho < pcn q hi kd ap rp ho cn n + gn q hi kd ap (hs q hi kd rp n) then ho else pcn q hi kd ap rp ho cn n + gn q hi kd ap (hs q hi kd rp n)
def kc (kd ck : Int32) : Nat → Int32
  | 0 => ck
  | n + 1 => kc kd ck n + hm kd
/-- the class's cells behind n handfuls -/
def tkS (σ : bl_S) (r b : Nat) (ho : Int32) (n : Nat) : bl_S := bl_up (bl_up (bl_up (bl_up σ b 4 (hs (σ r 2) (σ r 4) (σ b 2) (σ b 4) n)) r 6 (pe (σ r 2) (σ r 4) (σ b 2) (σ r 3) (σ b 4) (σ r 6) n)) r 5 (pcn (σ r 2) (σ r 4) (σ b 2) (σ r 3) (σ b 4) ho (σ r 5) n)) r 7 (kc (σ b 2) (σ r 7) n)
theorem tk_over (σ : bl_S) (r b : Nat) (a1 a2 a3 a4 b1 b2 b3 b4 : Int32) : bl_up (bl_up (bl_up (bl_up (bl_up (bl_up (bl_up (bl_up σ b 4 a1) r 6 a2) r 5 a3) r 7 a4) b 4 b1) r 6 b2) r 5 b3) r 7 b4 = bl_up (bl_up (bl_up (bl_up σ b 4 b1) r 6 b2) r 5 b3) r 7 b4 := by
  funext c j
  simp only [bl_up]
  (repeat' split) <;> first | rfl | contradiction
theorem tkS_0 (σ : bl_S) (r b : Nat) (ho : Int32) : tkS σ r b ho 0 = σ := by
  unfold tkS
  simp only [hs, pe, pcn, kc]
  rw [bl_up_id' (σ := σ) rfl, bl_up_id' (σ := σ) rfl, bl_up_id' (σ := σ) rfl, bl_up_id' (σ := σ) rfl]
theorem ring1 (a b c : Int32) : a + b - c = a + (b - c) := by grind
set_option maxHeartbeats 2000000 in
theorem c_X5_takeHandfuls (σ : bl_S) {r b : Nat} (n : Nat) (ho : Int32) (h : bl_kd r = 5) (hb : bl_kd b = 1) (hn : n < 2 ^ 31) : bl_Con (bl_mi 32) [.ref r, .ref b, .int (nI n), .int ho] σ (some (.int (sg (σ r 2) (σ r 4) (σ b 2) (σ b 4) n))) (tkS σ r b ho n) := by
  have hrb := bl_kdne h hb (by decide)
  have hbr := hrb.symm
  refine bl_c (Nat.le_of_ble_eq_true rfl) (vc_X5_takeHandfuls_0 σ r b (nI n) ho h hb ?_)
  have key := bl_dn (N := n) (P := fun i => bl_Wx (bl_mi 32) 6 [(0, .ref r), (1, .ref b), (2, .int (nI n)), (3, .int ho), (4, .int (sg (σ r 2) (σ r 4) (σ b 2) (σ b 4) i)), (5, .int (nI i))] [] (tkS σ r b ho i) (fun v τ => v = some (.int (sg (σ r 2) (σ r 4) (σ b 2) (σ b 4) n)) ∧ τ = tkS σ r b ho n)) ?_ ?_
  · rw [tkS_0] at key
    exact key
  · exact vc_X5_takeHandfuls_6 _ r b _ _ _ _ h hb ⟨fun c => absurd c (nI_nlt (Nat.le_refl n) hn), fun _ => ⟨rfl, rfl⟩⟩
  · intro i hi ih
    have r2 : tkS σ r b ho i r 2 = σ r 2 := by simp [tkS, bl_up, hrb]
    have r3 : tkS σ r b ho i r 3 = σ r 3 := by simp [tkS, bl_up, hrb]
    have r4 : tkS σ r b ho i r 4 = σ r 4 := by simp [tkS, bl_up, hrb]
    have r5 : tkS σ r b ho i r 5 = pcn (σ r 2) (σ r 4) (σ b 2) (σ r 3) (σ b 4) ho (σ r 5) i := by simp [tkS, bl_up]
    have r6 : tkS σ r b ho i r 6 = pe (σ r 2) (σ r 4) (σ b 2) (σ r 3) (σ b 4) (σ r 6) i := by simp [tkS, bl_up]
    have r7 : tkS σ r b ho i r 7 = kc (σ b 2) (σ r 7) i := by simp [tkS, bl_up]
    have b2 : tkS σ r b ho i b 2 = σ b 2 := by simp [tkS, bl_up, hbr]
    have b4 : tkS σ r b ho i b 4 = hs (σ r 2) (σ r 4) (σ b 2) (σ b 4) i := by simp [tkS, bl_up, hbr]
    have hg := c_X5_wouldGet (tkS σ r b ho i) h hb
    rw [r2, r4, b2, b4] at hg
    refine vc_X5_takeHandfuls_6 _ r b _ _ _ _ h hb ⟨fun _ => ⟨_, _, hg, fun v6 e6 v8 e8 => ⟨_, _, c_X1_handfulMoments _ hb, fun v14 e14 => ?_⟩⟩, fun c => absurd (nI_lt hi hn) c⟩
    rw [bl_up_c hrb, r6, r3] at e6
    have e6 : v6 = pe (σ r 2) (σ r 4) (σ b 2) (σ r 3) (σ b 4) (σ r 6) (i + 1) := e6
    rw [bl_up_j (show 5 ≠ 6 by decide), bl_up_c hrb, r5, r3, ring1] at e8
    have e8 : v8 = pcn (σ r 2) (σ r 4) (σ b 2) (σ r 3) (σ b 4) ho (σ r 5) (i + 1) := e8
    rw [bl_up_j (show 7 ≠ 5 by decide), bl_up_j (show 7 ≠ 6 by decide), bl_up_c hrb, r7, bl_up_c hbr, bl_up_c hbr, bl_up_j (show 2 ≠ 4 by decide), b2] at e14
    have e14 : v14 = kc (σ b 2) (σ r 7) (i + 1) := e14
    rw [e6, e8, e14, b4, nI_1]
    have e : bl_up (bl_up (bl_up (bl_up (tkS σ r b ho i) b 4 (hs (σ r 2) (σ r 4) (σ b 2) (σ b 4) i - hq (σ r 2) (σ r 4) (σ b 2) (hs (σ r 2) (σ r 4) (σ b 2) (σ b 4) i))) r 6 (pe (σ r 2) (σ r 4) (σ b 2) (σ r 3) (σ b 4) (σ r 6) (i + 1))) r 5 (pcn (σ r 2) (σ r 4) (σ b 2) (σ r 3) (σ b 4) ho (σ r 5) (i + 1))) r 7 (kc (σ b 2) (σ r 7) (i + 1)) = tkS σ r b ho (i + 1) := tk_over σ r b _ _ _ _ _ _ _ _
    rw [e]
    exact ih
/-- the reference's rows behind n handfuls -/
def tkM (σ : bl_S) (p b n : Nat) : bl_S := bl_up (bl_up (bl_up (bl_up σ 106 b (hs (σ 110 p) (σ 112 p) (σ 104 b) (σ 106 b) n)) 113 p (pcn (σ 110 p) (σ 112 p) (σ 104 b) (σ 111 p) (σ 106 b) (σ 1 3) (σ 113 p) n)) 114 p (pe (σ 110 p) (σ 112 p) (σ 104 b) (σ 111 p) (σ 106 b) (σ 114 p) n)) 115 p (kc (σ 104 b) (σ 115 p) n)
theorem tkM_0 (σ : bl_S) (p b : Nat) : tkM σ p b 0 = σ := by
  unfold tkM
  simp only [hs, pe, pcn, kc]
  rw [bl_up_id' (σ := σ) rfl, bl_up_id' (σ := σ) rfl, bl_up_id' (σ := σ) rfl, bl_up_id' (σ := σ) rfl]
theorem tkM_over (σ : bl_S) (p b : Nat) (a1 a2 a3 a4 b1 b2 b3 b4 : Int32) : bl_up (bl_up (bl_up (bl_up (bl_up (bl_up (bl_up (bl_up σ 106 b a1) 113 p a2) 114 p a3) 115 p a4) 106 b b1) 113 p b2) 114 p b3) 115 p b4 = bl_up (bl_up (bl_up (bl_up σ 106 b b1) 113 p b2) 114 p b3) 115 p b4 := by
  funext c j
  simp only [bl_up]
  (repeat' split) <;> first | rfl | contradiction
theorem c_X11_handful (σ : bl_S) {p b : Nat} (hp : p < 4) (hb : b < 6) : bl_Con (bl_mi 128) [.ref 1, .int (nI p), .int (nI b)] σ (some (.int (hq (σ 110 p) (σ 112 p) (σ 104 b) (σ 106 b)))) (bl_up σ 106 b (σ 106 b - hq (σ 110 p) (σ 112 p) (σ 104 b) (σ 106 b))) := by
  refine bl_c (Nat.le_of_ble_eq_true rfl) (vc_X11_handful_0 σ _ _ ⟨_, _, c_X11_givesOf σ hp hb, vib hb, ?_⟩)
  rw [ntb hb]
  exact ⟨rfl, rfl⟩
theorem c_X11_rest (σ : bl_S) (g e : Int32) : bl_Con (bl_mi 127) [.int g, .int e] σ (some (.int (if g < e then 0 else g - e))) σ :=
  bl_c (Nat.le_of_ble_eq_true rfl) (vc_X11_rest_0 σ g e (fun v h => ⟨by rw [h], rfl⟩))
theorem c_X11_atMost (σ : bl_S) (x m : Int32) : bl_Con (bl_mi 130) [.int x, .int m] σ (some (.int (if m < x then m else x))) σ :=
  bl_c (Nat.le_of_ble_eq_true rfl) (vc_X11_atMost_0 σ x m (fun v h => ⟨by rw [h], rfl⟩))
theorem c_X11_handfulTakes (σ : bl_S) {b : Nat} (hb : b < 6) : bl_Con (bl_mi 126) [.ref 1, .int (nI b)] σ (some (.int (hm (σ 104 b)))) σ :=
  bl_c (Nat.le_of_ble_eq_true rfl) (vc_X11_handfulTakes_0 σ _ ⟨vib hb, fun v h => ⟨by rw [h, ntb hb]; rfl, rfl⟩⟩)
theorem gn_rest (q hi kd ap rp : Int32) : (if hq q hi kd rp < ap then 0 else hq q hi kd rp - ap) = gn q hi kd ap rp := by
  unfold gn
  split
  · rw [Int32.sub_self]
  · rfl
theorem ring2 (a b c : Int32) : a + b - (b - c) = a + c := by grind
set_option maxHeartbeats 2000000 in
theorem c_X11_pickNow (σ : bl_S) {p b : Nat} (n : Nat) (hp : p < 4) (hb : b < 6) (hn : n < 2 ^ 31) : bl_Con (bl_mi 131) [.ref 1, .int (nI p), .int (nI b), .int (nI n)] σ (some (.int (sg (σ 110 p) (σ 112 p) (σ 104 b) (σ 106 b) n))) (tkM σ p b n) := by
  refine bl_c (Nat.le_of_ble_eq_true rfl) (vc_X11_pickNow_0 σ _ _ _ ?_)
  have key := bl_dn (N := n) (P := fun i => bl_Wx (bl_mi 131) 6 [(0, .ref 1), (1, .int (nI p)), (2, .int (nI b)), (3, .int (nI n)), (4, .int (sg (σ 110 p) (σ 112 p) (σ 104 b) (σ 106 b) i)), (5, .int (nI i))] [] (tkM σ p b i) (fun v τ => v = some (.int (sg (σ 110 p) (σ 112 p) (σ 104 b) (σ 106 b) n)) ∧ τ = tkM σ p b n)) ?_ ?_
  · rw [tkM_0] at key
    exact key
  · exact vc_X11_pickNow_6 _ _ _ _ _ _ ⟨fun c => absurd c (nI_nlt (Nat.le_refl n) hn), fun _ => ⟨rfl, rfl⟩⟩
  · intro i hi ih
    have c1 : ∀ d, d ≠ 106 → d ≠ 113 → d ≠ 114 → d ≠ 115 → tkM σ p b i d = σ d := fun d z1 z2 z3 z4 => by
      unfold tkM
      rw [bl_up_ne z4, bl_up_ne z3, bl_up_ne z2, bl_up_ne z1]
    have r106 : tkM σ p b i 106 b = hs (σ 110 p) (σ 112 p) (σ 104 b) (σ 106 b) i := by simp [tkM, bl_up]
    have r113 : tkM σ p b i 113 p = pcn (σ 110 p) (σ 112 p) (σ 104 b) (σ 111 p) (σ 106 b) (σ 1 3) (σ 113 p) i := by simp [tkM, bl_up]
    have r114 : tkM σ p b i 114 p = pe (σ 110 p) (σ 112 p) (σ 104 b) (σ 111 p) (σ 106 b) (σ 114 p) i := by simp [tkM, bl_up]
    have r115 : tkM σ p b i 115 p = kc (σ 104 b) (σ 115 p) i := by simp [tkM, bl_up]
    have hg := c_X11_handful (tkM σ p b i) hp hb
    rw [c1 110 (by omega) (by omega) (by omega) (by omega), c1 112 (by omega) (by omega) (by omega) (by omega), c1 104 (by omega) (by omega) (by omega) (by omega), r106] at hg
    refine vc_X11_pickNow_6 _ _ _ _ _ _ ⟨fun _ => ⟨_, _, hg, vip hp, _, _, c_X11_rest _ _ _, _, _, c_X11_atMost _ _ _, _, _, c_X11_atMost _ _ _, _, _, c_X11_handfulTakes _ hb, ?_⟩, fun c => absurd (nI_lt hi hn) c⟩
    simp only [ntp hp, ntb hb]
    rw [bl_up_c (show 111 ≠ 106 by decide), bl_up_c (show 113 ≠ 106 by decide), bl_up_c (show 1 ≠ 106 by decide), bl_up_c (show 114 ≠ 106 by decide), bl_up_c (show 104 ≠ 114 by decide), bl_up_c (show 104 ≠ 113 by decide), bl_up_c (show 104 ≠ 106 by decide), bl_up_c (show 115 ≠ 113 by decide), bl_up_c (show 115 ≠ 106 by decide)]
    rw [c1 111 (by omega) (by omega) (by omega) (by omega), c1 1 (by omega) (by omega) (by omega) (by omega), c1 104 (by omega) (by omega) (by omega) (by omega), r113, r114, r115, gn_rest, nI_1]
    have e1 : (if 999999 < pe (σ 110 p) (σ 112 p) (σ 104 b) (σ 111 p) (σ 106 b) (σ 114 p) i + hq (σ 110 p) (σ 112 p) (σ 104 b) (hs (σ 110 p) (σ 112 p) (σ 104 b) (σ 106 b) i) - gn (σ 110 p) (σ 112 p) (σ 104 b) (σ 111 p) (hs (σ 110 p) (σ 112 p) (σ 104 b) (σ 106 b) i) then 999999 else pe (σ 110 p) (σ 112 p) (σ 104 b) (σ 111 p) (σ 106 b) (σ 114 p) i + hq (σ 110 p) (σ 112 p) (σ 104 b) (hs (σ 110 p) (σ 112 p) (σ 104 b) (σ 106 b) i) - gn (σ 110 p) (σ 112 p) (σ 104 b) (σ 111 p) (hs (σ 110 p) (σ 112 p) (σ 104 b) (σ 106 b) i)) = pe (σ 110 p) (σ 112 p) (σ 104 b) (σ 111 p) (σ 106 b) (σ 114 p) (i + 1) := by
      unfold gn
      rw [ring2]
      rfl
    rw [e1]
    have e : bl_up (bl_up (bl_up (bl_up (tkM σ p b i) 106 b (hs (σ 110 p) (σ 112 p) (σ 104 b) (σ 106 b) i - hq (σ 110 p) (σ 112 p) (σ 104 b) (hs (σ 110 p) (σ 112 p) (σ 104 b) (σ 106 b) i))) 113 p (pcn (σ 110 p) (σ 112 p) (σ 104 b) (σ 111 p) (σ 106 b) (σ 1 3) (σ 113 p) (i + 1))) 114 p (pe (σ 110 p) (σ 112 p) (σ 104 b) (σ 111 p) (σ 106 b) (σ 114 p) (i + 1))) 115 p (kc (σ 104 b) (σ 115 p) (i + 1)) = tkM σ p b (i + 1) := tkM_over σ p b _ _ _ _ _ _ _ _
    have ih2 := ih
    rw [← e] at ih2
    exact ih2
