/-! AGAIN, and days of a tried bush: ripe after n days, as a row of three numbers -/
def d3 (rip so fa kd : Int32) (rn : Int32) (t : Int32 × Int32 × Int32) : Int32 × Int32 × Int32 := (dr1 (dm rip kd) t.1, dp (dm rip kd) so rn t.1 t.2.1, ds (dm rip kd) so fa rn t.1 t.2.1 t.2.2)
/-- behind n days, day i with rain rn i -/
def d3n (rip so fa kd : Int32) (rn : Nat → Int32) (t : Int32 × Int32 × Int32) : Nat → Int32 × Int32 × Int32
  | 0 => t
  | n + 1 => d3 rip so fa kd (rn n) (d3n rip so fa kd rn t n)
/-- the class's tried bush: cell 7 (or another trial cell) holds kind and the three -/
def T3 (c : Nat) (kd : Int32) (t : Int32 × Int32 × Int32) (s : bl_S) : Prop := s c 2 = kd ∧ s c 3 = t.1 ∧ s c 4 = t.2.1 ∧ s c 5 = t.2.2
theorem T3.day {c : Nat} {kd rip so fa rn : Int32} {t : Int32 × Int32 × Int32} {s : bl_S} (h : T3 c kd t s) : T3 c kd (d3 rip so fa kd rn t) (bl_day s c rip so fa rn) := by
  obtain ⟨h1, h2, h3, h4⟩ := h
  refine ⟨?_, ?_, ?_, ?_⟩
  · rw [bl_day_k, if_neg (by omega), if_neg (by omega), if_neg (by omega)]; exact h1
  · rw [bl_day_k, if_pos rfl, h1, h2]; rfl
  · rw [bl_day_k, if_neg (by omega), if_pos rfl, h1, h2, h3]; rfl
  · rw [bl_day_k, if_neg (by omega), if_neg (by omega), if_pos rfl, h1, h2, h3, h4]; rfl
/-- the reference's bush b, moved by days -/
def M3 (b : Nat) (t : Int32 × Int32 × Int32) (s : bl_S) : Prop := s 105 b = t.1 ∧ s 106 b = t.2.1 ∧ s 107 b = t.2.2
theorem M3.day {b : Nat} {rip so fa rn kd : Int32} {t : Int32 × Int32 × Int32} {s : bl_S} (hk : s 104 b = kd) (h : M3 b t s) : M3 b (d3 rip so fa kd rn t) (rpM rip so fa rn b s) := by
  obtain ⟨h1, h2, h3⟩ := h
  obtain ⟨q1, q2, q3⟩ := rpM_3 (rip := rip) (so := so) (fa := fa) (rn := rn) (b := b) (s := s)
  rw [hk, h1] at q1
  rw [hk, h1, h2] at q2
  rw [hk, h1, h2, h3] at q3
  exact ⟨q1, q2, q3⟩
theorem TM.day {b : Nat} {σ s : bl_S} {rip so fa rn : Int32} (h : TM b σ s) : TM b σ (rpM rip so fa rn b s) := by
  obtain ⟨h1, h2, h3, h4, h5⟩ := h
  exact ⟨fun d hd a1 a2 a3 => by rw [rpM_c (by omega)]; exact h1 d hd a1 a2 a3, fun d j hd hj => by rw [rpM_j hj]; exact h2 d j hd hj, by rw [rpM_c (by omega)]; exact h3, by rw [rpM_c (by omega)]; exact h4, by rw [rpM_c (by omega)]; exact h5⟩
theorem Fr.day {σ τ : bl_S} {c : Nat} {rip so fa rn : Int32} (h : Fr σ τ) (hc : bl_scr c = true) : Fr σ (bl_day τ c rip so fa rn) := fun d hd => by
  have : d ≠ c := fun e => by rw [e, hc] at hd; cases hd
  rw [bl_day_c this]
  exact h d hd
/-- best day and most ripe, of days 0 to n -/
def agF (r : Nat → Int32) : Nat → Int32 × Int32
  | 0 => (0, r 0)
  | n + 1 => ((if (agF r n).2 < r (n + 1) then nI (n + 1) else (agF r n).1), (if (agF r n).2 < r (n + 1) then r (n + 1) else (agF r n).2))
theorem pr_again {σ : bl_S} (h : Inv σ) (x y z : Int32) : Pr 85 157 [.int x, .int y, .int z] σ := by
  obtain ⟨nb, np, nt, a, b, c, hl, hb, hp, hz, ht, hs', hm'⟩ := id h
  have hn := hl.1
  have hn2 := hl.2.1
  by_cases f : wi x 0 (nI nb - 1) = 0
  · exact ⟨-1000000001, σ, σ, bl_c (Nat.le_of_ble_eq_true rfl) (vc_X10_again_0 σ x y z ⟨_, _, g69 hl x, fun _ => ⟨rfl, rfl⟩, fun q => absurd f q⟩), bl_c (Nat.le_of_ble_eq_true rfl) (vc_X11_again_0 σ x y z ⟨_, _, g103 hl x, fun _ => ⟨rfl, rfl⟩, fun q => absurd f q⟩), h⟩
  by_cases g : wi y 1 30 = 0
  · exact ⟨-1000000002, σ, σ, bl_c (Nat.le_of_ble_eq_true rfl) (vc_X10_again_0 σ x y z ⟨_, _, g69 hl x, fun q => absurd q f, fun _ => ⟨_, _, c_X10_within σ y 1 30, fun _ => ⟨rfl, rfl⟩, fun q => absurd g q⟩⟩), bl_c (Nat.le_of_ble_eq_true rfl) (vc_X11_again_0 σ x y z ⟨_, _, g103 hl x, fun q => absurd q f, fun _ => ⟨_, _, c_X11_in σ y 1 30 (by decide) (by decide), fun _ => ⟨rfl, rfl⟩, fun q => absurd g q⟩⟩), h⟩
  by_cases w : wi z 0 1 = 0
  · exact ⟨-1000000002, σ, σ, bl_c (Nat.le_of_ble_eq_true rfl) (vc_X10_again_0 σ x y z ⟨_, _, g69 hl x, fun q => absurd q f, fun _ => ⟨_, _, c_X10_within σ y 1 30, fun q => absurd q g, fun _ => ⟨_, _, c_X10_within σ z 0 1, fun _ => ⟨rfl, rfl⟩, fun q => absurd w q⟩⟩⟩), bl_c (Nat.le_of_ble_eq_true rfl) (vc_X11_again_0 σ x y z ⟨_, _, g103 hl x, fun q => absurd q f, fun _ => ⟨_, _, c_X11_in σ y 1 30 (by decide) (by decide), fun q => absurd q g, fun _ => ⟨_, _, c_X11_in σ z 0 1 (by decide) (by decide), fun _ => ⟨rfl, rfl⟩, fun q => absurd w q⟩⟩⟩), h⟩
  obtain ⟨j, hj, rfl⟩ := wi_n (by omega) f
  obtain ⟨n, n1, n2, rfl⟩ := wi_c (a := 1) (b := 30) (by omega) (by omega) g
  have j6 : j < 6 := by omega
  have rj := (hb j hj).1
  have l0 := hl.2.2.2.2.2.2.1 0 (by omega)
  have l1 := hl.2.2.2.2.2.2.1 1 (by omega)
  have l2 := hl.2.2.2.2.2.2.1 2 (by omega)
  have hL : Lw (σ 1 0) (σ 1 1) (σ 1 2) := by
    rcases hl.2.2.2.2.2.2.2.2.2.2.1 with q | q
    · exact q
    · omega
  have hLc : Lw (σ 11 0) (σ 11 1) (σ 11 2) := by rw [l0, l1, l2]; exact hL
  obtain ⟨rip, er⟩ : ∃ v, v = σ 11 0 := ⟨_, rfl⟩
  obtain ⟨so, es⟩ : ∃ v, v = σ 11 1 := ⟨_, rfl⟩
  obtain ⟨fa, ef⟩ : ∃ v, v = σ 11 2 := ⟨_, rfl⟩
  obtain ⟨kd, ek⟩ : ∃ v, v = σ (14 + j) 2 := ⟨_, rfl⟩
  obtain ⟨t0, e0⟩ : ∃ t : Int32 × Int32 × Int32, t = (σ (14 + j) 3, σ (14 + j) 4, σ (14 + j) 5) := ⟨_, rfl⟩
  rw [← er, ← es, ← ef] at hLc
  have D : ∀ m, (d3n rip so fa kd (fun _ => 0) t0 m).2.1 = (d3n rip so fa kd (fun _ => 0) t0 m).2.1 := fun _ => rfl
  obtain ⟨r, hr⟩ : ∃ r : Nat → Int32, ∀ m, r m = (d3n rip so fa kd (fun _ => 0) t0 m).2.1 := ⟨_, fun _ => rfl⟩
  -- the class
  have keyC : ∀ s, T3 7 kd (d3n rip so fa kd (fun _ => 0) t0 0) s → Fr σ s → ∃ τ, bl_Wx (bl_mi 85) 64 [(0, .ref 0), (1, .int (nI j)), (2, .int (nI n)), (3, .int z), (4, .int (agF r 0).1), (5, .int (agF r 0).2), (6, .int (nI (0 + 1)))] [] s (fun v t => v = some (.int (if z = 0 then (agF r n).1 else (agF r n).2)) ∧ t = τ) ∧ Fr σ τ := by
    refine bl_dn (N := n) (P := fun m => ∀ s, T3 7 kd (d3n rip so fa kd (fun _ => 0) t0 m) s → Fr σ s → ∃ τ, bl_Wx (bl_mi 85) 64 [(0, .ref 0), (1, .int (nI j)), (2, .int (nI n)), (3, .int z), (4, .int (agF r m).1), (5, .int (agF r m).2), (6, .int (nI (m + 1)))] [] s (fun v t => v = some (.int (if z = 0 then (agF r n).1 else (agF r n).2)) ∧ t = τ) ∧ Fr σ τ) ?_ ?_
    · intro s h3 hF
      exact ⟨s, vc_X10_again_64 _ _ _ _ _ _ _ ⟨fun _ v e => ⟨by rw [e], rfl⟩, fun q => absurd (nI_lt (by omega) (by omega)) q⟩, hF⟩
    · intro m hm ih s h3 hF
      have h11 : s 11 = σ 11 := hF 11 (by decide)
      have hc := c_X1_passDay s (b := 7) (w := 11) 0 rfl rfl (by rw [h11, ← er, ← es, ← ef]; exact hLc.told) (by rw [h11, ← er]; exact hLc.dmz _) (by rw [h11, ← es]; exact hLc.nz.2.1) (by rw [h11, ← ef]; exact hLc.nz.2.2)
      rw [h11, ← er, ← es, ← ef] at hc
      have h3' := h3.day (rip := rip) (so := so) (fa := fa) (rn := 0)
      have h3' : T3 7 kd (d3n rip so fa kd (fun _ => 0) t0 (m + 1)) (bl_day s 7 rip so fa 0) := h3'
      obtain ⟨τ, hW, hF2⟩ := ih _ h3' (hF.day (by decide))
      refine ⟨τ, vc_X10_again_64 _ _ _ _ _ _ _ ⟨fun q => absurd q (nI_nlt (by omega) (by omega)), fun _ => ⟨_, hc, fun v28 e28 v29 e29 => ?_⟩⟩, hF2⟩
      rw [h3'.2.2.1, ← hr] at e28 e29
      rw [e28, e29, nI_1]
      exact hW
  have hT0 : T3 7 kd (d3n rip so fa kd (fun _ => 0) t0 0) (bl_cp 6 σ 7 (14 + j)) := by
    show T3 7 kd t0 _
    rw [e0]
    exact ⟨by rw [bl_cp_s (by omega), ek], by rw [bl_cp_s (by omega)], by rw [bl_cp_s (by omega)], by rw [bl_cp_s (by omega)]⟩
  obtain ⟨τ, hW, hF⟩ := keyC _ hT0 (Fr.rf.cp (by decide))
  have r0 : r 0 = σ (14 + j) 4 := by rw [hr]; show t0.2.1 = _; rw [e0]
  have conC : bl_Con (bl_mi 85) [.ref 0, .int (nI j), .int (nI n), .int z] σ (some (.int (if z = 0 then (agF r n).1 else (agF r n).2))) τ := by
    refine bl_c (Nat.le_of_ble_eq_true rfl) (vc_X10_again_0 σ _ _ z ⟨_, _, g69 hl _, fun q => absurd q f, fun _ => ⟨_, _, c_X10_within σ _ 1 30, fun q => absurd q g, fun _ => ⟨_, _, c_X10_within σ z 0 1, fun q => absurd q w, fun _ => ⟨vib j6, ?_⟩⟩⟩⟩)
    rw [ntb j6]
    refine ⟨_, c_X1_copyFrom σ (a := 7) (b := 14 + j) rfl (kdb j j6), ?_⟩
    rw [bl_cp_s (by omega), ← r0]
    exact hW
  -- the reference
  have t1 : τ 1 = σ 1 := hF 1 (by decide)
  have hl2 : Jl nb np τ := hl.fr (hF 10 (by decide)) (hF 11 (by decide)) (fun k _ => by rw [t1])
  have keyM : ∀ s, M3 j (d3n rip so fa kd (fun _ => 0) t0 0) s → TM j σ s → ∃ υ, bl_Wx (bl_mi 157) 54 [(0, .ref 1), (1, .int (nI j)), (2, .int (nI n)), (3, .int z), (4, .int (agF r 0).1), (5, .int (agF r 0).2), (6, .int (nI (0 + 1)))] [] s (fun v t => v = some (.int (if z = 0 then (agF r n).1 else (agF r n).2)) ∧ t = υ) ∧ Fr σ υ := by
    refine bl_dn (N := n) (P := fun m => ∀ s, M3 j (d3n rip so fa kd (fun _ => 0) t0 m) s → TM j σ s → ∃ υ, bl_Wx (bl_mi 157) 54 [(0, .ref 1), (1, .int (nI j)), (2, .int (nI n)), (3, .int z), (4, .int (agF r m).1), (5, .int (agF r m).2), (6, .int (nI (m + 1)))] [] s (fun v t => v = some (.int (if z = 0 then (agF r n).1 else (agF r n).2)) ∧ t = υ) ∧ Fr σ υ) ?_ ?_
    · intro s h3 hT
      exact ⟨_, vc_X11_again_54 _ _ _ _ _ _ _ ⟨fun _ => ⟨_, c_X11_putBack s j6, fun v e => ⟨by rw [e], rfl⟩⟩, fun q => absurd (nI_lt (by omega) (by omega)) q⟩, hT.back⟩
    · intro m hm ih s h3 hT
      have h1 : s 1 = σ 1 := hT.1 1 (by decide) (by omega) (by omega) (by omega)
      have h104 : s 104 j = kd := by rw [hT.1 104 (by decide) (by omega) (by omega) (by omega), ek]; exact (rj 2 (by omega)).symm
      have hc := c_X11_ripen s (b := j) 0 j6 (by rw [h1]; exact hL)
      rw [h1, ← l0, ← l1, ← l2, ← er, ← es, ← ef] at hc
      have h3' := h3.day (rip := rip) (so := so) (fa := fa) (rn := 0) h104
      have h3' : M3 j (d3n rip so fa kd (fun _ => 0) t0 (m + 1)) (rpM rip so fa 0 j s) := h3'
      obtain ⟨υ, hW, hF2⟩ := ih _ h3' hT.day
      refine ⟨υ, vc_X11_again_54 _ _ _ _ _ _ _ ⟨fun q => absurd q (nI_nlt (by omega) (by omega)), fun _ => ⟨_, hc, vib j6, fun v31 e31 v34 e34 => ?_⟩⟩, hF2⟩
      rw [ntb j6, h3'.2.1, ← hr] at e31 e34
      rw [e31, e34, nI_1]
      exact hW
  have hM0 : M3 j (d3n rip so fa kd (fun _ => 0) t0 0) (svM nb τ) := by
    show M3 j t0 _
    rw [e0]
    refine ⟨?_, ?_, ?_⟩
    · rw [svM_c (by omega), hF 105 (by decide)]; exact (rj 3 (by omega)).symm
    · rw [svM_c (by omega), hF 106 (by decide)]; exact (rj 4 (by omega)).symm
    · rw [svM_c (by omega), hF 107 (by decide)]; exact (rj 5 (by omega)).symm
  obtain ⟨υ, hWm, hFm⟩ := keyM _ hM0 (TM.fr hF (TM.save hj))
  refine ⟨_, τ, υ, conC, bl_c (Nat.le_of_ble_eq_true rfl) (vc_X11_again_0 _ _ _ z ⟨_, _, g103 hl2 _, fun q => absurd q f, fun _ => ⟨_, _, c_X11_in _ _ 1 30 (by decide) (by decide), fun q => absurd q g, fun _ => ⟨_, _, c_X11_in _ z 0 1 (by decide) (by decide), fun q => absurd q w, fun _ => ⟨_, c_X11_save _ hn (by rw [t1]; exact hl.2.2.2.1), vib j6, ?_⟩⟩⟩⟩), h.fr hFm⟩
  rw [ntb j6, hM0.2.1]
  have : (d3n rip so fa kd (fun _ => 0) t0 0).2.1 = r 0 := (hr 0).symm
  rw [this]
  exact hWm
