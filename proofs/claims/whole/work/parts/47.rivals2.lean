/-! RIVALS: the pair -/
theorem rivalM {σ : bl_S} {nb np p1 p2 n X Y : Nat} (hl : Jl nb np σ) (h1 : p1 < 4) (h2 : p2 < 4) (hX : X < nb) (hY : Y < nb) (hn31 : n < 2 ^ 31) (f : Int32) {s : bl_S} (hT : TA nb σ s) (hF : Fr σ s) :
    ∃ τ, (TA nb σ τ ∧ Fr σ τ) ∧ bl_Con (bl_mi 154) [.ref 1, .int (nI p1), .int (nI X), .int (nI p2), .int (nI Y), .int (nI n), .int f] s (some (.int (if X = Y then (if f = 0 then (sh2 (σ 110 p1) (σ 112 p1) (σ 111 p1) (σ 110 p2) (σ 112 p2) (σ 111 p2) (σ 104 X) (σ 106 X) n).2.2 else (sh2 (σ 110 p1) (σ 112 p1) (σ 111 p1) (σ 110 p2) (σ 112 p2) (σ 111 p2) (σ 104 X) (σ 106 X) n).2.1) else (if f = 0 then gs (σ 110 p2) (σ 112 p2) (σ 104 Y) (σ 111 p2) (σ 106 Y) n else gs (σ 110 p1) (σ 112 p1) (σ 104 X) (σ 111 p1) (σ 106 X) n)))) τ := by
  have hn := hl.1
  have x6 : X < 6 := by omega
  have y6 : Y < 6 := by omega
  have e1 : ∀ s, TA nb σ s → s 1 4 = nI nb := fun s hT => by rw [hT.at 1 (by decide) (by omega)]; exact hl.2.2.2.1
  -- one turn of both, from ripe rx at X to r1, then ry at Y to r2
  have step : ∀ (m : Nat) (acc : Int32) (s : bl_S) (r : Int32), m < n → TA nb σ s →
      (∃ r1 ry r2 g1 g2 : Int32, g1 = gn (σ 110 p1) (σ 112 p1) (σ 104 X) (σ 111 p1) (s 106 X) ∧ r1 = s 106 X - hq (σ 110 p1) (σ 112 p1) (σ 104 X) (s 106 X) ∧ ry = (bl_up s 106 X r1) 106 Y ∧ g2 = gn (σ 110 p2) (σ 112 p2) (σ 104 Y) (σ 111 p2) ry ∧ r2 = ry - hq (σ 110 p2) (σ 112 p2) (σ 104 Y) ry ∧ Ev (bl_mi 154) 6 [(0, .ref 1), (1, .int (nI p1)), (2, .int (nI X)), (3, .int (nI p2)), (4, .int (nI Y)), (5, .int (nI n)), (6, .int f), (7, .int (acc + (if f = 0 then g2 else g1))), (8, .int (nI (m + 1)))] (bl_up (bl_up s 106 X r1) 106 Y r2) r (fun τ => TA nb σ τ ∧ Fr σ τ)) →
      Ev (bl_mi 154) 6 [(0, .ref 1), (1, .int (nI p1)), (2, .int (nI X)), (3, .int (nI p2)), (4, .int (nI Y)), (5, .int (nI n)), (6, .int f), (7, .int acc), (8, .int (nI m))] s r (fun τ => TA nb σ τ ∧ Fr σ τ) := by
    rintro m acc s r hm hT ⟨r1, ry, r2, g1, g2, eg1, er1, ery, eg2, er2, τ, hP, hW⟩
    have c1 := c_X11_handful s h1 x6
    rw [hT.at 110 (by decide) (by omega), hT.at 112 (by decide) (by omega), hT.at 104 (by decide) (by omega), ← er1] at c1
    have hT1 : TA nb σ (bl_up s 106 X r1) := hT.ripe hX
    have d1 := c_X11_rest (bl_up s 106 X r1) (hq (σ 110 p1) (σ 112 p1) (σ 104 X) (s 106 X)) (σ 111 p1)
    rw [gn_rest, ← eg1] at d1
    have c2 := c_X11_handful (bl_up s 106 X r1) h2 y6
    rw [hT1.at 110 (by decide) (by omega), hT1.at 112 (by decide) (by omega), hT1.at 104 (by decide) (by omega), ← ery, ← er2] at c2
    have hT2 : TA nb σ (bl_up (bl_up s 106 X r1) 106 Y r2) := hT1.ripe hY
    have d2 := c_X11_rest (bl_up (bl_up s 106 X r1) 106 Y r2) (hq (σ 110 p2) (σ 112 p2) (σ 104 Y) ry) (σ 111 p2)
    rw [gn_rest, ← eg2] at d2
    refine ⟨τ, hP, vc_X11_rivalHas_6 _ _ _ _ _ _ _ _ _ ⟨fun _ => ⟨_, _, c1, vip h1, ?_⟩, fun q => absurd (nI_lt hm hn31) q⟩⟩
    rw [ntp h1, ntp h2, hT1.at 111 (by decide) (by omega)]
    refine ⟨_, _, d1, _, _, c2, vip h2, ?_⟩
    rw [hT2.at 111 (by decide) (by omega)]
    refine ⟨_, _, d2, fun v e => ?_⟩
    rw [e, nI_1]
    exact hW
  have endp : ∀ (acc : Int32) (s : bl_S), TA nb σ s → Ev (bl_mi 154) 6 [(0, .ref 1), (1, .int (nI p1)), (2, .int (nI X)), (3, .int (nI p2)), (4, .int (nI Y)), (5, .int (nI n)), (6, .int f), (7, .int acc), (8, .int (nI n))] s acc (fun τ => TA nb σ τ ∧ Fr σ τ) := by
    intro acc s hT
    exact ⟨_, ⟨hT.pa, hT.back⟩, vc_X11_rivalHas_6 _ _ _ _ _ _ _ _ _ ⟨fun q => absurd q (nI_nlt (Nat.le_refl _) hn31), fun _ => ⟨_, c_X11_putAllBack s hn (e1 s hT), rfl, rfl⟩⟩⟩
  by_cases q : X = Y
  · rw [if_pos q]
    obtain ⟨F, hFF⟩ : ∃ F : Nat → I3, ∀ m, F m = sh2 (σ 110 p1) (σ 112 p1) (σ 111 p1) (σ 110 p2) (σ 112 p2) (σ 111 p2) (σ 104 X) (σ 106 X) m := ⟨_, fun _ => rfl⟩
    have hF1 : ∀ m, F (m + 1) = ((F m).1 - hq (σ 110 p1) (σ 112 p1) (σ 104 X) (F m).1 - hq (σ 110 p2) (σ 112 p2) (σ 104 X) ((F m).1 - hq (σ 110 p1) (σ 112 p1) (σ 104 X) (F m).1), (F m).2.1 + gn (σ 110 p1) (σ 112 p1) (σ 104 X) (σ 111 p1) (F m).1, (F m).2.2 + gn (σ 110 p2) (σ 112 p2) (σ 104 X) (σ 111 p2) ((F m).1 - hq (σ 110 p1) (σ 112 p1) (σ 104 X) (F m).1)) := fun m => by rw [hFF, hFF]; rfl
    rw [← hFF]
    have key : ∀ s, TA nb σ s → s 106 X = (F 0).1 → Ev (bl_mi 154) 6 [(0, .ref 1), (1, .int (nI p1)), (2, .int (nI X)), (3, .int (nI p2)), (4, .int (nI Y)), (5, .int (nI n)), (6, .int f), (7, .int (if f = 0 then (F 0).2.2 else (F 0).2.1)), (8, .int (nI 0))] s (if f = 0 then (F n).2.2 else (F n).2.1) (fun τ => TA nb σ τ ∧ Fr σ τ) := by
      refine bl_dn (N := n) (P := fun m => ∀ s, TA nb σ s → s 106 X = (F m).1 → Ev (bl_mi 154) 6 [(0, .ref 1), (1, .int (nI p1)), (2, .int (nI X)), (3, .int (nI p2)), (4, .int (nI Y)), (5, .int (nI n)), (6, .int f), (7, .int (if f = 0 then (F m).2.2 else (F m).2.1)), (8, .int (nI m))] s (if f = 0 then (F n).2.2 else (F n).2.1) (fun τ => TA nb σ τ ∧ Fr σ τ)) ?_ ?_
      · intro s hT _
        exact endp _ s hT
      · intro m hm ih s hT hr
        refine step m _ s _ hm hT ⟨_, _, _, _, _, rfl, rfl, rfl, rfl, rfl, ?_⟩
        rw [← q, bl_up_s, hr]
        have e : (if f = 0 then (F m).2.2 else (F m).2.1) + (if f = 0 then gn (σ 110 p2) (σ 112 p2) (σ 104 X) (σ 111 p2) ((F m).1 - hq (σ 110 p1) (σ 112 p1) (σ 104 X) (F m).1) else gn (σ 110 p1) (σ 112 p1) (σ 104 X) (σ 111 p1) (F m).1) = if f = 0 then (F (m + 1)).2.2 else (F (m + 1)).2.1 := by
          rw [hF1 m]
          by_cases z : f = 0
          · rw [if_pos z, if_pos z, if_pos z]
          · rw [if_neg z, if_neg z, if_neg z]
        rw [e]
        have := ih (bl_up (bl_up s 106 X ((F m).1 - hq (σ 110 p1) (σ 112 p1) (σ 104 X) (F m).1)) 106 X ((F m).1 - hq (σ 110 p1) (σ 112 p1) (σ 104 X) (F m).1 - hq (σ 110 p2) (σ 112 p2) (σ 104 X) ((F m).1 - hq (σ 110 p1) (σ 112 p1) (σ 104 X) (F m).1))) ((hT.ripe hX).ripe hX) (by rw [bl_up_s, hF1 m])
        rw [← q] at this
        exact this
    obtain ⟨τ, hP, hW⟩ := key s hT (by rw [hF 106 (by decide), hFF]; rfl)
    have e0 : (if f = 0 then (F 0).2.2 else (F 0).2.1) = 0 := by rw [hFF]; exact ite_self _
    rw [e0] at hW
    exact ⟨τ, hP, bl_c (Nat.le_of_ble_eq_true rfl) (vc_X11_rivalHas_0 s _ _ _ _ _ _ hW)⟩
  · rw [if_neg q]
    have key : ∀ s, TA nb σ s → s 106 X = hs (σ 110 p1) (σ 112 p1) (σ 104 X) (σ 106 X) 0 → s 106 Y = hs (σ 110 p2) (σ 112 p2) (σ 104 Y) (σ 106 Y) 0 → Ev (bl_mi 154) 6 [(0, .ref 1), (1, .int (nI p1)), (2, .int (nI X)), (3, .int (nI p2)), (4, .int (nI Y)), (5, .int (nI n)), (6, .int f), (7, .int (if f = 0 then gs (σ 110 p2) (σ 112 p2) (σ 104 Y) (σ 111 p2) (σ 106 Y) 0 else gs (σ 110 p1) (σ 112 p1) (σ 104 X) (σ 111 p1) (σ 106 X) 0)), (8, .int (nI 0))] s (if f = 0 then gs (σ 110 p2) (σ 112 p2) (σ 104 Y) (σ 111 p2) (σ 106 Y) n else gs (σ 110 p1) (σ 112 p1) (σ 104 X) (σ 111 p1) (σ 106 X) n) (fun τ => TA nb σ τ ∧ Fr σ τ) := by
      refine bl_dn (N := n) (P := fun m => ∀ s, TA nb σ s → s 106 X = hs (σ 110 p1) (σ 112 p1) (σ 104 X) (σ 106 X) m → s 106 Y = hs (σ 110 p2) (σ 112 p2) (σ 104 Y) (σ 106 Y) m → Ev (bl_mi 154) 6 [(0, .ref 1), (1, .int (nI p1)), (2, .int (nI X)), (3, .int (nI p2)), (4, .int (nI Y)), (5, .int (nI n)), (6, .int f), (7, .int (if f = 0 then gs (σ 110 p2) (σ 112 p2) (σ 104 Y) (σ 111 p2) (σ 106 Y) m else gs (σ 110 p1) (σ 112 p1) (σ 104 X) (σ 111 p1) (σ 106 X) m)), (8, .int (nI m))] s (if f = 0 then gs (σ 110 p2) (σ 112 p2) (σ 104 Y) (σ 111 p2) (σ 106 Y) n else gs (σ 110 p1) (σ 112 p1) (σ 104 X) (σ 111 p1) (σ 106 X) n) (fun τ => TA nb σ τ ∧ Fr σ τ)) ?_ ?_
      · intro s hT _ _
        exact endp _ s hT
      · intro m hm ih s hT hr hr2
        refine step m _ s _ hm hT ⟨_, _, _, _, _, rfl, rfl, rfl, rfl, rfl, ?_⟩
        rw [bl_up_j (show Y ≠ X from fun z => q z.symm), hr, hr2]
        have e : (if f = 0 then gs (σ 110 p2) (σ 112 p2) (σ 104 Y) (σ 111 p2) (σ 106 Y) m else gs (σ 110 p1) (σ 112 p1) (σ 104 X) (σ 111 p1) (σ 106 X) m) + (if f = 0 then gn (σ 110 p2) (σ 112 p2) (σ 104 Y) (σ 111 p2) (hs (σ 110 p2) (σ 112 p2) (σ 104 Y) (σ 106 Y) m) else gn (σ 110 p1) (σ 112 p1) (σ 104 X) (σ 111 p1) (hs (σ 110 p1) (σ 112 p1) (σ 104 X) (σ 106 X) m)) = if f = 0 then gs (σ 110 p2) (σ 112 p2) (σ 104 Y) (σ 111 p2) (σ 106 Y) (m + 1) else gs (σ 110 p1) (σ 112 p1) (σ 104 X) (σ 111 p1) (σ 106 X) (m + 1) := by
          by_cases z : f = 0
          · rw [if_pos z, if_pos z, if_pos z]; rfl
          · rw [if_neg z, if_neg z, if_neg z]; rfl
        rw [e]
        refine ih _ ((hT.ripe hX).ripe hY) ?_ ?_
        · rw [bl_up_j q, bl_up_s]; rfl
        · rw [bl_up_s]; rfl
    obtain ⟨τ, hP, hW⟩ := key s hT (by rw [hF 106 (by decide)]; rfl) (by rw [hF 106 (by decide)]; rfl)
    have e0 : (if f = 0 then gs (σ 110 p2) (σ 112 p2) (σ 104 Y) (σ 111 p2) (σ 106 Y) 0 else gs (σ 110 p1) (σ 112 p1) (σ 104 X) (σ 111 p1) (σ 106 X) 0) = 0 := ite_self _
    rw [e0] at hW
    exact ⟨τ, hP, bl_c (Nat.le_of_ble_eq_true rfl) (vc_X11_rivalHas_0 s _ _ _ _ _ _ hW)⟩
/-- what one has at bush c while the other one stays at bush o -/
def rvV (σ : bl_S) (p1 p2 n : Nat) (f : Int32) (o c : Nat) : Int32 := if c = o then (if f = 0 then (sh2 (σ 110 p1) (σ 112 p1) (σ 111 p1) (σ 110 p2) (σ 112 p2) (σ 111 p2) (σ 104 c) (σ 106 c) n).2.2 else (sh2 (σ 110 p1) (σ 112 p1) (σ 111 p1) (σ 110 p2) (σ 112 p2) (σ 111 p2) (σ 104 c) (σ 106 c) n).2.1) else (if f = 0 then gs (σ 110 p2) (σ 112 p2) (σ 104 c) (σ 111 p2) (σ 106 c) n else gs (σ 110 p1) (σ 112 p1) (σ 104 c) (σ 111 p1) (σ 106 c) n)
theorem rvV_pos {σ : bl_S} {nb np p1 p2 n o c : Nat} (hb : Jb nb σ) (hp : Jp np σ) (h1 : p1 < np) (h2 : p2 < np) (hc : c < nb) (hn : n ≤ 20) (f : Int32) : (-1 : Int32) < rvV σ p1 p2 n f o c := by
  obtain ⟨-, y, s, kd, rd, rp, sf, -, -, a3, a4, -, -, b3, -, b5, -⟩ := hb c hc
  obtain ⟨-, y1, s1, q1, e1, i1, -, -, c3, c4, c5, c6, -, -, d3, d4, d5⟩ := hp p1 h1
  obtain ⟨-, y2, s2, q2, e2, i2, -, -, f3, f4, f5, f6, -, -, g3, g4, g5⟩ := hp p2 h2
  unfold rvV
  rw [b3, b5, d3, d4, d5, g3, g4, g5]
  obtain ⟨r, u, v, -, l1, l2, e⟩ := sh2_N (qa := q1) (ha := i1) (aa := e1) (qb := q2) (hb := i2) (ab := e2) (kd := kd) (rp := rp) (by omega) (by omega) (by omega) (by omega) (by omega) (by omega) (by omega) (by omega) n
  have m1 := gsN_le q1 i1 kd e1 rp n
  have m2 := gsN_le q2 i2 kd e2 rp n
  have m3 : q1 * n ≤ 20 * n := Nat.mul_le_mul_right _ c4
  have m4 : q2 * n ≤ 20 * n := Nat.mul_le_mul_right _ f4
  rw [e, gsN_eq (by omega) (by omega) (by omega) (by omega) (by omega), gsN_eq (by omega) (by omega) (by omega) (by omega) (by omega)]
  split
  · split
    · exact neg1_lt (by omega)
    · exact neg1_lt (by omega)
  · split
    · exact neg1_lt (by omega)
    · exact neg1_lt (by omega)
theorem bestM {σ : bl_S} {nb np p1 p2 n A B o : Nat} (hl : Jl nb np σ) (hb : Jb nb σ) (hp : Jp np σ) (h1 : p1 < np) (h2 : p2 < np) (hA : A < nb) (hB : B < nb) (hn20 : n ≤ 20) (f : Int32) (ho : o = if f = 0 then A else B) {s : bl_S} (hT : TA nb σ s) (hF : Fr σ s) :
    ∃ τ, (TA nb σ τ ∧ Fr σ τ) ∧ bl_Con (bl_mi 155) [.ref 1, .int (nI p1), .int (nI A), .int (nI p2), .int (nI B), .int (nI n), .int f] s (some (.int (amF (rvV σ p1 p2 n f o) (nb - 1)).1)) τ := by
  have hn := hl.1
  have hn2 := hl.2.1
  have key : ∀ (ch mo : Int32) (s : bl_S), (TA nb σ s ∧ Fr σ s) → (0 = 0 → mo = -1) → (1 ≤ 0 → (ch, mo) = amF (rvV σ p1 p2 n f o) (0 - 1)) → Ev (bl_mi 155) 9 [(0, .ref 1), (1, .int (nI p1)), (2, .int (nI A)), (3, .int (nI p2)), (4, .int (nI B)), (5, .int (nI n)), (6, .int f), (7, .int ch), (8, .int mo), (9, .int (nI 0))] s (amF (rvV σ p1 p2 n f o) (nb - 1)).1 (fun τ => TA nb σ τ ∧ Fr σ τ) := by
    refine bl_dn (N := nb) (P := fun m => ∀ (ch mo : Int32) (s : bl_S), (TA nb σ s ∧ Fr σ s) → (m = 0 → mo = -1) → (1 ≤ m → (ch, mo) = amF (rvV σ p1 p2 n f o) (m - 1)) → Ev (bl_mi 155) 9 [(0, .ref 1), (1, .int (nI p1)), (2, .int (nI A)), (3, .int (nI p2)), (4, .int (nI B)), (5, .int (nI n)), (6, .int f), (7, .int ch), (8, .int mo), (9, .int (nI m))] s (amF (rvV σ p1 p2 n f o) (nb - 1)).1 (fun τ => TA nb σ τ ∧ Fr σ τ)) ?_ ?_
    · intro ch mo s hG _ ham
      have e := ham (by omega)
      refine ⟨s, hG, vc_X11_bestAgainst_9 _ _ _ _ _ _ _ _ _ _ ⟨fun q => absurd q ?_, fun _ => ⟨by rw [← e], rfl⟩⟩⟩
      rw [hG.2 1 (by decide), hl.2.2.2.1]
      exact nI_nlt (Nat.le_refl _) (by omega)
    · intro m hm ih ch mo s hG h0 ham
      have hX : (if f = 0 then A else m) < nb := by split <;> omega
      have hY : (if f = 0 then m else B) < nb := by split <;> omega
      obtain ⟨τ1, hG1, hC⟩ := rivalM hl (p1 := p1) (p2 := p2) (n := n) (X := if f = 0 then A else m) (Y := if f = 0 then m else B) (by omega) (by omega) hX hY (by omega) f hG.1 hG.2
      have eV : (if (if f = 0 then A else m) = (if f = 0 then m else B) then (if f = 0 then (sh2 (σ 110 p1) (σ 112 p1) (σ 111 p1) (σ 110 p2) (σ 112 p2) (σ 111 p2) (σ 104 (if f = 0 then A else m)) (σ 106 (if f = 0 then A else m)) n).2.2 else (sh2 (σ 110 p1) (σ 112 p1) (σ 111 p1) (σ 110 p2) (σ 112 p2) (σ 111 p2) (σ 104 (if f = 0 then A else m)) (σ 106 (if f = 0 then A else m)) n).2.1) else (if f = 0 then gs (σ 110 p2) (σ 112 p2) (σ 104 (if f = 0 then m else B)) (σ 111 p2) (σ 106 (if f = 0 then m else B)) n else gs (σ 110 p1) (σ 112 p1) (σ 104 (if f = 0 then A else m)) (σ 111 p1) (σ 106 (if f = 0 then A else m)) n)) = rvV σ p1 p2 n f o m := by
        unfold rvV
        by_cases z : f = 0
        · rw [if_pos z] at ho
          simp only [if_pos z]
          by_cases q : A = m
          · rw [if_pos q, if_pos (by omega), q]
          · rw [if_neg q, if_neg (by omega)]
        · rw [if_neg z] at ho
          simp only [if_neg z]
          by_cases q : m = B
          · rw [if_pos q, if_pos (by omega)]
          · rw [if_neg q, if_neg (by omega)]
      rw [eV] at hC
      obtain ⟨ch', hch⟩ : ∃ x : Int32, x = if mo < rvV σ p1 p2 n f o m then nI m else ch := ⟨_, rfl⟩
      obtain ⟨mo', hmo⟩ : ∃ x : Int32, x = if mo < rvV σ p1 p2 n f o m then rvV σ p1 p2 n f o m else mo := ⟨_, rfl⟩
      have hnext : (ch', mo') = amF (rvV σ p1 p2 n f o) m := by
        cases m with
        | zero =>
          have hv : mo < rvV σ p1 p2 n f o 0 := by rw [h0 rfl]; exact rvV_pos hb hp h1 h2 hm hn20 f
          rw [hch, hmo, if_pos hv, if_pos hv]
          rfl
        | succ k =>
          have e := ham (by omega)
          have e : (ch, mo) = amF (rvV σ p1 p2 n f o) k := e
          rw [hch, hmo]
          show _ = ((if (amF (rvV σ p1 p2 n f o) k).2 < rvV σ p1 p2 n f o (k + 1) then nI (k + 1) else (amF (rvV σ p1 p2 n f o) k).1), (if (amF (rvV σ p1 p2 n f o) k).2 < rvV σ p1 p2 n f o (k + 1) then rvV σ p1 p2 n f o (k + 1) else (amF (rvV σ p1 p2 n f o) k).2))
          rw [← e]
      obtain ⟨τ, hP, hW⟩ := ih ch' mo' τ1 hG1 (fun z => by omega) (fun _ => hnext)
      refine ⟨τ, hP, vc_X11_bestAgainst_9 _ _ _ _ _ _ _ _ _ _ ⟨fun _ v3 e3 v6 e6 => ?_, fun q => absurd ?_ q⟩⟩
      · have e3 : v3 = nI (if f = 0 then A else m) := by rw [e3]; split <;> rfl
        have e6 : v6 = nI (if f = 0 then m else B) := by rw [e6]; split <;> rfl
        rw [e3, e6]
        refine ⟨_, _, hC, fun v13 e13 v16 e16 => ?_⟩
        rw [e13, e16, nI_1, ← hch, ← hmo]
        exact hW
      · rw [hG.2 1 (by decide), hl.2.2.2.1]
        exact nI_lt hm (by omega)
  obtain ⟨τ, hP, hW⟩ := key 0 (-1) s ⟨hT, hF⟩ (fun _ => rfl) (fun z => by omega)
  exact ⟨τ, hP, bl_c (Nat.le_of_ble_eq_true rfl) (vc_X11_bestAgainst_0 s _ _ _ _ _ _ hW)⟩
theorem turnC {σ : bl_S} {nb np p1 p2 n A B o : Nat} (hl : Jl nb np σ) (hb : Jb nb σ) (hp : Jp np σ) (h1 : p1 < np) (h2 : p2 < np) (hA : A < nb) (hB : B < nb) (hn20 : n ≤ 20) (f : Int32) (ho : o = if f = 0 then A else B) {s : bl_S} (hF : Fr σ s) (hs1 : s 5 1 = nI A) (hs2 : s 5 2 = nI B) :
    ∃ τ, (Fr σ τ ∧ τ 5 = (if f = 0 then bl_up s 5 2 (amF (rvV σ p1 p2 n f o) (nb - 1)).1 else bl_up s 5 1 (amF (rvV σ p1 p2 n f o) (nb - 1)).1) 5) ∧ bl_Con (bl_mi 20) [.ref 5, .ref 10, .int (nI p1), .int (nI p2), .int (nI n), .int f] s (some (.int (if (amF (rvV σ p1 p2 n f o) (nb - 1)).1 = (if f = 0 then nI B else nI A) then 0 else 1))) τ := by
  have hn := hl.1
  have hn2 := hl.2.1
  have r1 := (hp p1 h1).1
  have r2 := (hp p2 h2).1
  obtain ⟨bf, ebf⟩ : ∃ x : Int32, x = if f = 0 then nI B else nI A := ⟨_, rfl⟩
  have key : ∀ (ch mo : Int32) (t : bl_S), (Fr σ t ∧ t 5 = s 5) → (0 = 0 → mo = -1) → (1 ≤ 0 → (ch, mo) = amF (rvV σ p1 p2 n f o) (0 - 1)) → Ev (bl_mi 20) 28 [(0, .ref 5), (1, .ref 10), (2, .int (nI p1)), (3, .int (nI p2)), (4, .int (nI n)), (5, .int f), (6, .int bf), (7, .int ch), (8, .int mo), (9, .int (nI 0))] t (if (amF (rvV σ p1 p2 n f o) (nb - 1)).1 = bf then 0 else 1) (fun τ => Fr σ τ ∧ τ 5 = (if f = 0 then bl_up s 5 2 (amF (rvV σ p1 p2 n f o) (nb - 1)).1 else bl_up s 5 1 (amF (rvV σ p1 p2 n f o) (nb - 1)).1) 5) := by
    refine bl_dn (N := nb) (P := fun m => ∀ (ch mo : Int32) (t : bl_S), (Fr σ t ∧ t 5 = s 5) → (m = 0 → mo = -1) → (1 ≤ m → (ch, mo) = amF (rvV σ p1 p2 n f o) (m - 1)) → Ev (bl_mi 20) 28 [(0, .ref 5), (1, .ref 10), (2, .int (nI p1)), (3, .int (nI p2)), (4, .int (nI n)), (5, .int f), (6, .int bf), (7, .int ch), (8, .int mo), (9, .int (nI m))] t (if (amF (rvV σ p1 p2 n f o) (nb - 1)).1 = bf then 0 else 1) (fun τ => Fr σ τ ∧ τ 5 = (if f = 0 then bl_up s 5 2 (amF (rvV σ p1 p2 n f o) (nb - 1)).1 else bl_up s 5 1 (amF (rvV σ p1 p2 n f o) (nb - 1)).1) 5)) ?_ ?_
    · intro ch mo t hG _ ham
      have e := ham (by omega)
      refine ⟨(if f = 0 then bl_up t 5 2 ch else bl_up t 5 1 ch), ⟨?_, ?_⟩, vc_X2_takeTurn_28 _ _ _ _ _ _ _ _ _ _ rfl ⟨fun q => absurd q ?_, fun _ σ43 e43 v e46 => ⟨?_, ?_, e43⟩⟩⟩
      · split
        · exact hG.1.up (by decide)
        · exact hG.1.up (by decide)
      · rw [← e]
        split
        · rw [bl_up_eq, bl_up_eq, hG.2]
        · rw [bl_up_eq, bl_up_eq, hG.2]
      · rw [hG.1 10 (by decide), hl.2.2.1]
        exact nI_nlt (Nat.le_refl _) (by omega)
      · rw [e46]; split <;> first | exact Or.inl rfl | exact Or.inr rfl
      · rw [e46, ← e]
    · intro m hm ih ch mo t hG h0 ham
      have m6 : m < 6 := by omega
      have rj := (hb m hm).1
      obtain ⟨ch', hch⟩ : ∃ x : Int32, x = if mo < rvV σ p1 p2 n f o m then nI m else ch := ⟨_, rfl⟩
      obtain ⟨mo', hmo⟩ : ∃ x : Int32, x = if mo < rvV σ p1 p2 n f o m then rvV σ p1 p2 n f o m else mo := ⟨_, rfl⟩
      have hnext : (ch', mo') = amF (rvV σ p1 p2 n f o) m := by
        cases m with
        | zero =>
          have hv : mo < rvV σ p1 p2 n f o 0 := by rw [h0 rfl]; exact rvV_pos hb hp h1 h2 hm hn20 f
          rw [hch, hmo, if_pos hv, if_pos hv]
          rfl
        | succ k =>
          have e := ham (by omega)
          have e : (ch, mo) = amF (rvV σ p1 p2 n f o) k := e
          rw [hch, hmo]
          show _ = ((if (amF (rvV σ p1 p2 n f o) k).2 < rvV σ p1 p2 n f o (k + 1) then nI (k + 1) else (amF (rvV σ p1 p2 n f o) k).1), (if (amF (rvV σ p1 p2 n f o) k).2 < rvV σ p1 p2 n f o (k + 1) then rvV σ p1 p2 n f o (k + 1) else (amF (rvV σ p1 p2 n f o) k).2))
          rw [← e]
      have hcp : ∀ d, d ≠ 82 → bl_cp 6 t 82 (14 + m) d = t d := fun d hd => bl_cp_c hd
      have hcopy := c_X1_copyFrom t (a := 82) (b := 14 + m) rfl (kdb m m6)
      have hlt : nI m < t 10 3 := by
        rw [hG.1 10 (by decide), hl.2.2.1]
        exact nI_lt hm (by omega)
      have e2 : bl_cp 6 t 82 (14 + m) 82 2 = σ 104 m := by rw [bl_cp_s (by omega), hG.1 (14 + m) (sc14 m6)]; exact rj 2 (by omega)
      have e4 : bl_cp 6 t 82 (14 + m) 82 4 = σ 106 m := by rw [bl_cp_s (by omega), hG.1 (14 + m) (sc14 m6)]; exact rj 4 (by omega)
      have ec1 : bl_cp 6 t 82 (14 + m) (20 + p1) = σ (20 + p1) := by rw [hcp (20 + p1) (by omega)]; exact hG.1 _ (sc20 (by omega))
      have ec2 : bl_cp 6 t 82 (14 + m) (20 + p2) = σ (20 + p2) := by rw [hcp (20 + p2) (by omega)]; exact hG.1 _ (sc20 (by omega))
      have ho7 : ∀ v7 : Int32, v7 = (if f = 0 then t 5 1 else t 5 2) → v7 = nI o := by
        intro v7 e
        rw [e, hG.2, hs1, hs2, ho]
        split <;> rfl
      by_cases q : m = o
      · have hsh := c_X2_shareOf (bl_cp 6 t 82 (14 + m)) (r1 := 20 + p1) (r2 := 20 + p2) (n := n) f (kdp p1 (by omega)) (kdp p2 (by omega)) (by omega)
        rw [ec1, ec2, e2, e4, r1 2 (by omega), r1 3 (by omega), r1 4 (by omega), r2 2 (by omega), r2 3 (by omega), r2 4 (by omega)] at hsh
        have eV : (if f = 0 then (sh2 (σ 110 p1) (σ 112 p1) (σ 111 p1) (σ 110 p2) (σ 112 p2) (σ 111 p2) (σ 104 m) (σ 106 m) n).2.2 else (sh2 (σ 110 p1) (σ 112 p1) (σ 111 p1) (σ 110 p2) (σ 112 p2) (σ 111 p2) (σ 104 m) (σ 106 m) n).2.1) = rvV σ p1 p2 n f o m := by
          unfold rvV
          rw [if_pos q]
        have hsh : bl_Con (bl_mi 18) [.ref 5, .ref (20 + p1), .ref (20 + p2), .int (nI n), .int f] (bl_cp 6 t 82 (14 + m)) (some (.int (if f = 0 then (sh2 (σ 110 p1) (σ 112 p1) (σ 111 p1) (σ 110 p2) (σ 112 p2) (σ 111 p2) (σ 104 m) (σ 106 m) n).2.2 else (sh2 (σ 110 p1) (σ 112 p1) (σ 111 p1) (σ 110 p2) (σ 112 p2) (σ 111 p2) (σ 104 m) (σ 106 m) n).2.1))) (bl_up (bl_cp 6 t 82 (14 + m)) 82 4 (sh2 (σ 110 p1) (σ 112 p1) (σ 111 p1) (σ 110 p2) (σ 112 p2) (σ 111 p2) (σ 104 m) (σ 106 m) n).1) := hsh
        rw [eV] at hsh
        obtain ⟨τ, hP, hW⟩ := ih ch' mo' (bl_up (bl_cp 6 t 82 (14 + m)) 82 4 (sh2 (σ 110 p1) (σ 112 p1) (σ 111 p1) (σ 110 p2) (σ 112 p2) (σ 111 p2) (σ 104 m) (σ 106 m) n).1) ⟨(hG.1.cp (by decide)).up (by decide), by rw [bl_up_ne (by omega), hcp 5 (by omega)]; exact hG.2⟩ (fun z => by omega) (fun _ => hnext)
        refine ⟨τ, hP, vc_X2_takeTurn_28 _ _ _ _ _ _ _ _ _ _ rfl ⟨fun _ v7 e7 v10 e10 => ⟨rfl, vib m6, ?_⟩, fun z => absurd hlt z⟩⟩
        rw [ho7 v7 e7, ← q, if_pos rfl] at e10
        rw [ntb m6]
        refine ⟨_, hcopy, fun z => absurd (e10.symm.trans z) (by decide), fun _ => ⟨rfl, vip (by omega), vip (by omega), ?_⟩⟩
        rw [ntp (show p1 < 4 by omega), ntp (show p2 < 4 by omega)]
        refine ⟨_, _, hsh, fun v35 e35 v36 e36 => ?_⟩
        rw [e35, e36, nI_1, ← hch, ← hmo]
        exact hW
      · obtain ⟨w, ew⟩ : ∃ w : Nat, w = if f = 0 then p2 else p1 := ⟨_, rfl⟩
        have w4 : w < 4 := by rw [ew]; split <;> omega
        have wn : w < np := by rw [ew]; split <;> omega
        have rw' := (hp w wn).1
        have ecw : bl_cp 6 t 82 (14 + m) (20 + w) = σ (20 + w) := by rw [hcp (20 + w) (by omega)]; exact hG.1 _ (sc20 w4)
        have hsh := c_X5_tryHandfuls (bl_cp 6 t 82 (14 + m)) (r := 20 + w) (b := 82) n (kdp w w4) rfl (by omega)
        rw [ecw, e2, e4, rw' 2 (by omega), rw' 3 (by omega), rw' 4 (by omega)] at hsh
        have eV : gs (σ 110 w) (σ 112 w) (σ 104 m) (σ 111 w) (σ 106 m) n = rvV σ p1 p2 n f o m := by
          unfold rvV
          rw [if_neg q, ew]
          by_cases z : f = 0
          · rw [if_pos z, if_pos z]
          · rw [if_neg z, if_neg z]
        have hsh : bl_Con (bl_mi 19) [.ref (20 + w), .ref 82, .int (nI n)] (bl_cp 6 t 82 (14 + m)) (some (.int (gs (σ 110 w) (σ 112 w) (σ 104 m) (σ 111 w) (σ 106 m) n))) (bl_up (bl_cp 6 t 82 (14 + m)) 82 4 (hs (σ 110 w) (σ 112 w) (σ 104 m) (σ 106 m) n)) := hsh
        rw [eV] at hsh
        obtain ⟨τ, hP, hW⟩ := ih ch' mo' (bl_up (bl_cp 6 t 82 (14 + m)) 82 4 (hs (σ 110 w) (σ 112 w) (σ 104 m) (σ 106 m) n)) ⟨(hG.1.cp (by decide)).up (by decide), by rw [bl_up_ne (by omega), hcp 5 (by omega)]; exact hG.2⟩ (fun z => by omega) (fun _ => hnext)
        have on : o < nb := by rw [ho]; split <;> assumption
        refine ⟨τ, hP, vc_X2_takeTurn_28 _ _ _ _ _ _ _ _ _ _ rfl ⟨fun _ v7 e7 v10 e10 => ⟨rfl, vib m6, ?_⟩, fun z => absurd hlt z⟩⟩
        rw [ho7 v7 e7, if_neg (fun z => q ((nI_eq (by omega) (by omega)).mp z))] at e10
        rw [ntb m6]
        refine ⟨_, hcopy, fun _ v17 e17 => ?_, fun z => absurd e10 z⟩
        have e17 : v17 = nI w := by rw [e17, ew]; split <;> rfl
        rw [e17, ntp w4]
        refine ⟨rfl, vip w4, kdp w w4, _, _, hsh, fun v24 e24 v25 e25 => ?_⟩
        rw [e24, e25, nI_1, ← hch, ← hmo]
        exact hW
  obtain ⟨τ, hP, hW⟩ := key bf (-1) s ⟨hF, rfl⟩ (fun _ => rfl) (fun z => by omega)
  rw [← ebf]
  refine ⟨τ, hP, bl_c (Nat.le_of_ble_eq_true rfl) (vc_X2_takeTurn_0 s 10 _ _ _ _ rfl (fun v2 e2 => ?_))⟩
  have e2 : v2 = bf := by rw [e2, hs1, hs2, ebf]
  rw [e2]
  exact hW
