/-! VISITED: the pair -/
theorem i32_lt_tr {x : Int32} {a b : Nat} (h : x < nI a) (hab : a ≤ b) (hb : b < 2 ^ 31) : x < nI b := by
  rw [Int32.lt_iff_toInt_lt] at h ⊢
  rw [nI_toInt (by omega)] at h
  rw [nI_toInt hb]
  omega
theorem pr_visited {σ : bl_S} (h : Inv σ) (x y : Int32) : Pr 92 164 [.int x, .int y] σ := by
  obtain ⟨nb, np, nt, a, b, c, hl, hb, hp, hz, ht, hs', hm'⟩ := id h
  have hn := hl.1
  have hn2 := hl.2.1
  by_cases f : wi x 0 (nI nb - 1) = 0
  · exact ⟨-1000000001, σ, σ, bl_c (Nat.le_of_ble_eq_true rfl) (vc_X10_visited_0 σ x y ⟨_, _, g69 hl x, fun _ => ⟨rfl, rfl⟩, fun q => absurd f q⟩), bl_c (Nat.le_of_ble_eq_true rfl) (vc_X11_visited_0 σ x y ⟨_, _, g103 hl x, fun _ => ⟨rfl, rfl⟩, fun q => absurd f q⟩), h⟩
  obtain ⟨j, hj, rfl⟩ := wi_n (by omega) f
  have j6 : j < 6 := by omega
  have ha8 := hs'.1
  have h149 := hs'.2.2.2.2.1
  have rj := (hb j hj).1
  have l0 := hl.2.2.2.2.2.2.1 0 (by omega)
  have l1 := hl.2.2.2.2.2.2.1 1 (by omega)
  have l2 := hl.2.2.2.2.2.2.1 2 (by omega)
  have hL : Lw (σ 1 0) (σ 1 1) (σ 1 2) := by
    rcases hl.2.2.2.2.2.2.2.2.2.2.1 with q | q
    · exact q
    · omega
  have hLc : Lw (σ 11 0) (σ 11 1) (σ 11 2) := by rw [l0, l1, l2]; exact hL
  obtain ⟨rip, er⟩ : ∃ v, v = σ 11 0 := ⟨_, rfl⟩
  obtain ⟨so, es⟩ : ∃ v, v = σ 11 1 := ⟨_, rfl⟩
  obtain ⟨fa, ef⟩ : ∃ v, v = σ 11 2 := ⟨_, rfl⟩
  obtain ⟨kd, ek⟩ : ∃ v, v = σ (14 + j) 2 := ⟨_, rfl⟩
  rw [← er, ← es, ← ef] at hLc
  obtain ⟨day, hday⟩ : ∃ f : I3 → I3, ∀ t, f t = d3 rip so fa kd 0 t := ⟨_, fun _ => rfl⟩
  obtain ⟨U, hU0, hU⟩ : ∃ U : Nat → I3, U 0 = (σ (14 + j) 3, σ (14 + j) 4, σ (14 + j) 5) ∧ ∀ n, U (n + 1) = day (U n) := ⟨d3n rip so fa kd (fun _ => 0) (σ (14 + j) 3, σ (14 + j) 4, σ (14 + j) 5), rfl, fun n => by rw [hday]; rfl⟩
  obtain ⟨ok, hok⟩ : ∃ ok : Nat → Int32 → Int32, ∀ d t, ok d t = okF σ a (nI j) (nI d) t := ⟨_, fun _ _ => rfl⟩
  have ok01 : ∀ d t, ok d t = 0 ∨ ok d t = 1 := fun d t => by rw [hok]; exact nbF01 _ _ _
  obtain ⟨fin, hfin⟩ : ∃ fin : Nat → Nat → Int32, ∀ v i, fin v i = if (U v).2.1 < nI (i + 1) then 0 else aF ok day (10 - v) v ((U v).1, (U v).2.1 - nI (i + 1), (U v).2.2) := ⟨_, fun _ _ => rfl⟩
  obtain ⟨W, hW⟩ : ∃ W : Nat → Nat → Int32, ∀ v i, W v i = preF (fun d => ok d (U d).2.1) (fin v i) v 0 := ⟨_, fun _ _ => rfl⟩
  obtain ⟨w, hw⟩ : ∃ w : Nat → Bool, ∀ k, w k = decide (¬ W (k / 99) (k % 99) = 0) := ⟨_, fun _ => rfl⟩
  obtain ⟨cd, hcd⟩ : ∃ cd : Nat → Int32, ∀ k, cd k = 100 * nI (k / 99) + nI (k % 99 + 1) := ⟨_, fun _ => rfl⟩
  have wAt : ∀ v i, i < 99 → w (99 * v + i) = decide (¬ W v i = 0) := by
    intro v i hi
    rw [hw, show (99 * v + i) / 99 = v by omega, show (99 * v + i) % 99 = i by omega]
  have cdAt : ∀ v i, i < 99 → cd (99 * v + i) = 100 * nI v + nI (i + 1) := by
    intro v i hi
    rw [hcd, show (99 * v + i) / 99 = v by omega, show (99 * v + i) % 99 = i by omega]
  -- the class: a day
  have pday : ∀ (cl : Nat) (s : bl_S), bl_kd cl = 1 → cl ≠ 11 → Fr σ s → ∃ τ, τ = bl_day s cl rip so fa 0 ∧ bl_Con (bl_mi 17) [.ref cl, .ref 11, .int 0] s none τ := by
    intro cl s hk hne hF
    have h11 : s 11 = σ 11 := hF 11 (by decide)
    have hc := c_X1_passDay s (b := cl) (w := 11) 0 hk rfl (by rw [h11, ← er, ← es, ← ef]; exact hLc.told) (by rw [h11, ← er]; exact hLc.dmz _) (by rw [h11, ← es]; exact hLc.nz.2.1) (by rw [h11, ← ef]; exact hLc.nz.2.2)
    rw [h11, ← er, ← es, ← ef] at hc
    exact ⟨_, rfl, hc⟩
  -- the class: after a visit
  have avC : ∀ (v : Nat) (z : Int32) (t : I3) (s : bl_S), v ≤ 9 → Fr σ s → T3 86 kd t s → ∃ τ, (Fr σ τ ∧ τ 86 = s 86 ∧ τ 6 = s 6) ∧ bl_Con (bl_mi 58) [.ref 6, .ref 11, .int (nI j), .int (nI v), .int z] s (some (.int (aF ok day (10 - v) v (t.1, t.2.1 - z, t.2.2)))) τ := by
    intro v z t s hv hF h3
    have key : ∀ (t' : I3) (s' : bl_S), (Fr σ s' ∧ s' 86 = s 86 ∧ s' 6 = s 6) → T3 87 kd t' s' → Ev (bl_mi 58) 28 [(0, .ref 6), (1, .ref 11), (2, .int (nI j)), (3, .int (nI v)), (4, .int z), (5, .int (nI (v + 0)))] s' (aF ok day (10 - v - 0) (v + 0) t') (fun τ => Fr σ τ ∧ τ 86 = s 86 ∧ τ 6 = s 6) := by
      refine bl_dn (N := 10 - v) (P := fun k => ∀ (t' : I3) (s' : bl_S), (Fr σ s' ∧ s' 86 = s 86 ∧ s' 6 = s 6) → T3 87 kd t' s' → Ev (bl_mi 58) 28 [(0, .ref 6), (1, .ref 11), (2, .int (nI j)), (3, .int (nI v)), (4, .int z), (5, .int (nI (v + k)))] s' (aF ok day (10 - v - k) (v + k) t') (fun τ => Fr σ τ ∧ τ 86 = s 86 ∧ τ 6 = s 6)) ?_ ?_
      · intro t' s' hG h3'
        refine ⟨s', hG, vc_X8_agreesAfterVisit_28 _ _ _ _ _ _ rfl ⟨fun _ => ⟨by rw [Nat.sub_self]; rfl, rfl⟩, fun q => absurd ?_ q⟩⟩
        rw [show (9 : Int32) = nI 9 from rfl]
        exact nI_lt (by omega) (by omega)
      · intro k hk ih t' s' hG h3'
        have hag := c_X8_agreesOnDay hs' hG.1 (cl := 87) rfl (nI j) (nI (v + k))
        rw [h3'.2.2.1, ← hok] at hag
        have haF : aF ok day (10 - v - k) (v + k) t' = if ok (v + k) t'.2.1 = 0 then 0 else aF ok day (10 - v - (k + 1)) (v + (k + 1)) (day t') := by
          rw [show 10 - v - k = (10 - v - (k + 1)) + 1 by omega]
          rfl
        have n9 : ¬ (9 : Int32) < nI (v + k) := by
          rw [show (9 : Int32) = nI 9 from rfl]
          exact nI_nlt (by omega) (by omega)
        by_cases q : ok (v + k) t'.2.1 = 0
        · rw [haF, if_pos q]
          exact ⟨s', hG, vc_X8_agreesAfterVisit_28 _ _ _ _ _ _ rfl ⟨fun z => absurd z n9, fun _ => ⟨_, _, hag, fun _ => ⟨rfl, rfl⟩, fun z => absurd q z⟩⟩⟩
        · rw [haF, if_neg q]
          obtain ⟨τ1, e1, hd⟩ := pday 87 s' rfl (by omega) hG.1
          have h3n := h3'.day (rip := rip) (so := so) (fa := fa) (rn := 0)
          rw [← e1, ← hday] at h3n
          obtain ⟨τ, hP, hWx⟩ := ih (day t') τ1 ⟨by rw [e1]; exact hG.1.day (by decide), by rw [e1, bl_day_c (by omega)]; exact hG.2.1, by rw [e1, bl_day_c (by omega)]; exact hG.2.2⟩ h3n
          refine ⟨τ, hP, vc_X8_agreesAfterVisit_28 _ _ _ _ _ _ rfl ⟨fun z => absurd z n9, fun _ => ⟨_, _, hag, fun z => absurd z q, fun _ => ⟨_, hd, ?_⟩⟩⟩⟩
          rw [nI_1]
          exact hWx
    have h3c : T3 87 kd (t.1, t.2.1 - z, t.2.2) (bl_up (bl_cp 6 s 87 86) 87 4 (bl_cp 6 s 87 86 87 4 - z)) := by
      obtain ⟨q1, q2, q3, q4⟩ := h3
      refine ⟨?_, ?_, ?_, ?_⟩
      · rw [bl_up_j (by omega), bl_cp_s (by omega)]; exact q1
      · rw [bl_up_j (by omega), bl_cp_s (by omega)]; exact q2
      · rw [bl_up_s, bl_cp_s (by omega), q3]
      · rw [bl_up_j (by omega), bl_cp_s (by omega)]; exact q4
    obtain ⟨τ, hP, hWx⟩ := key _ _ ⟨(hF.cp (by decide)).up (by decide), by rw [bl_up_ne (by omega), bl_cp_c (by omega)], by rw [bl_up_ne (by omega), bl_cp_c (by omega)]⟩ h3c
    exact ⟨τ, hP, bl_c (Nat.le_of_ble_eq_true rfl) (vc_X8_agreesAfterVisit_0 s 11 _ _ _ rfl ⟨_, c_X1_copyFrom s (a := 87) (b := 86) rfl rfl, hWx⟩)⟩
  -- the class: all visits
  have keyC : ∀ s, Fr σ s → T3 86 kd (U 0) s → s 6 3 = svV w cd y (99 * 0) → (∀ d, d < 0 → ¬ ok d (U d).2.1 = 0) → Ev (bl_mi 59) 24 [(0, .ref 6), (1, .ref 10), (2, .int (nI j)), (3, .int y), (4, .int (nI (cnV w (99 * 0)))), (5, .int (nI 0))] s (nI (cnV w 990)) (fun τ => Fr σ τ ∧ τ 6 3 = svV w cd y 990) := by
    refine bl_dn (N := 10) (P := fun v => ∀ s, Fr σ s → T3 86 kd (U v) s → s 6 3 = svV w cd y (99 * v) → (∀ d, d < v → ¬ ok d (U d).2.1 = 0) → Ev (bl_mi 59) 24 [(0, .ref 6), (1, .ref 10), (2, .int (nI j)), (3, .int y), (4, .int (nI (cnV w (99 * v)))), (5, .int (nI v))] s (nI (cnV w 990)) (fun τ => Fr σ τ ∧ τ 6 3 = svV w cd y 990)) ?_ ?_
    · intro s hF h3 h6 _
      exact ⟨s, ⟨hF, h6⟩, vc_X8_findVisits_24 _ _ _ _ _ _ rfl ⟨fun _ => ⟨rfl, rfl⟩, fun q => absurd (by decide) q⟩⟩
    · intro v hv ihv s hF h3 h6 hgood
      have hWv : ∀ i, W v i = fin v i := fun i => by
        rw [hW]
        exact preF_ok _ _ (fun d _ hd => hgood d (by omega))
      -- behind a row
      have rowEnd : ∀ s, Fr σ s → T3 86 kd (U v) s → s 6 3 = svV w cd y (99 * v + 99) → ∃ (τ : bl_S), (Fr σ τ ∧ τ 6 3 = svV w cd y 990) ∧ ∃ (y9 : Int32) (τ6 : bl_S), bl_Con (bl_mi 57) [.ref 6, .ref 86, .int (nI j), .int (nI v)] s (some (.int y9)) τ6 ∧ ((y9 = 0 → (some (.int (nI (cnV w (99 * v + 99)))) : Option Value) = some (.int (nI (cnV w 990))) ∧ τ6 = τ) ∧ (¬ y9 = 0 → ∃ τ11 : bl_S, bl_Con (bl_mi 17) [.ref 86, .ref (bl_rf 10 0), .int 0] τ6 none τ11 ∧ bl_Wx (bl_mi 59) 24 [(0, .ref 6), (1, .ref 10), (2, .int (nI j)), (3, .int y), (4, .int (nI (cnV w (99 * v + 99)))), (5, .int (nI v + 1))] [] τ11 (fun v t => v = some (.int (nI (cnV w 990))) ∧ t = τ))) := by
        intro s hF h3 h6
        have hag := c_X8_agreesOnDay hs' hF (cl := 86) rfl (nI j) (nI v)
        rw [h3.2.2.1, ← hok] at hag
        by_cases q : ok v (U v).2.1 = 0
        · have hskip := cnV_skip (w := w) (cd := cd) (x := y) (i := 99 * v + 99) (990 - (99 * v + 99)) (by
            intro m m1 m2
            rw [hw]
            have : W (m / 99) (m % 99) = 0 := by
              rw [hW]
              exact preF_bad _ _ v (by omega) (by omega) q
            simp [this])
          rw [show 99 * v + 99 + (990 - (99 * v + 99)) = 990 by omega] at hskip
          exact ⟨s, ⟨hF, by rw [h6, hskip.2]⟩, _, _, hag, fun _ => ⟨by rw [hskip.1], rfl⟩, fun z => absurd q z⟩
        · obtain ⟨τ1, e1, hd⟩ := pday 86 s rfl (by omega) hF
          have h3n := h3.day (rip := rip) (so := so) (fa := fa) (rn := 0)
          rw [← e1, ← hday, ← hU] at h3n
          obtain ⟨τ, hP, hWx⟩ := ihv τ1 (by rw [e1]; exact hF.day (by decide)) h3n (by rw [e1, bl_day_c (by omega), h6]; rfl) (fun d hd => by
            by_cases e : d = v
            · rw [e]; exact q
            · exact hgood d (by omega))
          refine ⟨τ, hP, _, _, hag, fun z => absurd z q, fun _ => ⟨_, hd, ?_⟩⟩
          rw [nI_1]
          exact hWx
      have row : ∀ s, Fr σ s → T3 86 kd (U v) s → s 6 3 = svV w cd y (99 * v + 0) → Ev (bl_mi 59) 34 [(0, .ref 6), (1, .ref 10), (2, .int (nI j)), (3, .int y), (4, .int (nI (cnV w (99 * v + 0)))), (5, .int (nI v)), (6, .int (nI (0 + 1)))] s (nI (cnV w 990)) (fun τ => Fr σ τ ∧ τ 6 3 = svV w cd y 990) := by
        refine bl_dn (N := 99) (P := fun i => ∀ s, Fr σ s → T3 86 kd (U v) s → s 6 3 = svV w cd y (99 * v + i) → Ev (bl_mi 59) 34 [(0, .ref 6), (1, .ref 10), (2, .int (nI j)), (3, .int y), (4, .int (nI (cnV w (99 * v + i)))), (5, .int (nI v)), (6, .int (nI (i + 1)))] s (nI (cnV w 990)) (fun τ => Fr σ τ ∧ τ 6 3 = svV w cd y 990)) ?_ ?_
        · intro s hF h3 h6
          obtain ⟨τ, hP, hE⟩ := rowEnd s hF h3 h6
          exact ⟨τ, hP, vc_X8_findVisits_34 _ _ _ _ _ _ _ rfl ⟨fun _ => hE, fun q => absurd (by decide) q⟩⟩
        · intro i hi ih s hF h3 h6
          have n99 : ¬ (99 : Int32) < nI (i + 1) := by
            rw [show (99 : Int32) = nI 99 from rfl]
            exact nI_nlt (by omega) (by omega)
          by_cases q : (U v).2.1 < nI (i + 1)
          · have hskip := cnV_skip (w := w) (cd := cd) (x := y) (i := 99 * v + i) (99 - i) (by
              intro m m1 m2
              have e : m = 99 * v + (m - 99 * v) := by omega
              rw [e, wAt v (m - 99 * v) (by omega), hWv, hfin, if_pos (i32_lt_tr q (by omega) (by omega))]
              rfl)
            rw [show 99 * v + i + (99 - i) = 99 * v + 99 by omega] at hskip
            rw [← hskip.1]
            obtain ⟨τ, hP, hE⟩ := rowEnd s hF h3 (by rw [h6, hskip.2])
            exact ⟨τ, hP, vc_X8_findVisits_34 _ _ _ _ _ _ _ rfl ⟨fun z => absurd z n99, fun _ => ⟨fun _ => hE, fun z => absurd (by rw [h3.2.2.1]; exact q) z⟩⟩⟩
          · obtain ⟨τ1, ⟨hF1, h86, h66⟩, hC⟩ := avC v (nI (i + 1)) (U v) s (by omega) hF h3
            have hfv : fin v i = aF ok day (10 - v) v ((U v).1, (U v).2.1 - nI (i + 1), (U v).2.2) := by rw [hfin, if_neg q]
            rw [← hfv, ← hWv] at hC
            have h31 : T3 86 kd (U v) τ1 := by
              unfold T3 at h3 ⊢
              rw [h86]
              exact h3
            have hwk := wAt v i hi
            by_cases q2 : W v i = 0
            · have hwf : w (99 * v + i) = false := by rw [hwk]; simp [q2]
              have e1 : cnV w (99 * v + (i + 1)) = cnV w (99 * v + i) := by
                show (if w (99 * v + i) then _ else _) = _
                rw [hwf]
                rfl
              have e2 : svV w cd y (99 * v + (i + 1)) = svV w cd y (99 * v + i) := by
                show (if w (99 * v + i) then _ else _) = _
                rw [hwf]
                rfl
              obtain ⟨τ, hP, hWx⟩ := ih τ1 hF1 h31 (by rw [h66, e2]; exact h6)
              refine ⟨τ, hP, vc_X8_findVisits_34 _ _ _ _ _ _ _ rfl ⟨fun z => absurd z n99, fun _ => ⟨fun z => absurd (by rw [h3.2.2.1] at z; exact z) q, fun _ => ⟨_, _, hC, fun v29 e29 σ30 e30 => ?_⟩⟩⟩⟩
              rw [if_pos q2] at e29 e30
              rw [e29, e30, nI_1, ← e1]
              exact hWx
            · have hwt : w (99 * v + i) = true := by rw [hwk]; simp [q2]
              have e1 : cnV w (99 * v + (i + 1)) = cnV w (99 * v + i) + 1 := by
                show (if w (99 * v + i) then _ else _) = _
                rw [hwt]
                rfl
              by_cases q3 : nI (cnV w (99 * v + i)) = y
              · have e2 : svV w cd y (99 * v + (i + 1)) = 100 * nI v + nI (i + 1) := by
                  show (if w (99 * v + i) then (if nI (cnV w (99 * v + i)) = y then cd (99 * v + i) else _) else _) = _
                  rw [hwt, if_pos rfl, if_pos q3, cdAt v i hi]
                obtain ⟨τ, hP, hWx⟩ := ih (bl_up τ1 6 3 (100 * nI v + nI (i + 1))) (hF1.up (by decide)) (by
                  unfold T3 at h31 ⊢
                  rw [bl_up_ne (show 86 ≠ 6 by omega)]
                  exact h31) (by rw [bl_up_s, e2])
                refine ⟨τ, hP, vc_X8_findVisits_34 _ _ _ _ _ _ _ rfl ⟨fun z => absurd z n99, fun _ => ⟨fun z => absurd (by rw [h3.2.2.1] at z; exact z) q, fun _ => ⟨_, _, hC, fun v29 e29 σ30 e30 => ?_⟩⟩⟩⟩
                rw [if_neg q2, if_pos q3] at e29 e30
                rw [e29, e30, nI_1, nI_1, ← e1]
                exact hWx
              · have e2 : svV w cd y (99 * v + (i + 1)) = svV w cd y (99 * v + i) := by
                  show (if w (99 * v + i) then (if nI (cnV w (99 * v + i)) = y then cd (99 * v + i) else _) else _) = _
                  rw [hwt, if_pos rfl, if_neg q3]
                  rfl
                obtain ⟨τ, hP, hWx⟩ := ih τ1 hF1 h31 (by rw [h66, e2]; exact h6)
                refine ⟨τ, hP, vc_X8_findVisits_34 _ _ _ _ _ _ _ rfl ⟨fun z => absurd z n99, fun _ => ⟨fun z => absurd (by rw [h3.2.2.1] at z; exact z) q, fun _ => ⟨_, _, hC, fun v29 e29 σ30 e30 => ?_⟩⟩⟩⟩
                rw [if_neg q2, if_neg q3] at e29 e30
                rw [e29, e30, nI_1, nI_1, ← e1]
                exact hWx
      obtain ⟨τ, hP, hWx⟩ := row s hF h3 h6
      refine ⟨τ, hP, vc_X8_findVisits_24 _ _ _ _ _ _ rfl ⟨fun z => absurd z ?_, fun _ => hWx⟩⟩
      rw [show (9 : Int32) = nI 9 from rfl]
      exact nI_nlt (by omega) (by omega)
  have hT0 : T3 86 kd (U 0) (bl_cp 6 (bl_up σ 6 3 (-1)) 86 (14 + j)) := by
    rw [hU0]
    exact ⟨by rw [bl_cp_s (by omega), bl_up_c (by omega), ek], by rw [bl_cp_s (by omega), bl_up_c (by omega)], by rw [bl_cp_s (by omega), bl_up_c (by omega)], by rw [bl_cp_s (by omega), bl_up_c (by omega)]⟩
  obtain ⟨τ, ⟨hF, h6⟩, hWx⟩ := keyC _ ((Fr.rf.up (by decide)).cp (by decide)) hT0 (by rw [bl_cp_c (by omega), bl_up_s]; rfl) (fun d hd => by omega)
  have conC : bl_Con (bl_mi 92) [.ref 0, .int (nI j), .int y] σ (some (.int (if y = -1 then nI (cnV w 990) else svV w cd y 990))) τ := by
    refine bl_c (Nat.le_of_ble_eq_true rfl) (vc_X10_visited_0 σ _ y ⟨_, _, g69 hl _, fun q => absurd q f, fun _ => ⟨_, τ, bl_c (Nat.le_of_ble_eq_true rfl) (vc_X8_findVisits_0 σ 10 _ _ rfl ⟨rfl, vib j6, ?_⟩), fun v e => ⟨by rw [e, h6], rfl⟩⟩⟩)
    rw [ntb j6]
    exact ⟨_, c_X1_copyFrom _ (a := 86) (b := 14 + j) rfl (kdb j j6), hWx⟩
  -- the reference: one visit
  have hdayM : ∀ (t : I3) (s : bl_S), M3 j t s → TM j σ s → ∃ τ, (M3 j (day t) τ ∧ TM j σ τ) ∧ bl_Con (bl_mi 135) [.ref 1, .int (nI j), .int 0] s none τ := by
    intro t s h3 hT
    have h1 : s 1 = σ 1 := hT.1 1 (by decide) (by omega) (by omega) (by omega)
    have h104 : s 104 j = kd := by rw [hT.1 104 (by decide) (by omega) (by omega) (by omega), ek]; exact (rj 2 (by omega)).symm
    have hc := c_X11_ripen s (b := j) 0 j6 (by rw [h1]; exact hL)
    rw [h1, ← l0, ← l1, ← l2, ← er, ← es, ← ef] at hc
    have h3' := h3.day (rip := rip) (so := so) (fa := fa) (rn := 0) h104
    rw [← hday] at h3'
    exact ⟨_, ⟨h3', hT.day⟩, hc⟩
  have wvM : ∀ v i, v ≤ 9 → i < 99 → ∀ s, TM j σ s → Fr σ s → ∃ τ, (TM j σ τ ∧ Fr σ τ) ∧ bl_Con (bl_mi 163) [.ref 1, .int (nI j), .int (nI v), .int (nI (i + 1))] s (some (.int (W v i))) τ := by
    intro v i hv hi s hT hF
    have stop : ∀ d s, d ≤ 10 → TM j σ s → Ev (bl_mi 163) 6 [(0, .ref 1), (1, .int (nI j)), (2, .int (nI v)), (3, .int (nI (i + 1))), (4, .int 0), (5, .int (nI d))] s 0 (fun τ => TM j σ τ ∧ Fr σ τ) := by
      intro d s _ hT
      exact ⟨_, ⟨hT.pb, hT.back⟩, vc_X11_wasVisited_6 _ _ _ _ _ _ ⟨fun _ => ⟨fun _ => ⟨_, c_X11_putBack s j6, Or.inl rfl, rfl, rfl⟩, fun q => absurd rfl q⟩, fun _ => ⟨_, c_X11_putBack s j6, Or.inl rfl, rfl, rfl⟩⟩⟩
    have key : ∀ (t : I3) (s : bl_S), M3 j t s → TM j σ s → Ev (bl_mi 163) 6 [(0, .ref 1), (1, .int (nI j)), (2, .int (nI v)), (3, .int (nI (i + 1))), (4, .int 1), (5, .int (nI 0))] s (vF ok day v (nI (i + 1)) (10 - 0) 0 t) (fun τ => TM j σ τ ∧ Fr σ τ) := by
      refine bl_dn (N := 10) (P := fun d => ∀ (t : I3) (s : bl_S), M3 j t s → TM j σ s → Ev (bl_mi 163) 6 [(0, .ref 1), (1, .int (nI j)), (2, .int (nI v)), (3, .int (nI (i + 1))), (4, .int 1), (5, .int (nI d))] s (vF ok day v (nI (i + 1)) (10 - d) d t) (fun τ => TM j σ τ ∧ Fr σ τ)) ?_ ?_
      · intro t s h3 hT
        exact ⟨_, ⟨hT.pb, hT.back⟩, vc_X11_wasVisited_6 _ _ _ _ _ _ ⟨fun q => absurd q (by decide), fun _ => ⟨_, c_X11_putBack s j6, Or.inr rfl, rfl, rfl⟩⟩⟩
      · intro d hd ih t s h3 hT
        have d10 : nI d < (10 : Int32) := by
          rw [show (10 : Int32) = nI 10 from rfl]
          exact nI_lt hd (by omega)
        -- behind the ripening
        have body : ∀ (t' : I3) (s' : bl_S), t' = (if d = 0 then t else day t) → M3 j t' s' → TM j σ s' → ∃ τ, (TM j σ τ ∧ Fr σ τ) ∧ ((nI d = nI v → vp_in (nI j) 6) ∧ (∀ v13 : Int32, v13 = (if nI d = nI v then (if (s' 106 (Int32.toNatClampNeg (nI j))) < nI (i + 1) then 0 else 1) else 1) → (vp_in (nI j) 6) ∧ (∀ v16 : Int32, v16 = (if nI d = nI v then nI (i + 1) else 0) → ((v13 = 0 → bl_Wx (bl_mi 163) 6 [(0, .ref 1), (1, .int (nI j)), (2, .int (nI v)), (3, .int (nI (i + 1))), (4, .int 0), (5, .int (nI d + 1))] [] (bl_up s' 106 (Int32.toNatClampNeg (nI j)) ((s' 106 (Int32.toNatClampNeg (nI j))) - v16)) (fun u z => u = some (.int (vF ok day v (nI (i + 1)) (10 - d) d t)) ∧ z = τ)) ∧ (¬ v13 = 0 → (∃ (y23 : Int32) (τ20 : bl_S), bl_Con (bl_mi 162) [.ref 1, .int (nI j), .int (nI d)] (bl_up s' 106 (Int32.toNatClampNeg (nI j)) ((s' 106 (Int32.toNatClampNeg (nI j))) - v16)) (some (.int y23)) τ20 ∧ (∀ v25 : Int32, v25 = (if y23 = 0 then 0 else 1) → bl_Wx (bl_mi 163) 6 [(0, .ref 1), (1, .int (nI j)), (2, .int (nI v)), (3, .int (nI (i + 1))), (4, .int v25), (5, .int (nI d + 1))] [] τ20 (fun u z => u = some (.int (vF ok day v (nI (i + 1)) (10 - d) d t)) ∧ z = τ)))))))) := by
          intro t' s' et h3' hT'
          rw [ntb j6, nI_1, h3'.2.1]
          have hvF : vF ok day v (nI (i + 1)) (10 - d) d t = if d = v then (if t'.2.1 < nI (i + 1) then 0 else if ok d (t'.2.1 - nI (i + 1)) = 0 then 0 else vF ok day v (nI (i + 1)) (10 - (d + 1)) (d + 1) (t'.1, t'.2.1 - nI (i + 1), t'.2.2)) else (if ok d t'.2.1 = 0 then 0 else vF ok day v (nI (i + 1)) (10 - (d + 1)) (d + 1) t') := by
            rw [et, show 10 - d = (10 - (d + 1)) + 1 by omega]
            rfl
          have left : ∀ z, bl_Con (bl_mi 162) [.ref 1, .int (nI j), .int (nI d)] (bl_up s' 106 j z) (some (.int (ok d z))) (bl_up s' 106 j z) := by
            intro z
            have hT2 := hT'.ripe (v := z)
            have := c_X11_isLeft (σ := σ) (s := bl_up s' 106 j z) (a := a) ha8 (by rw [hT2.1 1 (by decide) (by omega) (by omega) (by omega)]; exact h149) (hT2.1 135 (by decide) (by omega) (by omega) (by omega)) (hT2.1 136 (by decide) (by omega) (by omega) (by omega)) (hT2.1 137 (by decide) (by omega) (by omega) (by omega)) j6 (nI d)
            rw [bl_up_s, ← hok] at this
            exact this
          by_cases q : d = v
          · have qe : nI d = nI v := by rw [q]
            rw [if_pos q] at hvF
            by_cases q1 : t'.2.1 < nI (i + 1)
            · rw [if_pos q1] at hvF
              rw [hvF]
              obtain ⟨τ, hP, hWx⟩ := stop (d + 1) (bl_up s' 106 j (t'.2.1 - nI (i + 1))) (by omega) hT'.ripe
              refine ⟨τ, hP, fun _ => vib j6, fun v13 e13 => ⟨vib j6, fun v16 e16 => ?_⟩⟩
              rw [if_pos qe, if_pos q1] at e13
              rw [if_pos qe] at e16
              rw [e13, e16]
              exact ⟨fun _ => hWx, fun z => absurd rfl z⟩
            · rw [if_neg q1] at hvF
              by_cases q2 : ok d (t'.2.1 - nI (i + 1)) = 0
              · rw [if_pos q2] at hvF
                rw [hvF]
                obtain ⟨τ, hP, hWx⟩ := stop (d + 1) (bl_up s' 106 j (t'.2.1 - nI (i + 1))) (by omega) hT'.ripe
                refine ⟨τ, hP, fun _ => vib j6, fun v13 e13 => ⟨vib j6, fun v16 e16 => ?_⟩⟩
                rw [if_pos qe, if_neg q1] at e13
                rw [if_pos qe] at e16
                rw [e13, e16]
                refine ⟨fun z => absurd z (by decide), fun _ => ⟨_, _, left _, fun v25 e25 => ?_⟩⟩
                rw [if_pos q2] at e25
                rw [e25]
                exact hWx
              · rw [if_neg q2] at hvF
                rw [hvF]
                obtain ⟨τ, hP, hWx⟩ := ih (t'.1, t'.2.1 - nI (i + 1), t'.2.2) (bl_up s' 106 j (t'.2.1 - nI (i + 1))) ⟨by rw [bl_up_c (by omega)]; exact h3'.1, bl_up_s _ _ _ _, by rw [bl_up_c (by omega)]; exact h3'.2.2⟩ hT'.ripe
                refine ⟨τ, hP, fun _ => vib j6, fun v13 e13 => ⟨vib j6, fun v16 e16 => ?_⟩⟩
                rw [if_pos qe, if_neg q1] at e13
                rw [if_pos qe] at e16
                rw [e13, e16]
                refine ⟨fun z => absurd z (by decide), fun _ => ⟨_, _, left _, fun v25 e25 => ?_⟩⟩
                rw [if_neg q2] at e25
                rw [e25]
                exact hWx
          · rw [if_neg q] at hvF
            have qn : ¬ nI d = nI v := fun z => q ((nI_eq (by omega) (by omega)).mp z)
            have eid : bl_up s' 106 j (t'.2.1 - 0) = s' := bl_up_id' (by rw [Int32.sub_zero]; exact h3'.2.1.symm)
            by_cases q2 : ok d t'.2.1 = 0
            · rw [if_pos q2] at hvF
              rw [hvF]
              obtain ⟨τ, hP, hWx⟩ := stop (d + 1) s' (by omega) hT'
              refine ⟨τ, hP, fun z => absurd z qn, fun v13 e13 => ⟨vib j6, fun v16 e16 => ?_⟩⟩
              rw [if_neg qn] at e13 e16
              rw [e13, e16]
              refine ⟨fun z => absurd z (by decide), fun _ => ⟨_, _, left _, fun v25 e25 => ?_⟩⟩
              rw [Int32.sub_zero, if_pos q2] at e25
              rw [e25, eid]
              exact hWx
            · rw [if_neg q2] at hvF
              rw [hvF]
              obtain ⟨τ, hP, hWx⟩ := ih t' s' h3' hT'
              refine ⟨τ, hP, fun z => absurd z qn, fun v13 e13 => ⟨vib j6, fun v16 e16 => ?_⟩⟩
              rw [if_neg qn] at e13 e16
              rw [e13, e16]
              refine ⟨fun z => absurd z (by decide), fun _ => ⟨_, _, left _, fun v25 e25 => ?_⟩⟩
              rw [Int32.sub_zero, if_neg q2] at e25
              rw [e25, eid]
              exact hWx
        by_cases d0 : d = 0
        · obtain ⟨τ, hP, hB⟩ := body t s (by rw [if_pos d0]) h3 hT
          exact ⟨τ, hP, vc_X11_wasVisited_6 _ _ _ _ _ _ ⟨fun _ => ⟨fun z => absurd z (by decide), fun _ => ⟨fun z => absurd z (by rw [d0]; decide), fun _ => hB⟩⟩, fun z => absurd d10 z⟩⟩
        · obtain ⟨s', ⟨h3', hT'⟩, hc⟩ := hdayM t s h3 hT
          obtain ⟨τ, hP, hB⟩ := body (day t) s' (by rw [if_neg d0]) h3' hT'
          refine ⟨τ, hP, vc_X11_wasVisited_6 _ _ _ _ _ _ ⟨fun _ => ⟨fun z => absurd z (by decide), fun _ => ⟨fun _ => ⟨_, hc, hB⟩, fun z => absurd ?_ z⟩⟩, fun z => absurd d10 z⟩⟩
          rw [show (0 : Int32) = nI 0 from rfl]
          exact nI_lt (by omega) (by omega)
    have hM : M3 j (U 0) s := by
      rw [hU0]
      refine ⟨?_, ?_, ?_⟩
      · rw [hF 105 (by decide)]; exact (rj 3 (by omega)).symm
      · rw [hF 106 (by decide)]; exact (rj 4 (by omega)).symm
      · rw [hF 107 (by decide)]; exact (rj 5 (by omega)).symm
    obtain ⟨τ, hP, hWx⟩ := key (U 0) s hM hT
    have e : vF ok day v (nI (i + 1)) (10 - 0) 0 (U 0) = W v i := by
      rw [hW, hfin]
      exact vF_at hU hv v 0 (by omega)
    rw [e] at hWx
    exact ⟨τ, hP, bl_c (Nat.le_of_ble_eq_true rfl) (vc_X11_wasVisited_0 s _ _ _ hWx)⟩
  -- the reference: all visits
  have keyM : ∀ s, TM j σ s → Fr σ s → svV w cd y (99 * 0) = -1 → Ev (bl_mi 164) 20 [(0, .ref 1), (1, .int (nI j)), (2, .int y), (3, .int (nI (cnV w (99 * 0)))), (4, .int (nI 0))] s (if y = -1 then nI (cnV w 990) else svV w cd y 990) (Fr σ) := by
    refine bl_dn (N := 10) (P := fun v => ∀ s, TM j σ s → Fr σ s → svV w cd y (99 * v) = -1 → Ev (bl_mi 164) 20 [(0, .ref 1), (1, .int (nI j)), (2, .int y), (3, .int (nI (cnV w (99 * v)))), (4, .int (nI v))] s (if y = -1 then nI (cnV w 990) else svV w cd y 990) (Fr σ)) ?_ ?_
    · intro s hT hF hsv
      refine ⟨s, hF, vc_X11_visited_20 _ _ _ _ _ ⟨fun q => absurd q (by decide), fun _ v e => ⟨?_, rfl⟩⟩⟩
      have hsv : svV w cd y 990 = -1 := hsv
      rw [e, hsv]
    · intro v hv ihv s hT hF hsv
      have row : ∀ s, TM j σ s → Fr σ s → svV w cd y (99 * v + 0) = -1 → Ev (bl_mi 164) 30 [(0, .ref 1), (1, .int (nI j)), (2, .int y), (3, .int (nI (cnV w (99 * v + 0)))), (4, .int (nI v)), (5, .int (nI (0 + 1)))] s (if y = -1 then nI (cnV w 990) else svV w cd y 990) (Fr σ) := by
        refine bl_dn (N := 99) (P := fun i => ∀ s, TM j σ s → Fr σ s → svV w cd y (99 * v + i) = -1 → Ev (bl_mi 164) 30 [(0, .ref 1), (1, .int (nI j)), (2, .int y), (3, .int (nI (cnV w (99 * v + i)))), (4, .int (nI v)), (5, .int (nI (i + 1)))] s (if y = -1 then nI (cnV w 990) else svV w cd y 990) (Fr σ)) ?_ ?_
        · intro s hT hF hsv
          obtain ⟨τ, hP, hWx⟩ := ihv s hT hF hsv
          refine ⟨τ, hP, vc_X11_visited_30 _ _ _ _ _ _ ⟨fun q => absurd q (by decide), fun _ => ?_⟩⟩
          rw [nI_1]
          exact hWx
        · intro i hi ih s hT hF hsv
          obtain ⟨τ1, ⟨hT1, hF1⟩, hC⟩ := wvM v i (by omega) hi s hT hF
          have hwk := wAt v i hi
          have h100 : nI (i + 1) < (100 : Int32) := by
            rw [show (100 : Int32) = nI 100 from rfl]
            exact nI_lt (by omega) (by omega)
          by_cases q2 : W v i = 0
          · have hwf : w (99 * v + i) = false := by rw [hwk]; simp [q2]
            have e1 : cnV w (99 * v + (i + 1)) = cnV w (99 * v + i) := by
              show (if w (99 * v + i) then _ else _) = _
              rw [hwf]
              rfl
            have e2 : svV w cd y (99 * v + (i + 1)) = svV w cd y (99 * v + i) := by
              show (if w (99 * v + i) then _ else _) = _
              rw [hwf]
              rfl
            obtain ⟨τ, hP, hWx⟩ := ih τ1 hT1 hF1 (by rw [e2]; exact hsv)
            refine ⟨τ, hP, vc_X11_visited_30 _ _ _ _ _ _ ⟨fun _ => ⟨_, _, hC, fun _ => ?_, fun z => absurd q2 z⟩, fun z => absurd h100 z⟩⟩
            rw [nI_1, ← e1]
            exact hWx
          · have hwt : w (99 * v + i) = true := by rw [hwk]; simp [q2]
            have e1 : cnV w (99 * v + (i + 1)) = cnV w (99 * v + i) + 1 := by
              show (if w (99 * v + i) then _ else _) = _
              rw [hwt]
              rfl
            by_cases q3 : nI (cnV w (99 * v + i)) = y
            · have hle := cnV_le w (99 * v + i)
              have hy : ¬ y = -1 := by
                intro z
                rw [← q3] at z
                have := nI_toInt (n := cnV w (99 * v + i)) (by omega)
                rw [z] at this
                have e : (-1 : Int32).toInt = -1 := by decide
                omega
              have hfd := svV_found (cd := cd) hwt q3 (990 - (99 * v + i + 1)) (by omega)
              rw [show 99 * v + i + 1 + (990 - (99 * v + i + 1)) = 990 by omega, cdAt v i hi] at hfd
              exact ⟨τ1, hF1, vc_X11_visited_30 _ _ _ _ _ _ ⟨fun _ => ⟨_, _, hC, fun z => absurd z q2, fun _ => ⟨fun _ => ⟨by rw [if_neg hy, hfd], rfl⟩, fun z => absurd q3 z⟩⟩, fun z => absurd h100 z⟩⟩
            · have e2 : svV w cd y (99 * v + (i + 1)) = svV w cd y (99 * v + i) := by
                show (if w (99 * v + i) then (if nI (cnV w (99 * v + i)) = y then cd (99 * v + i) else _) else _) = _
                rw [hwt, if_pos rfl, if_neg q3]
                rfl
              obtain ⟨τ, hP, hWx⟩ := ih τ1 hT1 hF1 (by rw [e2]; exact hsv)
              refine ⟨τ, hP, vc_X11_visited_30 _ _ _ _ _ _ ⟨fun _ => ⟨_, _, hC, fun z => absurd z q2, fun _ => ⟨fun z => absurd z q3, fun _ => ?_⟩⟩, fun z => absurd h100 z⟩⟩
              rw [nI_1, nI_1, ← e1]
              exact hWx
      obtain ⟨τ, hP, hWx⟩ := row s hT hF hsv
      refine ⟨τ, hP, vc_X11_visited_20 _ _ _ _ _ ⟨fun _ => hWx, fun z => absurd ?_ z⟩⟩
      rw [show (10 : Int32) = nI 10 from rfl]
      exact nI_lt hv (by omega)
  have t1 : τ 1 = σ 1 := hF 1 (by decide)
  have hl2 : Jl nb np τ := hl.fr (hF 10 (by decide)) (hF 11 (by decide)) (fun k _ => by rw [t1])
  have hF2 : Fr σ (svM nb τ) := by
    intro d hd
    rw [svM_c ?_]
    · exact hF d hd
    · refine ⟨?_, ?_, ?_⟩ <;> · intro e; rw [e] at hd; exact absurd hd (by decide)
  obtain ⟨υ, hP2, hW2⟩ := keyM (svM nb τ) (TM.fr hF (TM.save hj)) hF2 rfl
  exact ⟨_, τ, υ, conC, bl_c (Nat.le_of_ble_eq_true rfl) (vc_X11_visited_0 τ _ _ ⟨_, _, g103 hl2 _, fun q => absurd q f, fun _ => ⟨_, c_X11_save τ hn (by rw [t1]; exact hl.2.2.2.1), hW2⟩⟩), h.fr hP2⟩
