/-! WHERE: measure, findFor; findCans, figure, allBy -/
theorem bl_cpy_c {σ : bl_S} {a0 a sp dp n c : Nat} (h : c ≠ a) : bl_cpy σ a0 a sp dp n c = σ c := if_neg h
theorem bl_cpy_s {σ : bl_S} {a0 a sp dp n : Nat} : bl_cpy σ a0 a sp dp n a = va_cpy (σ a0) (σ a) sp dp n := if_pos rfl
theorem measC {σ : bl_S} {nb np h : Nat} {G : Nat → Nat → Nat} (hl : Jl nb np σ) (hb : Jb nb σ) (hp : Jp np σ) (hG : GG σ nb np h G) (hh : h < 2 ^ 31) : ∃ τ, (Fr σ τ ∧ PG nb np G τ) ∧ bl_Con (bl_mi 35) [.ref 4, .ref 10, .int (nI h)] σ none τ := by
  have hn := hl.1
  have hn2 := hl.2.1
  have key : ∀ s, Fr σ s → s 4 5 = nI nb → s 4 6 = nI np → (∀ p' b', p' < np → b' < nb → p' < 0 → s 78 (p' * 6 + b') = nI (G p' b')) → EvN (bl_mi 35) 18 [(0, .ref 4), (1, .ref 10), (2, .int (nI h)), (3, .int (nI 0))] s (fun τ => Fr σ τ ∧ PG nb np G τ) := by
    refine bl_dn (N := np) (P := fun p => ∀ s, Fr σ s → s 4 5 = nI nb → s 4 6 = nI np → (∀ p' b', p' < np → b' < nb → p' < p → s 78 (p' * 6 + b') = nI (G p' b')) → EvN (bl_mi 35) 18 [(0, .ref 4), (1, .ref 10), (2, .int (nI h)), (3, .int (nI p))] s (fun τ => Fr σ τ ∧ PG nb np G τ)) ?_ ?_
    · intro s hF h5 h6 hg
      refine ⟨s, ⟨hF, h5, h6, fun p b q1 q2 => hg p b q1 q2 q1⟩, vc_X6_measure_18 _ _ _ _ rfl ⟨fun q => absurd q ?_, fun _ => ⟨rfl, rfl⟩⟩⟩
      rw [h6]
      exact nI_nlt (Nat.le_refl _) (by omega)
    · intro p hpn ihp s hF h5 h6 hg
      have p4 : p < 4 := by omega
      have ri := (hp p hpn).1
      have row : ∀ s, Fr σ s → s 4 5 = nI nb → s 4 6 = nI np → (∀ p' b', p' < np → b' < nb → (p' < p ∨ (p' = p ∧ b' < 0)) → s 78 (p' * 6 + b') = nI (G p' b')) → EvN (bl_mi 35) 29 [(0, .ref 4), (1, .ref 10), (2, .int (nI h)), (3, .int (nI p)), (4, .int (nI 0))] s (fun τ => Fr σ τ ∧ PG nb np G τ) := by
        refine bl_dn (N := nb) (P := fun b => ∀ s, Fr σ s → s 4 5 = nI nb → s 4 6 = nI np → (∀ p' b', p' < np → b' < nb → (p' < p ∨ (p' = p ∧ b' < b)) → s 78 (p' * 6 + b') = nI (G p' b')) → EvN (bl_mi 35) 29 [(0, .ref 4), (1, .ref 10), (2, .int (nI h)), (3, .int (nI p)), (4, .int (nI b))] s (fun τ => Fr σ τ ∧ PG nb np G τ)) ?_ ?_
        · intro s hF h5 h6 hg
          obtain ⟨τ, hP, hW⟩ := ihp s hF h5 h6 (fun p' b' q1 q2 q3 => hg p' b' q1 q2 (by omega))
          refine ⟨τ, hP, vc_X6_measure_29 _ _ _ _ _ rfl ⟨fun q => absurd q ?_, fun _ => ?_⟩⟩
          · rw [h5]
            exact nI_nlt (Nat.le_refl _) (by omega)
          · rw [nI_1]
            exact hW
        · intro b hbn ih s hF h5 h6 hg
          have b6 : b < 6 := by omega
          have rj := (hb b hbn).1
          have hcp : ∀ d, d ≠ 81 → bl_cp 6 s 81 (14 + b) d = s d := fun d hd => bl_cp_c hd
          have hw := c_X5_tryHandfuls (bl_cp 6 s 81 (14 + b)) (r := 20 + p) (b := 81) h (kdp p p4) rfl hh
          rw [hcp (20 + p) (by omega), bl_cp_s (by omega), bl_cp_s (by omega), hF (20 + p) (sc20 p4), hF (14 + b) (sc14 b6), ri 2 (by omega), ri 3 (by omega), ri 4 (by omega), rj 2 (by omega), rj 4 (by omega)] at hw
          have hw : bl_Con (bl_mi 19) [.ref (20 + p), .ref 81, .int (nI h)] (bl_cp 6 s 81 (14 + b)) (some (.int (gs (σ 110 p) (σ 112 p) (σ 104 b) (σ 111 p) (σ 106 b) h))) (bl_up (bl_cp 6 s 81 (14 + b)) 81 4 (hs (σ 110 p) (σ 112 p) (σ 104 b) (σ 106 b) h)) := hw
          rw [(hG p b hpn hbn).1] at hw
          have e6 : nI p * 6 + nI b = nI (p * 6 + b) := by rw [show (6 : Int32) = nI 6 from rfl, nI_mul, nI_add]
          obtain ⟨τ, hP, hW⟩ := ih (bl_up (bl_up (bl_cp 6 s 81 (14 + b)) 81 4 (hs (σ 110 p) (σ 112 p) (σ 104 b) (σ 106 b) h)) 78 (p * 6 + b) (nI (G p b))) (((hF.cp (by decide)).up (by decide)).up (by decide)) (by rw [bl_up_c (by omega), bl_up_c (by omega), hcp 4 (by omega)]; exact h5) (by rw [bl_up_c (by omega), bl_up_c (by omega), hcp 4 (by omega)]; exact h6) (fun p' b' q1 q2 q3 => by
            by_cases e : p' = p ∧ b' = b
            · rw [e.1, e.2, bl_up_s]
            · rw [bl_up_j (by omega), bl_up_c (by omega), hcp 78 (by omega)]
              exact hg p' b' q1 q2 (by omega))
          refine ⟨τ, hP, vc_X6_measure_29 _ _ _ _ _ rfl ⟨fun _ => ⟨rfl, vib b6, ?_⟩, fun q => absurd ?_ q⟩⟩
          · rw [ntb b6, ntp p4, e6, nI_clamp (show p * 6 + b < 2 ^ 31 by omega), nI_1]
            exact ⟨_, c_X1_copyFrom s (a := 81) (b := 14 + b) rfl (kdb b b6), rfl, vip p4, kdp p p4, _, _, hw, vp_in_nI (by omega) (by omega), hW⟩
          · rw [h5]
            exact nI_lt hbn (by omega)
      obtain ⟨τ, hP, hW⟩ := row s hF h5 h6 (fun p' b' q1 q2 q3 => hg p' b' q1 q2 (by omega))
      refine ⟨τ, hP, vc_X6_measure_18 _ _ _ _ rfl ⟨fun _ => hW, fun q => absurd ?_ q⟩⟩
      rw [h6]
      exact nI_lt hpn (by omega)
  obtain ⟨τ, hP, hW⟩ := key (bl_up (bl_up σ 4 5 (σ 10 3)) 4 6 ((bl_up σ 4 5 (σ 10 3)) 10 4)) ((Fr.rf.up (by decide)).up (by decide)) (by rw [bl_up_j (by omega), bl_up_s]; exact hl.2.2.1) (by rw [bl_up_s, bl_up_c (by omega)]; exact hl.2.2.2.2.1) (fun p' b' q1 q2 q3 => by omega)
  exact ⟨τ, hP, bl_c (Nat.le_of_ble_eq_true rfl) (vc_X6_measure_0 σ 10 _ rfl hW)⟩
theorem pow_le7 {nb np : Nat} (h1 : nb ≤ 6) (h2 : np ≤ 4) : (nb + 1) ^ np ≤ 2401 := by
  have a : (nb + 1) ^ np ≤ 7 ^ np := Nat.pow_le_pow_left (by omega) np
  have b : 7 ^ np ≤ 7 ^ 4 := Nat.pow_le_pow_right (by omega) h2
  have c : (7 : Nat) ^ 4 = 2401 := by decide
  omega
theorem rsm_bd {G : Nat → Nat → Nat} {nb B : Nat} {r : Nat → Nat} : ∀ n, (∀ p b, p < n → b < nb → G p b ≤ B) → rsm G nb r n ≤ B * n
  | 0, _ => Nat.zero_le _
  | n + 1, h => by
    have ih := rsm_bd (r := r) n (fun p b q1 q2 => h p b (by omega) q2)
    unfold rsm
    rw [Nat.mul_succ]
    split
    · next q =>
      have := h n (r n) (by omega) q
      omega
    · omega
theorem fN_bd {u : Nat → Nat} {B : Nat} (h : ∀ i, u i ≤ B) : ∀ N, (fN u N).2 ≤ B
  | 0 => Nat.zero_le _
  | N + 1 => by
    unfold fN
    split
    · exact h N
    · exact fN_bd h N
theorem findC {σ : bl_S} {nb np h : Nat} {G : Nat → Nat → Nat} {uC : Nat → Nat} (hl : Jl nb np σ) (hb : Jb nb σ) (hp : Jp np σ) (hG : GG σ nb np h G) (hh : h ≤ 20) (hC : ∀ i, uC i = if rok nb (rows nb np i) np then rsm G nb (rows nb np i) np + 1 else 0) : ∃ τ, (Fr σ τ ∧ τ 4 5 = nI nb ∧ τ 4 0 = iv (fN uC ((nb + 1) ^ np)).2 ∧ (0 < (fN uC ((nb + 1) ^ np)).2 → ∀ k, k < np → τ 80 k = nI (rows nb np (fN uC ((nb + 1) ^ np)).1 k))) ∧ bl_Con (bl_mi 40) [.ref 4, .ref 10, .int (nI h)] σ none τ := by
  have hn := hl.1
  have hn2 := hl.2.1
  have hN := pow_le7 hn hn2
  have hu : ∀ i, uC i ≤ 1601 := by
    intro i
    rw [hC]
    have := rsm_bd (G := G) (nb := nb) (B := 400) (r := rows nb np i) np (fun p b q1 q2 => by have := (hG p b q1 q2).2; omega)
    split <;> omega
  obtain ⟨τ1, ⟨hF1, hP1⟩, hM⟩ := measC hl hb hp hG (by omega)
  obtain ⟨τ2, ⟨f1, f2⟩, hFill⟩ := c_fill (bl_up τ1 4 0 (-1))
  have hP2 : PG nb np G τ2 := ⟨by rw [f1 4 (by omega), bl_up_j (by omega)]; exact hP1.1, by rw [f1 4 (by omega), bl_up_j (by omega)]; exact hP1.2.1, fun p b q1 q2 => by rw [f1 78 (by omega), bl_up_c (by omega)]; exact hP1.2.2 p b q1 q2⟩
  have hF2 : Fr σ τ2 := fun d hd => by
    rw [f1 d (fun e => by rw [e] at hd; exact absurd hd (by decide)), bl_up_ne (fun e => by rw [e] at hd; exact absurd hd (by decide))]
    exact hF1 d hd
  have hcnt := c_X6_countRows τ2 hn2 hP2.1 hP2.2.1
  have key : ∀ s, Fr σ s → PG nb np G s → (∀ k, k < np → s 79 k = nI (rows nb np 0 k)) → s 4 0 = iv (fN uC 0).2 → (0 < (fN uC 0).2 → ∀ k, k < np → s 80 k = nI (rows nb np (fN uC 0).1 k)) → EvN (bl_mi 40) 27 [(0, .ref 4), (1, .ref 10), (2, .int (nI h)), (3, .int (nI ((nb + 1) ^ np))), (4, .int (nI 0))] s (fun τ => Fr σ τ ∧ τ 4 5 = nI nb ∧ τ 4 0 = iv (fN uC ((nb + 1) ^ np)).2 ∧ (0 < (fN uC ((nb + 1) ^ np)).2 → ∀ k, k < np → τ 80 k = nI (rows nb np (fN uC ((nb + 1) ^ np)).1 k))) := by
    refine bl_dn (N := (nb + 1) ^ np) (P := fun i => ∀ s, Fr σ s → PG nb np G s → (∀ k, k < np → s 79 k = nI (rows nb np i k)) → s 4 0 = iv (fN uC i).2 → (0 < (fN uC i).2 → ∀ k, k < np → s 80 k = nI (rows nb np (fN uC i).1 k)) → EvN (bl_mi 40) 27 [(0, .ref 4), (1, .ref 10), (2, .int (nI h)), (3, .int (nI ((nb + 1) ^ np))), (4, .int (nI i))] s (fun τ => Fr σ τ ∧ τ 4 5 = nI nb ∧ τ 4 0 = iv (fN uC ((nb + 1) ^ np)).2 ∧ (0 < (fN uC ((nb + 1) ^ np)).2 → ∀ k, k < np → τ 80 k = nI (rows nb np (fN uC ((nb + 1) ^ np)).1 k)))) ?_ ?_
    · intro s hF hP hr h0 h80
      exact ⟨s, ⟨hF, hP.1, h0, h80⟩, vc_X6_findFor_27 _ _ _ _ _ rfl ⟨fun q => absurd q (nI_nlt (Nat.le_refl _) (by omega)), fun _ => ⟨rfl, rfl⟩⟩⟩
    · intro i hi ih s hF hP hr h0 h80
      have hsum := c_X6_sumOfRow s hn hn2 hP hr (rows_le i)
      rw [← hC] at hsum
      have hcmp : iv (fN uC i).2 < iv (uC i) ↔ (fN uC i).2 < uC i := iv_lt (by have := fN_bd hu i; omega) (by have := hu i; omega)
      obtain ⟨s1, e1⟩ : ∃ s1, s1 = if (s 4 0) < iv (uC i) then (bl_cpy (bl_up s 4 0 (iv (uC i))) 79 80 0 0 4) else s := ⟨_, rfl⟩
      have hc1 : ∀ d, d ≠ 4 → d ≠ 80 → s1 d = s d := by
        intro d q1 q2
        rw [e1]
        split
        · rw [bl_cpy_c q2, bl_up_ne q1]
        · rfl
      have hc2 : ∀ k, k ≠ 0 → s1 4 k = s 4 k := by
        intro k q1
        rw [e1]
        split
        · rw [bl_cpy_c (by omega), bl_up_j q1]
        · rfl
      have hF1' : Fr σ s1 := fun d hd => by
        rw [hc1 d (fun e => by rw [e] at hd; exact absurd hd (by decide)) (fun e => by rw [e] at hd; exact absurd hd (by decide))]
        exact hF d hd
      have hP1' : PG nb np G s1 := ⟨by rw [hc2 5 (by omega)]; exact hP.1, by rw [hc2 6 (by omega)]; exact hP.2.1, fun p b q1 q2 => by rw [hc1 78 (by omega) (by omega)]; exact hP.2.2 p b q1 q2⟩
      have hr1 : ∀ k, k < np → s1 79 k = nI (rows nb np i k) := fun k hk => by rw [hc1 79 (by omega) (by omega)]; exact hr k hk
      obtain ⟨τ, ⟨t1, t2⟩, hSt⟩ := c_X6_stepRow s1 hn hn2 hP1'.1 hP1'.2.1 hr1 (rows_le i)
      have e08 : s1 4 0 = iv (fN uC (i + 1)).2 ∧ (0 < (fN uC (i + 1)).2 → ∀ k, k < np → s1 80 k = nI (rows nb np (fN uC (i + 1)).1 k)) := by
        by_cases q : (fN uC i).2 < uC i
        · have eN : fN uC (i + 1) = (i, uC i) := if_pos q
          rw [if_pos (by rw [h0]; exact hcmp.mpr q)] at e1
          rw [eN, e1]
          refine ⟨by rw [bl_cpy_c (by omega), bl_up_s], fun _ k hk => ?_⟩
          rw [bl_cpy_s]
          unfold va_cpy
          rw [if_pos (by omega), bl_up_c (by omega), show 0 + (k - 0) = k by omega]
          exact hr k hk
        · have eN : fN uC (i + 1) = fN uC i := if_neg q
          rw [if_neg (by rw [h0]; exact fun z => q (hcmp.mp z))] at e1
          rw [eN, e1]
          exact ⟨h0, h80⟩
      obtain ⟨e0, e80⟩ := e08
      obtain ⟨υ, hPυ, hW⟩ := ih τ (fun d hd => by rw [t1 d (fun e => by rw [e] at hd; exact absurd hd (by decide))]; exact hF1' d hd) ⟨by rw [t1 4 (by omega)]; exact hP1'.1, by rw [t1 4 (by omega)]; exact hP1'.2.1, fun p b q1 q2 => by rw [t1 78 (by omega)]; exact hP1'.2.2 p b q1 q2⟩ t2 (by rw [t1 4 (by omega)]; exact e0) (by rw [t1 80 (by omega)]; exact e80)
      refine ⟨υ, hPυ, vc_X6_findFor_27 _ _ _ _ _ rfl ⟨fun _ => ⟨_, _, hsum, fun σ17 e17 => ?_⟩, fun q => absurd (nI_lt hi (by omega)) q⟩⟩
      rw [← e1] at e17
      rw [e17, nI_1]
      exact ⟨_, hSt, hW⟩
  obtain ⟨τ, hP, hW⟩ := key τ2 hF2 hP2 (fun k hk => f2 k (by omega)) (by rw [f1 4 (by omega), bl_up_s]; rfl) (fun z => absurd z (Nat.lt_irrefl 0))
  exact ⟨τ, hP, bl_c (Nat.le_of_ble_eq_true rfl) (vc_X6_findFor_0 σ 10 _ rfl ⟨_, hM, _, hFill, _, _, hcnt, hW⟩)⟩
/-! the reference -/
theorem cansM {σ : bl_S} {nb np h : Nat} {G : Nat → Nat → Nat} (hl : Jl nb np σ) (hG : GG σ nb np h G) (hh : h < 2 ^ 31) {s0 : bl_S} (hF0 : Fr σ s0) : ∃ τ, ((TA nb σ τ ∧ Fr σ τ) ∧ ∀ p b, p < np → b < nb → τ 134 (6 * p + b) = nI (G p b)) ∧ bl_Con (bl_mi 150) [.ref 1, .int (nI h)] s0 none τ := by
  have hn := hl.1
  have hn2 := hl.2.1
  have key : ∀ s, (TA nb σ s ∧ Fr σ s) → (∀ p' b', p' < np → b' < nb → p' < 0 → s 134 (6 * p' + b') = nI (G p' b')) → EvN (bl_mi 150) 6 [(0, .ref 1), (1, .int (nI h)), (2, .int (nI 0))] s (fun τ => (TA nb σ τ ∧ Fr σ τ) ∧ ∀ p b, p < np → b < nb → τ 134 (6 * p + b) = nI (G p b)) := by
    refine bl_dn (N := np) (P := fun p => ∀ s, (TA nb σ s ∧ Fr σ s) → (∀ p' b', p' < np → b' < nb → p' < p → s 134 (6 * p' + b') = nI (G p' b')) → EvN (bl_mi 150) 6 [(0, .ref 1), (1, .int (nI h)), (2, .int (nI p))] s (fun τ => (TA nb σ τ ∧ Fr σ τ) ∧ ∀ p b, p < np → b < nb → τ 134 (6 * p + b) = nI (G p b))) ?_ ?_
    · intro s hS hg
      refine ⟨s, ⟨hS, fun p b q1 q2 => hg p b q1 q2 q1⟩, vc_X11_findCans_6 _ _ _ ⟨fun q => absurd q ?_, fun _ => ⟨rfl, rfl⟩⟩⟩
      rw [hS.2 1 (by decide), hl.2.2.2.2.2.1]
      exact nI_nlt (Nat.le_refl _) (by omega)
    · intro p hpn ihp s hS hg
      have p4 : p < 4 := by omega
      have row : ∀ s, (TA nb σ s ∧ Fr σ s) → (∀ p' b', p' < np → b' < nb → (p' < p ∨ (p' = p ∧ b' < 0)) → s 134 (6 * p' + b') = nI (G p' b')) → EvN (bl_mi 150) 16 [(0, .ref 1), (1, .int (nI h)), (2, .int (nI p)), (3, .int (nI 0))] s (fun τ => (TA nb σ τ ∧ Fr σ τ) ∧ ∀ p b, p < np → b < nb → τ 134 (6 * p + b) = nI (G p b)) := by
        refine bl_dn (N := nb) (P := fun b => ∀ s, (TA nb σ s ∧ Fr σ s) → (∀ p' b', p' < np → b' < nb → (p' < p ∨ (p' = p ∧ b' < b)) → s 134 (6 * p' + b') = nI (G p' b')) → EvN (bl_mi 150) 16 [(0, .ref 1), (1, .int (nI h)), (2, .int (nI p)), (3, .int (nI b))] s (fun τ => (TA nb σ τ ∧ Fr σ τ) ∧ ∀ p b, p < np → b < nb → τ 134 (6 * p + b) = nI (G p b))) ?_ ?_
        · intro s hS hg
          obtain ⟨τ, hP, hW⟩ := ihp s hS (fun p' b' q1 q2 q3 => hg p' b' q1 q2 (by omega))
          refine ⟨τ, hP, vc_X11_findCans_16 _ _ _ _ ⟨fun q => absurd q ?_, fun _ => ?_⟩⟩
          · rw [hS.2 1 (by decide), hl.2.2.2.1]
            exact nI_nlt (Nat.le_refl _) (by omega)
          · rw [nI_1]
            exact hW
        · intro b hbn ih s hS hg
          have b6 : b < 6 := by omega
          have e6 : 6 * nI p + nI b = nI (6 * p + b) := by rw [show (6 : Int32) = nI 6 from rfl, nI_mul, nI_add]
          have take : bl_Wx (bl_mi 150) 30 [(0, .ref 1), (1, .int (nI h)), (2, .int (nI p)), (3, .int (nI b)), (4, .int (gs (σ 110 p) (σ 112 p) (σ 104 b) (σ 111 p) (σ 106 b) 0)), (5, .int (nI 0))] [] (bl_up s 106 b (hs (σ 110 p) (σ 112 p) (σ 104 b) (σ 106 b) 0)) = bl_Wx (bl_mi 150) 30 [(0, .ref 1), (1, .int (nI h)), (2, .int (nI p)), (3, .int (nI b)), (4, .int 0), (5, .int 0)] [] s := by
            have : bl_up s 106 b (hs (σ 110 p) (σ 112 p) (σ 104 b) (σ 106 b) 0) = s := bl_up_id' (by rw [hS.2 106 (by decide)]; rfl)
            rw [this]
            rfl
          have hT : ∀ v, TA nb σ (bl_up s 106 b v) := fun v => hS.1.ripe hbn
          have inner : EvN (bl_mi 150) 30 [(0, .ref 1), (1, .int (nI h)), (2, .int (nI p)), (3, .int (nI b)), (4, .int (gs (σ 110 p) (σ 112 p) (σ 104 b) (σ 111 p) (σ 106 b) 0)), (5, .int (nI 0))] (bl_up s 106 b (hs (σ 110 p) (σ 112 p) (σ 104 b) (σ 106 b) 0)) (fun τ => (TA nb σ τ ∧ Fr σ τ) ∧ ∀ p b, p < np → b < nb → τ 134 (6 * p + b) = nI (G p b)) := by
            refine bl_dn (N := h) (P := fun m => EvN (bl_mi 150) 30 [(0, .ref 1), (1, .int (nI h)), (2, .int (nI p)), (3, .int (nI b)), (4, .int (gs (σ 110 p) (σ 112 p) (σ 104 b) (σ 111 p) (σ 106 b) m)), (5, .int (nI m))] (bl_up s 106 b (hs (σ 110 p) (σ 112 p) (σ 104 b) (σ 106 b) m)) (fun τ => (TA nb σ τ ∧ Fr σ τ) ∧ ∀ p b, p < np → b < nb → τ 134 (6 * p + b) = nI (G p b))) ?_ ?_
            · have hT2 := (hT (hs (σ 110 p) (σ 112 p) (σ 104 b) (σ 106 b) h)).pb hbn
              have hF2 : Fr σ (pbM b (bl_up s 106 b (hs (σ 110 p) (σ 112 p) (σ 104 b) (σ 106 b) h))) := (hS.1.tm hbn hS.2).ripe.back
              obtain ⟨τ, hP, hW⟩ := ih (bl_up (pbM b (bl_up s 106 b (hs (σ 110 p) (σ 112 p) (σ 104 b) (σ 106 b) h))) 134 (6 * p + b) (nI (G p b))) ⟨hT2.up (by decide) (by omega), hF2.up (by decide)⟩ (fun p' b' q1 q2 q3 => by
                by_cases e : p' = p ∧ b' = b
                · rw [e.1, e.2, bl_up_s]
                · rw [bl_up_j (by omega), pbM_c (by omega), bl_up_c (by omega)]
                  exact hg p' b' q1 q2 (by omega))
              refine ⟨τ, hP, vc_X11_findCans_30 _ _ _ _ _ _ ⟨fun q => absurd q (nI_nlt (Nat.le_refl _) hh), fun _ => ⟨_, c_X11_putBack _ b6, ?_⟩⟩⟩
              rw [e6, nI_clamp (show 6 * p + b < 2 ^ 31 by omega), nI_1, (hG p b hpn hbn).1]
              exact ⟨vp_in_nI (by omega) (by omega), hW⟩
            · intro m hm ihm
              obtain ⟨τ, hP, hW⟩ := ihm
              have hTm := hT (hs (σ 110 p) (σ 112 p) (σ 104 b) (σ 106 b) m)
              have c1 := c_X11_handful (bl_up s 106 b (hs (σ 110 p) (σ 112 p) (σ 104 b) (σ 106 b) m)) p4 b6
              rw [hTm.at 110 (by decide) (by omega), hTm.at 112 (by decide) (by omega), hTm.at 104 (by decide) (by omega), bl_up_s, bl_up_up] at c1
              have d1 := c_X11_rest (bl_up s 106 b (hs (σ 110 p) (σ 112 p) (σ 104 b) (σ 106 b) m - hq (σ 110 p) (σ 112 p) (σ 104 b) (hs (σ 110 p) (σ 112 p) (σ 104 b) (σ 106 b) m))) (hq (σ 110 p) (σ 112 p) (σ 104 b) (hs (σ 110 p) (σ 112 p) (σ 104 b) (σ 106 b) m)) (σ 111 p)
              rw [gn_rest] at d1
              refine ⟨τ, hP, vc_X11_findCans_30 _ _ _ _ _ _ ⟨fun _ => ⟨_, _, c1, vip p4, ?_⟩, fun q => absurd (nI_lt hm hh) q⟩⟩
              rw [ntp p4, (hT _).at 111 (by decide) (by omega), nI_1]
              exact ⟨_, _, d1, hW⟩
          obtain ⟨τ, hP, hW⟩ := inner
          rw [take] at hW
          refine ⟨τ, hP, vc_X11_findCans_16 _ _ _ _ ⟨fun _ => hW, fun q => absurd ?_ q⟩⟩
          rw [hS.2 1 (by decide), hl.2.2.2.1]
          exact nI_lt hbn (by omega)
      obtain ⟨τ, hP, hW⟩ := row s hS (fun p' b' q1 q2 q3 => hg p' b' q1 q2 (by omega))
      refine ⟨τ, hP, vc_X11_findCans_6 _ _ _ ⟨fun _ => hW, fun q => absurd ?_ q⟩⟩
      rw [hS.2 1 (by decide), hl.2.2.2.2.2.1]
      exact nI_lt hpn (by omega)
  have hF2 : Fr σ (svM nb s0) := by
    intro d hd
    rw [svM_c ?_]
    · exact hF0 d hd
    · refine ⟨?_, ?_, ?_⟩ <;> · intro e; rw [e] at hd; exact absurd hd (by decide)
  obtain ⟨τ, hP, hW⟩ := key (svM nb s0) ⟨TA.fr hF0 TA.save, hF2⟩ (fun p' b' q1 q2 q3 => by omega)
  exact ⟨τ, hP, bl_c (Nat.le_of_ble_eq_true rfl) (vc_X11_findCans_0 s0 _ ⟨_, c_X11_save s0 hn (by rw [hF0 1 (by decide)]; exact hl.2.2.2.1), hW⟩)⟩
theorem c_X11_figure (s : bl_S) {nb np p : Nat} {r : Nat → Nat} (hn : nb ≤ 6) (hn2 : np ≤ 4) (h4 : s 1 4 = nI nb) (h11 : s 1 11 = nI np) (hp : p < np) (hle : ∀ k, r k ≤ nb) : bl_Con (bl_mi 151) [.ref 1, .int (nI (rcod nb r np)), .int (nI p)] s (some (.int (nI (r p)))) s := by
  have hbd : ∀ n, n ≤ 4 → rcod nb r n < 2401 := fun n hn4 => Nat.lt_of_lt_of_le (rcod_lt n (fun k _ => hle k)) (pow_le7 hn hn4)
  have hnz : ¬ nI nb + 1 = 0 := by
    rw [nI_1]
    exact nI_ne0 (by omega) (by omega)
  refine bl_c (Nat.le_of_ble_eq_true rfl) (vc_X11_figure_0 s _ _ ?_)
  rw [nI_1]
  have key := bl_dn (N := np - (p + 1)) (P := fun j => bl_Wx (bl_mi 151) 7 [(0, .ref 1), (1, .int (nI (rcod nb r np))), (2, .int (nI p)), (3, .int (nI (rcod nb r (np - j)))), (4, .int (nI (p + 1 + j)))] [] s (fun v τ => v = some (.int (nI (r p))) ∧ τ = s)) ?_ ?_
  · exact key
  · have e : np - (np - (p + 1)) = p + 1 := by omega
    have e2 : p + 1 + (np - (p + 1)) = np := by omega
    rw [e, e2]
    have hd := rcod_div (nb := nb) (r := r) (n := p) (hle p)
    refine vc_X11_figure_7 _ _ _ _ _ ⟨fun q => absurd q ?_, fun _ => ?_⟩
    · rw [h11]
      exact nI_nlt (Nat.le_refl _) (by omega)
    · rw [h4]
      refine ⟨hnz, ?_, rfl⟩
      have hb := hbd (p + 1) (by omega)
      have hm := Nat.div_add_mod (rcod nb r (p + 1)) (nb + 1)
      rw [nI_1, pk_div (by omega) (by omega) (by omega), nI_mul, pk_sub (by rw [Nat.mul_comm]; omega)]
      have : rcod nb r (p + 1) - rcod nb r (p + 1) / (nb + 1) * (nb + 1) = r p := by
        rw [← hd.2, Nat.mul_comm]
        omega
      rw [this]
  · intro j hj ih
    have hsub : np - j = (np - (j + 1)) + 1 := by omega
    have hd := rcod_div (nb := nb) (r := r) (n := np - (j + 1)) (hle _)
    refine vc_X11_figure_7 _ _ _ _ _ ⟨fun _ => ?_, fun q => absurd ?_ q⟩
    · rw [h4]
      refine ⟨hnz, ?_⟩
      have hb := hbd (np - j) (by omega)
      rw [nI_1, pk_div (by omega) (by omega) (by omega), hsub, hd.1, nI_1]
      exact ih
    · rw [h11]
      exact nI_lt (by omega) (by omega)
