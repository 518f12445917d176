/-! TRIED, all bushes: putAllBack; judge, eats -/
def Ev (M : bl_MI) (pc : Nat) (lv : List (Nat × Value)) (s : bl_S) (r : Int32) (P : bl_S → Prop) : Prop := ∃ τ, P τ ∧ bl_Wx M pc lv [] s (fun v t => v = some (.int r) ∧ t = τ)
def paM (n : Nat) (σ : bl_S) : bl_S := itn pbM n σ
theorem pbM_c {b d : Nat} {s : bl_S} (h : d ≠ 105 ∧ d ≠ 106 ∧ d ≠ 107) : pbM b s d = s d := by
  unfold pbM
  rw [bl_up_ne h.2.2, bl_up_ne h.2.1, bl_up_ne h.1]
theorem pbM_j {b d j : Nat} {s : bl_S} (h : j ≠ b) : pbM b s d j = s d j := by
  unfold pbM
  rw [bl_up_j h, bl_up_j h, bl_up_j h]
theorem pbM_b {b : Nat} {s : bl_S} : pbM b s 105 b = s 129 b ∧ pbM b s 106 b = s 130 b ∧ pbM b s 107 b = s 131 b := by
  unfold pbM
  refine ⟨?_, ?_, ?_⟩
  · rw [bl_up_c (by omega), bl_up_c (by omega), bl_up_s]
  · rw [bl_up_c (by omega), bl_up_s]
  · rw [bl_up_s]
theorem paM_c {d : Nat} {s : bl_S} (h : d ≠ 105 ∧ d ≠ 106 ∧ d ≠ 107) : ∀ n, paM n s d = s d
  | 0 => rfl
  | n + 1 => by
    show pbM n (paM n s) d = s d
    rw [pbM_c h, paM_c h n]
theorem paM_j {d j : Nat} {s : bl_S} : ∀ n, n ≤ j → paM n s d j = s d j
  | 0, _ => rfl
  | n + 1, h => by
    show pbM n (paM n s) d j = s d j
    rw [pbM_j (by omega), paM_j n (by omega)]
theorem paM_b {b : Nat} {s : bl_S} : ∀ n, b < n → paM n s 105 b = s 129 b ∧ paM n s 106 b = s 130 b ∧ paM n s 107 b = s 131 b
  | 0, h => by omega
  | n + 1, h => by
    show pbM n (paM n s) 105 b = s 129 b ∧ pbM n (paM n s) 106 b = s 130 b ∧ pbM n (paM n s) 107 b = s 131 b
    by_cases e : b = n
    · subst e
      have := pbM_b (b := b) (s := paM b s)
      rw [paM_c (d := 129) (by omega), paM_c (d := 130) (by omega), paM_c (d := 131) (by omega)] at this
      exact this
    · rw [pbM_j e, pbM_j e, pbM_j e]
      exact paM_b n (by omega)
theorem c_X11_putAllBack (σ : bl_S) {nb : Nat} (hn : nb ≤ 6) (h4 : σ 1 4 = nI nb) : bl_Con (bl_mi 142) [.ref 1] σ none (paM nb σ) := by
  refine bl_c (Nat.le_of_ble_eq_true rfl) (vc_X11_putAllBack_0 σ ?_)
  refine bl_dn (N := nb) (P := fun i => bl_Wx (bl_mi 142) 2 [(0, .ref 1), (1, .int (nI i))] [] (paM i σ) (fun v τ => v = none ∧ τ = paM nb σ)) ?_ ?_
  · refine vc_X11_putAllBack_2 _ _ ⟨fun q => absurd q ?_, fun _ => ⟨rfl, rfl⟩⟩
    rw [paM_c (by omega), h4]
    exact nI_nlt (Nat.le_refl _) (by omega)
  · intro i hi ih
    refine vc_X11_putAllBack_2 _ _ ⟨fun _ => ⟨_, c_X11_putBack _ (by omega), ?_⟩, fun q => absurd ?_ q⟩
    · rw [nI_1]
      exact ih
    · rw [paM_c (by omega), h4]
      exact nI_lt hi (by omega)
/-- s is σ but for the bushes of the reference, that are saved, and cells that the invariant doesn't speak of -/
def TA (nb : Nat) (σ s : bl_S) : Prop := (∀ d, bl_scr d = false → d ≠ 105 → d ≠ 106 → d ≠ 107 → s d = σ d) ∧ (∀ d j, d = 105 ∨ d = 106 ∨ d = 107 → nb ≤ j → s d j = σ d j) ∧ ∀ b, b < nb → s 129 b = σ 105 b ∧ s 130 b = σ 106 b ∧ s 131 b = σ 107 b
theorem TA.back {nb : Nat} {σ s : bl_S} (h : TA nb σ s) : Fr σ (paM nb s) := by
  obtain ⟨h1, h2, h3⟩ := h
  intro d hd
  by_cases e : d = 105 ∨ d = 106 ∨ d = 107
  · funext j
    by_cases hj : j < nb
    · have := paM_b (s := s) nb hj
      have g := h3 j hj
      rcases e with rfl | rfl | rfl
      · rw [this.1, g.1]
      · rw [this.2.1, g.2.1]
      · rw [this.2.2, g.2.2]
    · rw [paM_j nb (by omega)]
      exact h2 d j e (by omega)
  · rw [paM_c (by omega)]
    exact h1 d hd (by omega) (by omega) (by omega)
theorem TA.save {nb : Nat} {σ : bl_S} : TA nb σ (svM nb σ) := by
  have hc : ∀ d, bl_scr d = false → d ≠ 129 ∧ d ≠ 130 ∧ d ≠ 131 := by
    intro d hd
    refine ⟨?_, ?_, ?_⟩ <;> · intro e; rw [e] at hd; exact absurd hd (by decide)
  exact ⟨fun d hd _ _ _ => svM_c (hc d hd), fun d j hd _ => by rw [svM_c (by omega)], fun b hb => svM_b hb⟩
theorem TA.fr {nb : Nat} {σ τ s : bl_S} (hf : Fr σ τ) (h : TA nb τ s) : TA nb σ s := by
  obtain ⟨h1, h2, h3⟩ := h
  have e5 := hf 105 (by decide)
  have e6 := hf 106 (by decide)
  have e7 := hf 107 (by decide)
  refine ⟨fun d hd a1 a2 a3 => by rw [h1 d hd a1 a2 a3]; exact hf d hd, fun d j hd hj => by rw [h2 d j hd hj]; rcases hd with rfl | rfl | rfl <;> first | rw [e5] | rw [e6] | rw [e7], fun b hb => ?_⟩
  have := h3 b hb
  rw [e5, e6, e7] at this
  exact this
theorem TA.ripe {nb b : Nat} {σ s : bl_S} {v : Int32} (hb : b < nb) (h : TA nb σ s) : TA nb σ (bl_up s 106 b v) := by
  obtain ⟨h1, h2, h3⟩ := h
  refine ⟨fun d hd a1 a2 a3 => by rw [bl_up_ne a2]; exact h1 d hd a1 a2 a3, fun d j hd hj => by rw [bl_up_j (by omega)]; exact h2 d j hd hj, fun c hc => ?_⟩
  rw [bl_up_c (by omega), bl_up_c (by omega), bl_up_c (by omega)]
  exact h3 c hc
theorem TA.up {nb c j : Nat} {σ s : bl_S} {v : Int32} (hc : bl_scr c = true) (hc2 : c ≠ 129 ∧ c ≠ 130 ∧ c ≠ 131) (h : TA nb σ s) : TA nb σ (bl_up s c j v) := by
  obtain ⟨h1, h2, h3⟩ := h
  have hne : ∀ d, bl_scr d = false → d ≠ c := fun d hd e => by rw [e, hc] at hd; cases hd
  refine ⟨fun d hd a1 a2 a3 => by rw [bl_up_ne (hne d hd)]; exact h1 d hd a1 a2 a3, fun d k hd hk => ?_, fun b hb => ?_⟩
  · rw [bl_up_c (by rcases hd with rfl | rfl | rfl <;> exact hne _ (by decide))]
    exact h2 d k hd hk
  · rw [bl_up_c (by omega), bl_up_c (by omega), bl_up_c (by omega)]
    exact h3 b hb
theorem TA.pb {nb b : Nat} {σ s : bl_S} (hb : b < nb) (h : TA nb σ s) : TA nb σ (pbM b s) := by
  obtain ⟨h1, h2, h3⟩ := h
  refine ⟨fun d hd a1 a2 a3 => by rw [pbM_c ⟨a1, a2, a3⟩]; exact h1 d hd a1 a2 a3, fun d j hd hj => by rw [pbM_j (by omega)]; exact h2 d j hd hj, fun c hc => ?_⟩
  rw [pbM_c (by omega), pbM_c (by omega), pbM_c (by omega)]
  exact h3 c hc
theorem TA.pa {nb : Nat} {σ s : bl_S} (h : TA nb σ s) : TA nb σ (paM nb s) := by
  obtain ⟨h1, h2, h3⟩ := h
  refine ⟨fun d hd a1 a2 a3 => by rw [paM_c ⟨a1, a2, a3⟩]; exact h1 d hd a1 a2 a3, fun d j hd hj => by rw [paM_j nb hj]; exact h2 d j hd hj, fun c hc => ?_⟩
  rw [paM_c (by omega), paM_c (by omega), paM_c (by omega)]
  exact h3 c hc
theorem TA.at {nb : Nat} {σ s : bl_S} (h : TA nb σ s) (d : Nat) (hd : bl_scr d = false) (a : d ≠ 105 ∧ d ≠ 106 ∧ d ≠ 107) : s d = σ d := h.1 d hd a.1 a.2.1 a.2.2
/-! judge -/
def jR (σ : bl_S) : Nat → Nat → Int32
  | 0 => fun b => σ 106 b
  | k + 1 => fun b => if b = Int32.toNatClampNeg (σ 143 k) then jR σ k b - hq (σ 110 (Int32.toNatClampNeg (σ 142 k))) (σ 112 (Int32.toNatClampNeg (σ 142 k))) (σ 104 b) (jR σ k b) else jR σ k b
theorem pr_judge {σ : bl_S} (h : Inv σ) : Pr 96 169 [] σ := by
  obtain ⟨nb, np, nt, a, b, c, hl, hb, hp, hz, ht, hs', hm'⟩ := id h
  have hn := hl.1
  have hn2 := hl.2.1
  obtain ⟨ha8, hb8, hc20, -, -, -, -, -, -, h85, h158, -, -, -, hbk⟩ := hs'
  have neg1 : (-1 : Int32) < 0 := by decide
  have key : ∃ r, (∀ s, Fr σ s → (∀ i, i < nb → s 89 i = jR σ 0 i) → Ev (bl_mi 62) 33 [(0, .ref 6), (1, .ref 10), (2, .int (nI 0))] s r (Fr σ)) ∧ (∀ s, TA nb σ s → (∀ i, i < nb → s 106 i = jR σ 0 i) → Ev (bl_mi 169) 8 [(0, .ref 1), (1, .int (-1)), (2, .int (nI 0))] s r (Fr σ)) := by
    refine bl_dn (N := c) (P := fun m => ∃ r, (∀ s, Fr σ s → (∀ i, i < nb → s 89 i = jR σ m i) → Ev (bl_mi 62) 33 [(0, .ref 6), (1, .ref 10), (2, .int (nI m))] s r (Fr σ)) ∧ (∀ s, TA nb σ s → (∀ i, i < nb → s 106 i = jR σ m i) → Ev (bl_mi 169) 8 [(0, .ref 1), (1, .int (-1)), (2, .int (nI m))] s r (Fr σ))) ?_ ?_
    · refine ⟨-1, fun s hF hR => ⟨s, hF, vc_X8_firstWrong_33 _ _ _ rfl ⟨fun q => absurd q ?_, fun _ => ⟨rfl, rfl⟩⟩⟩, fun s hT hR => ⟨_, hT.back, vc_X11_judge_8 _ _ _ ⟨fun q => absurd q ?_, fun _ => ⟨_, c_X11_putAllBack s hn (by rw [hT.at 1 (by decide) (by omega)]; exact hl.2.2.2.1), rfl, rfl⟩⟩⟩⟩
      · rw [hF 85 (by decide), h85]
        exact nI_nlt (Nat.le_refl _) (by omega)
      · rw [hT.at 1 (by decide) (by omega), h158]
        exact nI_nlt (Nat.le_refl _) (by omega)
    · intro m hm ⟨r, ihC, ihM⟩
      obtain ⟨e98, e99, e101, ⟨p, hpn, e142⟩, j, hjn, e143⟩ := hbk m hm
      have p4 : p < 4 := by omega
      have j6 : j < 6 := by omega
      have m20 : Int32.toNatClampNeg (nI m) = m := nI_clamp (by omega)
      have v20 : vp_in (nI m) 20 := vp_in_nI (by omega) (by omega)
      have ri := (hp p hpn).1
      have rj := (hb j hjn).1
      have c99 : σ 99 m = nI j := by rw [e99, e143]
      have c98 : σ 98 m = nI p := by rw [e98, e142]
      have hn143 : Int32.toNatClampNeg (σ 143 m) = j := by rw [e143, ntb j6]
      have hn142 : Int32.toNatClampNeg (σ 142 m) = p := by rw [e142, ntp p4]
      have hv : ∃ g, g = hq (σ 110 p) (σ 112 p) (σ 104 j) (jR σ m j) := ⟨_, rfl⟩
      obtain ⟨g, eg⟩ := hv
      have jN : ∀ i, jR σ (m + 1) i = if i = j then jR σ m j - g else jR σ m i := by
        intro i
        show (if i = Int32.toNatClampNeg (σ 143 m) then jR σ m i - hq (σ 110 (Int32.toNatClampNeg (σ 142 m))) (σ 112 (Int32.toNatClampNeg (σ 142 m))) (σ 104 i) (jR σ m i) else jR σ m i) = _
        rw [hn143, hn142]
        by_cases q : i = j
        · rw [if_pos q, if_pos q, q, eg]
        · rw [if_neg q, if_neg q]
      -- the class's step
      have stC : ∀ s r, Fr σ s → (∀ i, i < nb → s 89 i = jR σ m i) → ((g = σ 144 m → Ev (bl_mi 62) 33 [(0, .ref 6), (1, .ref 10), (2, .int (nI (m + 1)))] (bl_up (bl_up (bl_cp 6 s 87 (14 + j)) 87 4 (jR σ m j)) 89 j (jR σ m j - g)) r (Fr σ)) ∧ (¬ g = σ 144 m → r = nI m)) → Ev (bl_mi 62) 33 [(0, .ref 6), (1, .ref 10), (2, .int (nI m))] s r (Fr σ) := by
        intro s r hF hR hE
        have s85 := hF 85 (by decide)
        have s99 : s 99 m = nI j := by rw [hF 99 (by decide), c99]
        have hcp : ∀ d, d ≠ 87 → bl_cp 6 s 87 (14 + j) d = s d := fun d hd => bl_cp_c hd
        have hcu : ∀ d, d ≠ 87 → bl_up (bl_cp 6 s 87 (14 + j)) 87 4 (jR σ m j) d = s d := fun d hd => by rw [bl_up_ne hd, hcp d hd]
        have hw := c_X5_wouldGet (bl_up (bl_cp 6 s 87 (14 + j)) 87 4 (jR σ m j)) (r := 20 + p) (b := 87) (kdp p p4) rfl
        rw [hcu (20 + p) (by omega), hF (20 + p) (sc20 p4), bl_up_s, bl_up_j (by omega), bl_cp_s (by omega), hF (14 + j) (sc14 j6), ri 2 (by omega), ri 4 (by omega), rj 2 (by omega), ← eg] at hw
        have fin : ∀ τ, (∃ (y : Int32) (u : bl_S), bl_Con (bl_mi 2) [.ref (20 + p), .ref 87] (bl_up (bl_cp 6 s 87 (14 + j)) 87 4 (jR σ m j)) (some (.int y)) u ∧ ((y = u 101 m → ∀ v : Int32, v = u 89 j - y → bl_Wx (bl_mi 62) 33 [(0, .ref 6), (1, .ref 10), (2, .int (nI m + 1))] [] (bl_up u 89 j v) (fun v t => v = some (.int r) ∧ t = τ)) ∧ (¬ y = u 101 m → (some (.int (nI m)) : Option Value) = some (.int r) ∧ u = τ))) → bl_Wx (bl_mi 62) 33 [(0, .ref 6), (1, .ref 10), (2, .int (nI m))] [] s (fun v t => v = some (.int r) ∧ t = τ) := by
          intro τ hfin
          refine vc_X8_firstWrong_33 _ _ _ rfl ⟨fun _ => ⟨v20, rfl, ?_, ?_⟩, fun q => absurd ?_ q⟩
          · rw [m20, s99]
            exact vib j6
          · rw [m20, s99, ntb j6]
            refine ⟨_, c_X1_copyFrom s (a := 87) (b := 14 + j) rfl (kdb j j6), vib j6, fun v e => ⟨rfl, ?_, ?_, ?_⟩⟩
            · rw [hcp 98 (by omega), hF 98 (by decide), c98]
              exact vip p4
            · rw [hcp 98 (by omega), hF 98 (by decide), c98, ntp p4]
              exact kdp p p4
            · rw [hcp 98 (by omega), hF 98 (by decide), c98, ntp p4]
              rw [hcp 89 (by omega), hR j hjn] at e
              rw [e]
              exact hfin
          · rw [s85, h85]
            exact nI_lt hm (by omega)
        by_cases q : g = σ 144 m
        · obtain ⟨τ, hP, hW⟩ := hE.1 q
          refine ⟨τ, hP, fin τ ⟨_, _, hw, fun _ v e => ?_, fun z => absurd ?_ z⟩⟩
          · rw [hcu 89 (by omega), hR j hjn] at e
            rw [e, nI_1]
            exact hW
          · rw [hcu 101 (by omega), hF 101 (by decide), e101]
            exact q
        · have hr := hE.2 q
          refine ⟨_, ?_, fin _ ⟨_, _, hw, fun z => absurd ?_ q, fun _ => ⟨by rw [hr], rfl⟩⟩⟩
          · exact (hF.cp (by decide)).up (by decide)
          · rw [hcu 101 (by omega), hF 101 (by decide), e101] at z
            exact z
      have stM : ∀ s r, TA nb σ s → (∀ i, i < nb → s 106 i = jR σ m i) → Ev (bl_mi 169) 8 [(0, .ref 1), (1, .int (if g = σ 144 m then -1 else nI m)), (2, .int (nI (m + 1)))] (bl_up s 106 j (jR σ m j - g)) r (Fr σ) → Ev (bl_mi 169) 8 [(0, .ref 1), (1, .int (-1)), (2, .int (nI m))] s r (Fr σ) := by
        intro s r hT hR hE
        obtain ⟨τ, hP, hW⟩ := hE
        have s1 := hT.at 1 (by decide) (by omega)
        have hg := c_X11_handful s p4 j6
        rw [hT.at 110 (by decide) (by omega), hT.at 112 (by decide) (by omega), hT.at 104 (by decide) (by omega), hR j hjn, ← eg] at hg
        refine ⟨τ, hP, vc_X11_judge_8 _ _ _ ⟨fun _ => ⟨fun _ => ⟨v20, ?_⟩, fun q => absurd neg1 q⟩, fun q => absurd ?_ q⟩⟩
        · rw [m20, hT.at 142 (by decide) (by omega), hT.at 143 (by decide) (by omega), e142, e143]
          refine ⟨_, _, hg, fun v e => ?_⟩
          rw [bl_up_c (by omega), hT.at 144 (by decide) (by omega)] at e
          rw [e, nI_1]
          exact hW
        · rw [s1, h158]
          exact nI_lt hm (by omega)
      by_cases q : g = σ 144 m
      · refine ⟨r, fun s hF hR => stC s r hF hR ⟨fun _ => ihC _ ?_ ?_, fun z => absurd q z⟩, fun s hT hR => stM s r hT hR ?_⟩
        · exact ((hF.cp (by decide)).up (by decide)).up (by decide)
        · intro i hi
          rw [jN i]
          by_cases q2 : i = j
          · rw [if_pos q2, q2, bl_up_s]
          · rw [if_neg q2, bl_up_j q2, bl_up_c (by omega), bl_cp_c (by omega)]
            exact hR i hi
        · rw [if_pos q]
          refine ihM _ (hT.ripe hjn) ?_
          intro i hi
          rw [jN i]
          by_cases q2 : i = j
          · rw [if_pos q2, q2, bl_up_s]
          · rw [if_neg q2, bl_up_j q2]
            exact hR i hi
      · refine ⟨nI m, fun s hF hR => stC s (nI m) hF hR ⟨fun z => absurd z q, fun _ => rfl⟩, fun s hT hR => stM s (nI m) hT hR ?_⟩
        rw [if_neg q]
        have hT2 := hT.ripe (v := jR σ m j - g) hjn
        have hput := c_X11_putAllBack (bl_up s 106 j (jR σ m j - g)) hn (by rw [hT2.at 1 (by decide) (by omega)]; exact hl.2.2.2.1)
        refine ⟨_, hT2.back, vc_X11_judge_8 _ _ _ ⟨fun _ => ⟨fun z => absurd z ?_, fun _ => ⟨_, hput, rfl, rfl⟩⟩, fun _ => ⟨_, hput, rfl, rfl⟩⟩⟩
        rw [show (0 : Int32) = nI 0 from rfl]
        exact nI_nlt (Nat.zero_le _) (by omega)
  obtain ⟨r, kC, kM⟩ := key
  -- the class from its start
  have preC : ∀ s, Fr σ s → (∀ i, i < 0 → s 89 i = jR σ 0 i) → Ev (bl_mi 62) 2 [(0, .ref 6), (1, .ref 10), (2, .int (nI 0))] s r (Fr σ) := by
    refine bl_dn (N := nb) (P := fun m => ∀ s, Fr σ s → (∀ i, i < m → s 89 i = jR σ 0 i) → Ev (bl_mi 62) 2 [(0, .ref 6), (1, .ref 10), (2, .int (nI m))] s r (Fr σ)) ?_ ?_
    · intro s hF hR
      obtain ⟨τ, hP, hW⟩ := kC s hF hR
      refine ⟨τ, hP, vc_X8_firstWrong_2 _ _ _ rfl ⟨fun q => absurd q ?_, fun _ => hW⟩⟩
      rw [hF 10 (by decide), hl.2.2.1]
      exact nI_nlt (Nat.le_refl _) (by omega)
    · intro m hm ih s hF hR
      have m6 : m < 6 := by omega
      obtain ⟨τ, hP, hW⟩ := ih (bl_up s 89 m (jR σ 0 m)) (hF.up (by decide)) (fun i hi => by
        by_cases e : i = m
        · rw [e, bl_up_s]
        · rw [bl_up_j e]
          exact hR i (by omega))
      refine ⟨τ, hP, vc_X8_firstWrong_2 _ _ _ rfl ⟨fun _ => ⟨rfl, ?_, ?_, vib m6, fun v e => ?_⟩, fun q => absurd ?_ q⟩⟩
      · exact vib m6
      · rw [ntb m6]
        exact kdb m m6
      · rw [ntb m6] at e ⊢
        have e2 : v = jR σ 0 m := by
          rw [e]
          show s (14 + m) 4 = σ 106 m
          rw [hF (14 + m) (sc14 m6)]
          exact (hb m hm).1 4 (by omega)
        rw [e2, nI_1]
        exact hW
      · rw [hF 10 (by decide), hl.2.2.1]
        exact nI_lt hm (by omega)
  obtain ⟨τ, hP, hW⟩ := preC σ Fr.rf (fun i hi => by omega)
  have hT : TA nb σ (svM nb τ) := TA.fr hP TA.save
  obtain ⟨υ, hP2, hW2⟩ := kM (svM nb τ) hT (fun i hi => by rw [svM_c (by omega), hP 106 (by decide)]; rfl)
  refine ⟨r, τ, υ, bl_c (Nat.le_of_ble_eq_true rfl) (vc_X10_judge_0 σ ⟨r, τ, bl_c (Nat.le_of_ble_eq_true rfl) (vc_X8_firstWrong_0 σ 10 rfl hW), rfl, rfl⟩), bl_c (Nat.le_of_ble_eq_true rfl) (vc_X11_judge_0 τ ⟨_, c_X11_save τ hn (by rw [hP 1 (by decide)]; exact hl.2.2.2.1), hW2⟩), h.fr hP2⟩
