/-! TRIED: save, putBack; length, again -/
def svM (n : Nat) (σ : bl_S) : bl_S := itn (fun b s => bl_up (bl_up (bl_up s 129 b (s 105 b)) 130 b (s 106 b)) 131 b (s 107 b)) n σ
theorem svM_c {σ : bl_S} {d : Nat} (h : d ≠ 129 ∧ d ≠ 130 ∧ d ≠ 131) : ∀ {n : Nat}, svM n σ d = σ d
  | 0 => rfl
  | n + 1 => by
    show bl_up (bl_up (bl_up (svM n σ) 129 n _) 130 n _) 131 n _ d = σ d
    rw [bl_up_ne h.2.2, bl_up_ne h.2.1, bl_up_ne h.1, svM_c h]
theorem svM_b {σ : bl_S} {b : Nat} : ∀ {n : Nat}, b < n → svM n σ 129 b = σ 105 b ∧ svM n σ 130 b = σ 106 b ∧ svM n σ 131 b = σ 107 b
  | 0, h => by omega
  | n + 1, h => by
    show bl_up (bl_up (bl_up (svM n σ) 129 n (svM n σ 105 n)) 130 n (svM n σ 106 n)) 131 n (svM n σ 107 n) 129 b = σ 105 b ∧ bl_up (bl_up (bl_up (svM n σ) 129 n (svM n σ 105 n)) 130 n (svM n σ 106 n)) 131 n (svM n σ 107 n) 130 b = σ 106 b ∧ bl_up (bl_up (bl_up (svM n σ) 129 n (svM n σ 105 n)) 130 n (svM n σ 106 n)) 131 n (svM n σ 107 n) 131 b = σ 107 b
    by_cases e : b = n
    · subst e
      refine ⟨?_, ?_, ?_⟩
      · rw [bl_up_c (by omega), bl_up_c (by omega), bl_up_s, svM_c (by omega)]
      · rw [bl_up_c (by omega), bl_up_s, svM_c (by omega)]
      · rw [bl_up_s, svM_c (by omega)]
    · obtain ⟨q1, q2, q3⟩ := svM_b (σ := σ) (b := b) (n := n) (by omega)
      rw [bl_up_j e, bl_up_j e, bl_up_j e, bl_up_j e, bl_up_j e, bl_up_j e, bl_up_j e, bl_up_j e, bl_up_j e]
      exact ⟨q1, q2, q3⟩
theorem c_X11_save (σ : bl_S) {nb : Nat} (hn : nb ≤ 6) (h4 : σ 1 4 = nI nb) : bl_Con (bl_mi 140) [.ref 1] σ none (svM nb σ) := by
  refine bl_c (Nat.le_of_ble_eq_true rfl) (vc_X11_save_0 σ ?_)
  refine bl_dn (N := nb) (P := fun i => bl_Wx (bl_mi 140) 2 [(0, .ref 1), (1, .int (nI i))] [] (svM i σ) (fun v τ => v = none ∧ τ = svM nb σ)) ?_ ?_
  · refine vc_X11_save_2 _ _ ⟨fun q => absurd q ?_, fun _ => ⟨rfl, rfl⟩⟩
    rw [svM_c (by omega), h4]
    exact nI_nlt (Nat.le_refl _) (by omega)
  · intro i hi ih
    refine vc_X11_save_2 _ _ ⟨fun _ => ⟨vib (by omega), ?_⟩, fun q => absurd ?_ q⟩
    · rw [ntb (by omega), nI_1]
      exact ih
    · rw [svM_c (by omega), h4]
      exact nI_lt hi (by omega)
def pbM (b : Nat) (σ : bl_S) : bl_S := bl_up (bl_up (bl_up σ 105 b (σ 129 b)) 106 b (σ 130 b)) 107 b (σ 131 b)
theorem c_X11_putBack (σ : bl_S) {b : Nat} (hb : b < 6) : bl_Con (bl_mi 141) [.ref 1, .int (nI b)] σ none (pbM b σ) := by
  refine bl_c (Nat.le_of_ble_eq_true rfl) (vc_X11_putBack_0 σ _ ⟨vib hb, ?_⟩)
  rw [ntb hb]
  exact ⟨rfl, rfl⟩
/-- s is σ but for one bush of the reference, that is saved, and cells that the invariant doesn't speak of -/
def TM (b : Nat) (σ s : bl_S) : Prop := (∀ d, bl_scr d = false → d ≠ 105 → d ≠ 106 → d ≠ 107 → s d = σ d) ∧ (∀ d j, d = 105 ∨ d = 106 ∨ d = 107 → j ≠ b → s d j = σ d j) ∧ s 129 b = σ 105 b ∧ s 130 b = σ 106 b ∧ s 131 b = σ 107 b
theorem TM.back {b : Nat} {σ s : bl_S} (h : TM b σ s) : Fr σ (pbM b s) := by
  obtain ⟨h1, h2, h3, h4, h5⟩ := h
  intro d hd
  unfold pbM
  by_cases e5 : d = 105
  · subst e5
    rw [bl_up_ne (by omega), bl_up_ne (by omega)]
    funext j
    by_cases ej : j = b
    · subst ej
      rw [bl_up_s, h3]
    · rw [bl_up_j ej, h2 105 j (by omega) ej]
  · by_cases e6 : d = 106
    · subst e6
      rw [bl_up_ne (by omega)]
      funext j
      by_cases ej : j = b
      · subst ej
        rw [bl_up_s, h4]
      · rw [bl_up_j ej, bl_up_c (by omega), h2 106 j (by omega) ej]
    · by_cases e7 : d = 107
      · subst e7
        funext j
        by_cases ej : j = b
        · subst ej
          rw [bl_up_s, h5]
        · rw [bl_up_j ej, bl_up_c (by omega), bl_up_c (by omega), h2 107 j (by omega) ej]
      · rw [bl_up_ne e7, bl_up_ne e6, bl_up_ne e5, h1 d hd e5 e6 e7]
theorem TM.save {nb b : Nat} {σ : bl_S} (hb : b < nb) : TM b σ (svM nb σ) := by
  obtain ⟨q1, q2, q3⟩ := svM_b (σ := σ) hb
  have hc : ∀ d, bl_scr d = false → d ≠ 129 ∧ d ≠ 130 ∧ d ≠ 131 := by
    intro d hd
    refine ⟨?_, ?_, ?_⟩ <;> · intro e; rw [e] at hd; exact absurd hd (by decide)
  exact ⟨fun d hd _ _ _ => svM_c (hc d hd), fun d j hd _ => by rw [svM_c (by omega)], q1, q2, q3⟩
theorem TM.ripe {b : Nat} {σ s : bl_S} {v : Int32} (h : TM b σ s) : TM b σ (bl_up s 106 b v) := by
  obtain ⟨h1, h2, h3, h4, h5⟩ := h
  exact ⟨fun d hd a1 a2 a3 => by rw [bl_up_ne a2]; exact h1 d hd a1 a2 a3, fun d j hd hj => by rw [bl_up_j hj]; exact h2 d j hd hj, by rw [bl_up_c (by omega)]; exact h3, by rw [bl_up_c (by omega)]; exact h4, by rw [bl_up_c (by omega)]; exact h5⟩
theorem TM.fr {b : Nat} {σ τ s : bl_S} (hf : Fr σ τ) (h : TM b τ s) : TM b σ s := by
  obtain ⟨h1, h2, h3, h4, h5⟩ := h
  have e5 := hf 105 (by decide)
  have e6 := hf 106 (by decide)
  have e7 := hf 107 (by decide)
  exact ⟨fun d hd a1 a2 a3 => by rw [h1 d hd a1 a2 a3]; exact hf d hd, fun d j hd hj => by rw [h2 d j hd hj]; rcases hd with rfl | rfl | rfl <;> first | rw [e5] | rw [e6] | rw [e7], by rw [h3, e5], by rw [h4, e6], by rw [h5, e7]⟩
/-! length -/
def lnF (c : Nat → Prop) [DecidablePred c] : Nat → Nat → Nat
  | 0, i => i
  | k + 1, i => if c i then lnF c k (i + 1) else i
theorem lnF_congr {c d : Nat → Prop} [DecidablePred c] [DecidablePred d] (h : ∀ i, c i ↔ d i) : ∀ k i, lnF c k i = lnF d k i
  | 0, _ => rfl
  | k + 1, i => by
    unfold lnF
    by_cases q : c i
    · rw [if_pos q, if_pos ((h i).mp q), lnF_congr h]
    · rw [if_neg q, if_neg (fun z => q ((h i).mpr z))]
theorem lnF_le {c : Nat → Prop} [DecidablePred c] : ∀ k i, lnF c k i ≤ i + k
  | 0, _ => Nat.le_refl _
  | k + 1, i => by
    unfold lnF
    split
    · have := lnF_le (c := c) k (i + 1)
      omega
    · omega
theorem pr_length {σ : bl_S} (h : Inv σ) (x y z : Int32) : Pr 81 143 [.int x, .int y, .int z] σ := by
  obtain ⟨nb, np, nt, a, b, c, hl, hb, hp, hz, ht, hs', hm'⟩ := id h
  have hn := hl.1
  have hn2 := hl.2.1
  by_cases g : wi x 0 (nI np - 1) = 0
  · exact ⟨-1000000001, σ, σ, bl_c (Nat.le_of_ble_eq_true rfl) (vc_X10_length_0 σ x y z ⟨_, _, g71 hl x, fun _ => ⟨rfl, rfl⟩, fun q => absurd g q⟩), bl_c (Nat.le_of_ble_eq_true rfl) (vc_X11_length_0 σ x y z ⟨_, _, g104 hl x, fun _ => ⟨rfl, rfl⟩, fun q => absurd g q⟩), h⟩
  by_cases f : wi y 0 (nI nb - 1) = 0
  · exact ⟨-1000000001, σ, σ, bl_c (Nat.le_of_ble_eq_true rfl) (vc_X10_length_0 σ x y z ⟨_, _, g71 hl x, fun q => absurd q g, fun _ => ⟨_, _, g69 hl y, fun _ => ⟨rfl, rfl⟩, fun q => absurd f q⟩⟩), bl_c (Nat.le_of_ble_eq_true rfl) (vc_X11_length_0 σ x y z ⟨_, _, g104 hl x, fun q => absurd q g, fun _ => ⟨_, _, g103 hl y, fun _ => ⟨rfl, rfl⟩, fun q => absurd f q⟩⟩), h⟩
  by_cases w : wi z 0 20 = 0
  · exact ⟨-1000000002, σ, σ, bl_c (Nat.le_of_ble_eq_true rfl) (vc_X10_length_0 σ x y z ⟨_, _, g71 hl x, fun q => absurd q g, fun _ => ⟨_, _, g69 hl y, fun q => absurd q f, fun _ => ⟨_, _, c_X10_within σ z 0 20, fun _ => ⟨rfl, rfl⟩, fun q => absurd w q⟩⟩⟩), bl_c (Nat.le_of_ble_eq_true rfl) (vc_X11_length_0 σ x y z ⟨_, _, g104 hl x, fun q => absurd q g, fun _ => ⟨_, _, g103 hl y, fun q => absurd q f, fun _ => ⟨_, _, c_X11_in σ z 0 20 (by decide) (by decide), fun _ => ⟨rfl, rfl⟩, fun q => absurd w q⟩⟩⟩), h⟩
  obtain ⟨i, hi, rfl⟩ := wi_n (by omega) g
  obtain ⟨j, hj, rfl⟩ := wi_n (by omega) f
  have i4 : i < 4 := by omega
  have j6 : j < 6 := by omega
  have ri := (hp i hi).1
  have rj := (hb j hj).1
  have hq2 : ∃ q hi' kd ap rp : Int32, q = σ (20 + i) 2 ∧ hi' = σ (20 + i) 4 ∧ kd = σ (14 + j) 2 ∧ ap = σ (20 + i) 3 ∧ rp = σ (14 + j) 4 := ⟨_, _, _, _, _, rfl, rfl, rfl, rfl, rfl⟩
  obtain ⟨q, hi', kd, ap, rp, eq, eh, ek, ea, er⟩ := hq2
  have mq : σ 110 i = q := by rw [eq]; exact (ri 2 (by omega)).symm
  have mh : σ 112 i = hi' := by rw [eh]; exact (ri 4 (by omega)).symm
  have ma : σ 111 i = ap := by rw [ea]; exact (ri 3 (by omega)).symm
  have mk : σ 104 j = kd := by rw [ek]; exact (rj 2 (by omega)).symm
  have mr : σ 106 j = rp := by rw [er]; exact (rj 4 (by omega)).symm
  -- the class
  have c7 : bl_kd 7 = 1 := rfl
  have s0 : ∀ k v d, d ≠ 7 → bl_up (bl_cp 6 σ 7 (14 + j)) 7 k v d = σ d := fun k v d hd => by rw [bl_up_ne hd, bl_cp_c hd]
  have keyC : ∃ τ, bl_Wx (bl_mi 81) 62 [(0, .ref 0), (1, .int (nI i)), (2, .int (nI j)), (3, .int z), (4, .int (z * hm kd)), (5, .int (nI 0))] [] (bl_up (bl_cp 6 σ 7 (14 + j)) 7 4 (hs q hi' kd rp 0)) (fun v t => v = some (.int (nI (lnF (fun i => z * hm kd < gn q hi' kd ap (hs q hi' kd rp i)) (60 - 0) 0))) ∧ t = τ) ∧ Fr σ τ := by
    refine bl_dn (N := 60) (P := fun m => ∃ τ, bl_Wx (bl_mi 81) 62 [(0, .ref 0), (1, .int (nI i)), (2, .int (nI j)), (3, .int z), (4, .int (z * hm kd)), (5, .int (nI m))] [] (bl_up (bl_cp 6 σ 7 (14 + j)) 7 4 (hs q hi' kd rp m)) (fun v t => v = some (.int (nI (lnF (fun i => z * hm kd < gn q hi' kd ap (hs q hi' kd rp i)) (60 - m) m))) ∧ t = τ) ∧ Fr σ τ) ?_ ?_
    · refine ⟨_, vc_X10_length_62 _ _ _ _ _ _ ⟨fun q => absurd q (by rw [show (60 : Int32) = nI 60 from rfl]; exact nI_nlt (Nat.le_refl _) (by omega)), fun _ => ⟨rfl, rfl⟩⟩, (Fr.rf.cp (by decide)).up (by decide)⟩
    · intro m hm2 ih
      obtain ⟨τ, hW, hF⟩ := ih
      have hg := c_X5_tryHandful (bl_up (bl_cp 6 σ 7 (14 + j)) 7 4 (hs q hi' kd rp m)) (r := 20 + i) (b := 7) (kdp i i4) c7
      rw [s0 _ _ (20 + i) (by omega), bl_up_s, bl_up_j (by omega), bl_cp_s (by omega), bl_up_up, ← eq, ← eh, ← ek, ← ea] at hg
      by_cases cc : z * hm kd < gn q hi' kd ap (hs q hi' kd rp m)
      · refine ⟨τ, vc_X10_length_62 _ _ _ _ _ _ ⟨fun _ => ⟨vip i4, ?_⟩, fun q => absurd (by rw [show (60 : Int32) = nI 60 from rfl]; exact nI_lt hm2 (by omega)) q⟩, hF⟩
        rw [ntp i4, nI_1]
        refine ⟨kdp i i4, _, _, hg, fun _ => ?_, fun q => absurd cc q⟩
        have e : lnF (fun i => z * hm kd < gn q hi' kd ap (hs q hi' kd rp i)) (60 - m) m = lnF (fun i => z * hm kd < gn q hi' kd ap (hs q hi' kd rp i)) (60 - (m + 1)) (m + 1) := by
          rw [show 60 - m = (60 - (m + 1)) + 1 by omega]
          show (if _ then _ else _) = _
          rw [if_pos cc]
        rw [e]
        exact hW
      · refine ⟨bl_up (bl_cp 6 σ 7 (14 + j)) 7 4 (hs q hi' kd rp m - hq q hi' kd (hs q hi' kd rp m)), vc_X10_length_62 _ _ _ _ _ _ ⟨fun _ => ⟨vip i4, ?_⟩, fun q => absurd (by rw [show (60 : Int32) = nI 60 from rfl]; exact nI_lt hm2 (by omega)) q⟩, (Fr.rf.cp (by decide)).up (by decide)⟩
        rw [ntp i4]
        refine ⟨kdp i i4, _, _, hg, fun q => absurd q cc, fun _ => ⟨?_, rfl⟩⟩
        have e : lnF (fun i => z * hm kd < gn q hi' kd ap (hs q hi' kd rp i)) (60 - m) m = m := by
          rw [show 60 - m = (60 - (m + 1)) + 1 by omega]
          show (if _ then _ else _) = _
          rw [if_neg cc]
        rw [e]
  obtain ⟨τ, hW, hF⟩ := keyC
  have e0 : bl_up (bl_cp 6 σ 7 (14 + j)) 7 4 (hs q hi' kd rp 0) = bl_cp 6 σ 7 (14 + j) := bl_up_id' (by rw [bl_cp_s (by omega), ← er]; rfl)
  rw [e0] at hW
  have conC : bl_Con (bl_mi 81) [.ref 0, .int (nI i), .int (nI j), .int z] σ (some (.int (nI (lnF (fun i => z * hm kd < gn q hi' kd ap (hs q hi' kd rp i)) 60 0)))) τ := by
    refine bl_c (Nat.le_of_ble_eq_true rfl) (vc_X10_length_0 σ _ _ z ⟨_, _, g71 hl _, fun q => absurd q g, fun _ => ⟨_, _, g69 hl _, fun q => absurd q f, fun _ => ⟨_, _, c_X10_within σ z 0 20, fun q => absurd q w, fun _ => ⟨vib j6, ?_⟩⟩⟩⟩)
    rw [ntb j6]
    refine ⟨_, c_X1_copyFrom σ (a := 7) (b := 14 + j) rfl (kdb j j6), _, _, c_X1_handfulMoments _ c7, ?_⟩
    rw [bl_cp_s (by omega), ← ek]
    exact hW
  -- the reference
  have fm : ∀ d, bl_scr d = false → τ d = σ d := hF
  have t1 : τ 1 = σ 1 := fm 1 (by decide)
  have hl2 : Jl nb np τ := hl.fr (fm 10 (by decide)) (fm 11 (by decide)) (fun k _ => by rw [t1])
  have keyM : ∃ υ, bl_Wx (bl_mi 143) 41 [(0, .ref 1), (1, .int (nI i)), (2, .int (nI j)), (3, .int z), (4, .int (nI 0))] [] (bl_up (svM nb τ) 106 j (hs q hi' kd rp 0)) (fun v t => v = some (.int (nI (lnF (fun i => z * hm kd < gn q hi' kd ap (hs q hi' kd rp i)) (60 - 0) 0))) ∧ t = υ) ∧ Fr σ υ := by
    have hT : ∀ v, TM j σ (bl_up (svM nb τ) 106 j v) := fun v => (TM.fr hF (TM.save hj)).ripe
    refine bl_dn (N := 60) (P := fun m => ∃ υ, bl_Wx (bl_mi 143) 41 [(0, .ref 1), (1, .int (nI i)), (2, .int (nI j)), (3, .int z), (4, .int (nI m))] [] (bl_up (svM nb τ) 106 j (hs q hi' kd rp m)) (fun v t => v = some (.int (nI (lnF (fun i => z * hm kd < gn q hi' kd ap (hs q hi' kd rp i)) (60 - m) m))) ∧ t = υ) ∧ Fr σ υ) ?_ ?_
    · exact ⟨_, vc_X11_length_41 _ _ _ _ _ ⟨fun q => absurd q (by rw [show (60 : Int32) = nI 60 from rfl]; exact nI_nlt (Nat.le_refl _) (by omega)), fun _ => ⟨_, c_X11_putBack _ j6, rfl, rfl⟩⟩, (hT _).back⟩
    · intro m hm2 ih
      obtain ⟨υ, hW, hF2⟩ := ih
      have hg := c_X11_handful (bl_up (svM nb τ) 106 j (hs q hi' kd rp m)) i4 j6
      have sv : ∀ d v, d ≠ 106 → d ≠ 129 ∧ d ≠ 130 ∧ d ≠ 131 → bl_scr d = false → bl_up (svM nb τ) 106 j v d = σ d := fun d v h1 h2 h3 => by rw [bl_up_ne h1, svM_c h2]; exact fm d h3
      rw [sv 110 _ (by omega) (by omega) (by decide), sv 112 _ (by omega) (by omega) (by decide), sv 104 _ (by omega) (by omega) (by decide), bl_up_s, bl_up_up, mq, mh, mk] at hg
      refine ?_
      have hr := c_X11_rest (bl_up (svM nb τ) 106 j (hs q hi' kd rp m - hq q hi' kd (hs q hi' kd rp m))) (hq q hi' kd (hs q hi' kd rp m)) ap
      rw [gn_rest] at hr
      have ht2 := c_X11_handfulTakes (bl_up (svM nb τ) 106 j (hs q hi' kd rp m - hq q hi' kd (hs q hi' kd rp m))) j6
      rw [sv 104 _ (by omega) (by omega) (by decide), mk] at ht2
      have e111 : bl_up (svM nb τ) 106 j (hs q hi' kd rp m - hq q hi' kd (hs q hi' kd rp m)) 111 i = ap := by rw [sv 111 _ (by omega) (by omega) (by decide)]; exact ma
      by_cases cc : z * hm kd < gn q hi' kd ap (hs q hi' kd rp m)
      · refine ⟨υ, vc_X11_length_41 _ _ _ _ _ ⟨fun _ => ⟨_, _, hg, vip i4, ?_⟩, fun q => absurd (by rw [show (60 : Int32) = nI 60 from rfl]; exact nI_lt hm2 (by omega)) q⟩, hF2⟩
        rw [ntp i4, e111, nI_1]
        refine ⟨_, _, hr, _, _, ht2, fun _ => ?_, fun q => absurd cc q⟩
        have e : lnF (fun i => z * hm kd < gn q hi' kd ap (hs q hi' kd rp i)) (60 - m) m = lnF (fun i => z * hm kd < gn q hi' kd ap (hs q hi' kd rp i)) (60 - (m + 1)) (m + 1) := by
          rw [show 60 - m = (60 - (m + 1)) + 1 by omega]
          show (if _ then _ else _) = _
          rw [if_pos cc]
        rw [e]
        exact hW
      · refine ⟨_, vc_X11_length_41 _ _ _ _ _ ⟨fun _ => ⟨_, _, hg, vip i4, ?_⟩, fun q => absurd (by rw [show (60 : Int32) = nI 60 from rfl]; exact nI_lt hm2 (by omega)) q⟩, (hT (hs q hi' kd rp m - hq q hi' kd (hs q hi' kd rp m))).back⟩
        rw [ntp i4, e111]
        refine ⟨_, _, hr, _, _, ht2, fun q => absurd q cc, fun _ => ⟨_, c_X11_putBack _ j6, ?_, rfl⟩⟩
        have e : lnF (fun i => z * hm kd < gn q hi' kd ap (hs q hi' kd rp i)) (60 - m) m = m := by
          rw [show 60 - m = (60 - (m + 1)) + 1 by omega]
          show (if _ then _ else _) = _
          rw [if_neg cc]
        rw [e]
  obtain ⟨υ, hWm, hFm⟩ := keyM
  have e0 : bl_up (svM nb τ) 106 j (hs q hi' kd rp 0) = svM nb τ := bl_up_id' (by rw [svM_c (by omega), fm 106 (by decide), mr]; rfl)
  rw [e0] at hWm
  refine ⟨_, τ, υ, conC, bl_c (Nat.le_of_ble_eq_true rfl) (vc_X11_length_0 _ _ _ z ⟨_, _, g104 hl2 _, fun q => absurd q g, fun _ => ⟨_, _, g103 hl2 _, fun q => absurd q f, fun _ => ⟨_, _, c_X11_in _ z 0 20 (by decide) (by decide), fun q => absurd q w, fun _ => ⟨_, c_X11_save _ hn (by rw [t1]; exact hl.2.2.2.1), hWm⟩⟩⟩⟩), h.fr hFm⟩
