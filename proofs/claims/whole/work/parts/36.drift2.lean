noncomputable def dnD (nb np : Nat) (rip so fa : Int32) (n : Nat) (s : bl_S) : bl_S := itn (fun _ s => ddS nb np rip so fa s) n s
noncomputable def dnE (nb np : Nat) (rip so fa : Int32) (n : Nat) (s : bl_S) : bl_S := itn (fun _ s => ddM nb np rip so fa s) n s
noncomputable def dnF (nb np : Nat) (ho rip so fa : Int32) (n : Nat) (A : AS) : AS := itn (fun _ A => ddA nb np ho rip so fa A) n A
theorem dnF_all {nb np : Nat} {ho rip so fa : Int32} {A : AS} (hn : nb ≤ 6) (h0 : 1 ≤ nb) (hl : Lw rip so fa) (hsd : ¬ A.2.2.2 < 0) (h : RA nb np A.1 A.2.1) : ∀ n, RA nb np (dnF nb np ho rip so fa n A).1 (dnF nb np ho rip so fa n A).2.1 ∧ ¬ (dnF nb np ho rip so fa n A).2.2.2 < 0 ∧ (∀ b k, k < 3 → (dnF nb np ho rip so fa n A).1 b k = A.1 b k) ∧ (∀ q k, k = 2 ∨ k = 3 → (dnF nb np ho rip so fa n A).2.1 q k = A.2.1 q k)
  | 0 => ⟨h, hsd, fun _ _ _ => rfl, fun _ _ _ => rfl⟩
  | n + 1 => by
    obtain ⟨r1, r2, r3, r4'⟩ := dnF_all (ho := ho) hn h0 hl hsd h n
    obtain ⟨s1, s2, s3, s4⟩ := ddA_all (ho := ho) hn h0 hl r2 r1
    exact ⟨s1, s2, fun b k hk => (s3 b k hk).trans (r3 b k hk), fun q k hk => (s4 q k hk).trans (r4' q k hk)⟩
theorem dnD_all {nb np : Nat} {rip so fa : Int32} {A : AS} {s : bl_S} (hn : nb ≤ 6) (h0 : 1 ≤ nb) (hn2 : np ≤ 4) (hl : Lw rip so fa) (hsd : ¬ A.2.2.2 < 0) (hr : RA nb np A.1 A.2.1) (h : CVt nb np A s) : ∀ n, CVt nb np (dnF nb np (s 11 3) rip so fa n A) (dnD nb np rip so fa n s) ∧ (∀ d, d ≠ 10 → d < 14 ∨ 20 + np ≤ d → dnD nb np rip so fa n s d = s d) ∧ (∀ k, k ≠ 5 → k ≠ 6 → dnD nb np rip so fa n s 10 k = s 10 k)
  | 0 => ⟨h, fun _ _ _ => rfl, fun _ _ _ => rfl⟩
  | n + 1 => by
    obtain ⟨r1, r2, r3⟩ := dnD_all hn h0 hn2 hl hsd hr h n
    obtain ⟨q1, q2, -, -⟩ := dnF_all (ho := s 11 3) hn h0 hl hsd hr n
    have c1 := CV_dd (rip := rip) (so := so) (fa := fa) hn h0 hn2 q2 q1 r1
    rw [r2 11 (by omega) (by omega)] at c1
    obtain ⟨f1, f2⟩ := ddS_fr (rip := rip) (so := so) (fa := fa) hn h0 hn2 q2 q1 r1
    exact ⟨c1, fun d z1 z2 => (f1 d z1 z2).trans (r2 d z1 z2), fun k z1 z2 => (f2 k z1 z2).trans (r3 k z1 z2)⟩
theorem dnE_all {nb np : Nat} {rip so fa : Int32} {A : AS} {s : bl_S} (hn : nb ≤ 6) (h0 : 1 ≤ nb) (hl : Lw rip so fa) (hsd : ¬ A.2.2.2 < 0) (hr : RA nb np A.1 A.2.1) (h : MVt nb np A s) : ∀ n, MVt nb np (dnF nb np (s 1 3) rip so fa n A) (dnE nb np rip so fa n s) ∧ (∀ d, d < 102 ∧ d ≠ 1 ∨ 115 < d → dnE nb np rip so fa n s d = s d) ∧ (∀ k, k ≠ 20 → k ≠ 21 → dnE nb np rip so fa n s 1 k = s 1 k)
  | 0 => ⟨h, fun _ _ => rfl, fun _ _ _ => rfl⟩
  | n + 1 => by
    obtain ⟨r1, r2, r3⟩ := dnE_all hn h0 hl hsd hr h n
    obtain ⟨q1, q2, -, -⟩ := dnF_all (ho := s 1 3) hn h0 hl hsd hr n
    have c1 := MV_dd (rip := rip) (so := so) (fa := fa) hn h0 q2 q1 r1
    rw [r3 3 (by omega) (by omega)] at c1
    obtain ⟨f1, f2⟩ := ddM_fr (rip := rip) (so := so) (fa := fa) hn h0 q2 q1 r1
    exact ⟨c1, fun d z => (f1 d z).trans (r2 d z), fun k z1 z2 => (f2 k z1 z2).trans (r3 k z1 z2)⟩
/-- one day of the reference's drift: from the head of the inner loop to the head of the outer one -/
theorem w_drift_day {σ : bl_S} {nb np : Nat} {A : AS} {x1 x2 : Int32} {Q : Option Value → bl_S → Prop} (hn : nb ≤ 6) (h0 : 1 ≤ nb) (hn2 : np ≤ 4) (h4 : σ 1 4 = nI nb) (h11 : σ 1 11 = nI np) (hl : Lw (σ 1 0) (σ 1 1) (σ 1 2)) (hsd : ¬ A.2.2.2 < 0) (hr : RA nb np A.1 A.2.1) (h : MVt nb np A σ)
    (hQ : bl_Wx (bl_mi 139) 35 [(0, .ref 1), (1, .int x1), (2, .int (x2 + 1))] [] (ddM nb np (σ 1 0) (σ 1 1) (σ 1 2) σ) Q) : bl_Wx (bl_mi 139) 42 [(0, .ref 1), (1, .int x1), (2, .int x2), (3, .int 0)] [] σ Q := by
  refine bl_dn (N := np) (P := fun i => bl_Wx (bl_mi 139) 42 [(0, .ref 1), (1, .int x1), (2, .int x2), (3, .int (nI i))] [] (dpM nb i σ) Q) ?_ ?_
  · obtain ⟨r1, r2, r3⟩ := dpM_all hn h0 hsd hr h np (Nat.le_refl _)
    obtain ⟨-, q2, -⟩ := dpA_all (ho := σ 1 3) hn h0 hsd hr np (Nat.le_refl _)
    have e6 : dpM nb np σ 1 21 = (dpA nb (σ 1 3) np A).2.2.2 := r1.2.2.2
    have hsd2 : ¬ dpM nb np σ 1 21 < 0 := by rw [e6]; exact q2
    refine vc_X11_drift_42 _ _ _ _ ⟨fun q => absurd q ?_, fun _ => ⟨_, _, c_X11_draw _ (n := 4) (by omega) (by omega) hsd2, fun v e => ?_⟩⟩
    · rw [r3 11 (by omega), h11]
      exact nI_nlt (Nat.le_refl _) (by omega)
    · have e : v = r4 (dpM nb np σ 1 21) := e
      have e1 : ∀ k, k ≠ 21 → bl_up (dpM nb np σ) 1 21 (nx (dpM nb np σ 1 21)) 1 k = σ 1 k := fun k hk => by rw [bl_up_j hk, r3 k hk]
      have hc := c_X11_dayNow (bl_up (dpM nb np σ) 1 21 (nx (dpM nb np σ 1 21))) v hn hn2 (by rw [e1 4 (by omega)]; exact h4) (by rw [e1 11 (by omega)]; exact h11) (by rw [e1 0 (by omega), e1 1 (by omega), e1 2 (by omega)]; exact hl)
      rw [e1 0 (by omega), e1 1 (by omega), e1 2 (by omega)] at hc
      refine ⟨_, hc, ?_⟩
      rw [e]
      exact hQ
  · intro i hi ih
    obtain ⟨r1, r2, r3⟩ := dpM_all hn h0 hsd hr h i (by omega)
    obtain ⟨q1, q2, -⟩ := dpA_all (ho := σ 1 3) hn h0 hsd hr i (by omega)
    have e6 : dpM nb i σ 1 21 = (dpA nb (σ 1 3) i A).2.2.2 := r1.2.2.2
    have hsd2 : ¬ dpM nb i σ 1 21 < 0 := by rw [e6]; exact q2
    have hb := dv_nt hsd2 h0 (by omega)
    have hk := dv_nt (nx_pos hsd2) (n := 6) (by omega) (by omega)
    rw [show nI 6 = (6 : Int32) from rfl] at hk
    refine vc_X11_drift_42 _ _ _ _ ⟨fun _ => ?_, fun q => absurd ?_ q⟩
    · rw [r3 4 (by omega), h4, nI_1]
      refine ⟨_, _, c_X11_draw _ h0 (by omega) hsd2, ?_⟩
      generalize hB : Int32.toNatClampNeg (dv (dpM nb i σ 1 21) (nI nb)) = b at hb
      rw [hb.2]
      have s1 : ∀ d, d ≠ 1 → bl_up (dpM nb i σ) 1 21 (nx (dpM nb i σ 1 21)) d = dpM nb i σ d := fun d hd => bl_up_ne hd
      obtain ⟨y', s', q', a', h', t1, t2, t3, t4, t5, t6, u0, u1, u2, u3, u4⟩ := q1.2 i hi
      obtain ⟨y, s, kd, rd, rp, sf, v1, v2, v3, v4, w0, w1, w2, w3, w4, w5⟩ := q1.1 b hb.1
      have g108 : dpM nb i σ 108 i = nI y' := (r1.2.1 i 0 hi (by omega)).trans u0
      have g102 : dpM nb i σ 102 b = nI y := (r1.1 b 0 hb.1 (by omega)).trans w0
      have hgo := c_X11_go (bl_up (dpM nb i σ) 1 21 (nx (dpM nb i σ 1 21))) (p := i) (b := b) hn hn2 (by rw [bl_up_j (by omega), r3 4 (by omega)]; exact h4) (by rw [bl_up_j (by omega), r3 11 (by omega)]; exact h11) hi hb.1 ⟨y', y, t1, v1, by rw [s1 108 (by omega)]; exact g108, by rw [s1 102 (by omega)]; exact g102⟩
      refine ⟨_, _, hgo, ?_⟩
      have e21 : wkM (bl_up (dpM nb i σ) 1 21 (nx (dpM nb i σ 1 21))) i b 1 21 = nx (dpM nb i σ 1 21) := by rw [wkM_c (by omega), bl_up_s]
      refine ⟨_, _, c_X11_draw _ (n := 6) (by omega) (by omega) (by rw [e21]; exact nx_pos hsd2), ?_⟩
      rw [e21, show nI 6 = (6 : Int32) from rfl]
      have hpk := c_X11_pickNow (bl_up (wkM (bl_up (dpM nb i σ) 1 21 (nx (dpM nb i σ 1 21))) i b) 1 21 (nx (nx (dpM nb i σ 1 21)))) (p := i) (b := b) (Int32.toNatClampNeg (dv (nx (dpM nb i σ 1 21)) 6)) (by omega) (by omega) (by omega)
      rw [← hk.2] at hpk
      refine ⟨_, _, hpk, ?_⟩
      have e : d1M nb i (dpM nb i σ) = tkM (bl_up (wkM (bl_up (dpM nb i σ) 1 21 (nx (dpM nb i σ 1 21))) i b) 1 21 (nx (nx (dpM nb i σ 1 21)))) i b (Int32.toNatClampNeg (dv (nx (dpM nb i σ 1 21)) 6)) := by
        unfold d1M
        rw [hB]
      rw [← e]
      exact ih
    · rw [r3 11 (by omega), h11]
      exact nI_lt hi (by omega)
theorem pr_drift {σ : bl_S} (h : Inv σ) (x : Int32) : Pr 80 139 [.int x] σ := by
  obtain ⟨nb, np, nt, a, b, c, hl, hb, hp, hz, ht, hs, hm⟩ := id h
  have hI : Iv nb np nt a b c σ := ⟨hl, hb, hp, hz, ht, hs, hm⟩
  obtain ⟨a1, a2, a3, a4, a5, a6, a7, a8, a9, a10, a11, a12⟩ := id hl
  by_cases g : wi x 1 99 = 0
  · exact ⟨-1000000002, σ, σ, bl_c (Nat.le_of_ble_eq_true rfl) (vc_X10_drift_0 σ x ⟨_, _, c_X10_within σ x 1 99, fun _ => ⟨rfl, rfl⟩, fun q => absurd g q⟩), bl_c (Nat.le_of_ble_eq_true rfl) (vc_X11_drift_0 σ x ⟨_, _, c_X11_in σ x 1 99 (by decide) (by decide), fun _ => ⟨rfl, rfl⟩, fun q => absurd g q⟩), h⟩
  have l0 := a7 0 (by omega)
  have l1 := a7 1 (by omega)
  have l2 := a7 2 (by omega)
  have l3 := a7 3 (by omega)
  rcases a11 with a11 | ⟨-, -, z0, z1, z2⟩
  · have hL : Lw (σ 1 0) (σ 1 1) (σ 1 2) := a11
    have hLc : Lw (σ 11 0) (σ 11 1) (σ 11 2) := by rw [l0, l1, l2]; exact hL
    by_cases n0 : nb = 0
    · refine ⟨-1000000003, σ, σ, bl_c (Nat.le_of_ble_eq_true rfl) (vc_X10_drift_0 σ _ ⟨_, _, c_X10_within σ _ 1 99, fun q => absurd q g, fun _ => ⟨_, _, c_X4_isTold σ (r := 11) rfl, fun _ => ⟨rfl, rfl⟩, fun _ => ⟨fun _ => ⟨rfl, rfl⟩, fun q => absurd (by rw [a3, n0]; rfl) q⟩⟩⟩), bl_c (Nat.le_of_ble_eq_true rfl) (vc_X11_drift_0 _ _ ⟨_, _, c_X11_in _ _ 1 99 (by decide) (by decide), fun q => absurd q g, fun _ => ⟨fun _ => ⟨rfl, rfl⟩, fun _ => ⟨fun _ => ⟨rfl, rfl⟩, fun q => absurd (by rw [a4, n0]; rfl) q⟩⟩⟩), h⟩
    have h0 : 1 ≤ nb := by omega
    obtain ⟨n, n1, n2, rfl⟩ := wi_c (a := 1) (b := 99) (by omega) (by omega) g
    obtain ⟨v1, v2, v3⟩ := hI.start
    have hA0 : ∃ A : AS, A = ((fun b k => σ (14 + b) k), (fun p k => σ (20 + p) k), σ 10 5, σ 10 6) := ⟨_, rfl⟩
    obtain ⟨A, hA⟩ := hA0
    have v1 : CVt nb np A σ := by rw [hA]; exact v1
    have v2 : MVt nb np A σ := by rw [hA]; exact v2
    have v3 : RA nb np A.1 A.2.1 := by rw [hA]; exact v3
    have hsd : ¬ A.2.2.2 < 0 := by rw [hA]; show ¬ σ 10 6 < 0; rw [a9]; exact a10
    have sB : ∀ b k, A.1 b k = σ (14 + b) k := fun b k => by rw [hA]
    have sP : ∀ p k, A.2.1 p k = σ (20 + p) k := fun p k => by rw [hA]
    clear hA
    have cS := dnD_all a1 h0 a2 hLc hsd v3 v1
    have aF := dnF_all (ho := σ 11 3) a1 h0 hLc hsd v3
    obtain ⟨c1, c2, c3⟩ := cS n
    obtain ⟨f1, f2, f3, f4⟩ := aF n
    have k1 : dnD nb np (σ 11 0) (σ 11 1) (σ 11 2) n σ 1 = σ 1 := c2 1 (by omega) (by omega)
    have m0 : MVt nb np A (dnD nb np (σ 11 0) (σ 11 1) (σ 11 2) n σ) := by
      obtain ⟨w1, w2, w3, w4⟩ := v2
      exact ⟨fun b k hb hk => by rw [c2 (102 + k) (by omega) (by omega)]; exact w1 b k hb hk, fun p k hp hk => by rw [c2 (108 + k) (by omega) (by omega)]; exact w2 p k hp hk, by rw [k1]; exact w3, by rw [k1]; exact w4⟩
    have mS := dnE_all (rip := σ 11 0) (so := σ 11 1) (fa := σ 11 2) a1 h0 hLc hsd v3 m0
    rw [k1, ← l3] at mS
    obtain ⟨e1, e2, e3⟩ := mS n
    have rC : sm (fun b => dnD nb np (σ 11 0) (σ 11 1) (σ 11 2) n σ (10 + 4 + b) 4) nb = sm (fun b => (dnF nb np (σ 11 3) (σ 11 0) (σ 11 1) (σ 11 2) n A).1 b 4) nb := sm_eq (fun i hi => c1.1 i 4 hi (by omega))
    have rM : sm (fun b => dnE nb np (σ 11 0) (σ 11 1) (σ 11 2) n (dnD nb np (σ 11 0) (σ 11 1) (σ 11 2) n σ) 106 b) nb = sm (fun b => (dnF nb np (σ 11 3) (σ 11 0) (σ 11 1) (σ 11 2) n A).1 b 4) nb := sm_eq (fun i hi => e1.1 i 4 hi (by omega))
    refine ⟨sm (fun b => (dnF nb np (σ 11 3) (σ 11 0) (σ 11 1) (σ 11 2) n A).1 b 4) nb, dnD nb np (σ 11 0) (σ 11 1) (σ 11 2) n σ, dnE nb np (σ 11 0) (σ 11 1) (σ 11 2) n (dnD nb np (σ 11 0) (σ 11 1) (σ 11 2) n σ), bl_c (Nat.le_of_ble_eq_true rfl) (vc_X10_drift_0 σ _ ⟨_, _, c_X10_within σ _ 1 99, fun q => absurd q g, fun _ => ⟨_, _, c_X4_isTold σ (r := 11) rfl, fun q => absurd q (by rw [hLc.told]; decide), fun _ => ⟨fun q => absurd q (by rw [a3]; exact nI_ne0 (by omega) (by omega)), fun _ => ?_⟩⟩⟩), bl_c (Nat.le_of_ble_eq_true rfl) (vc_X11_drift_0 _ _ ⟨_, _, c_X11_in _ _ 1 99 (by decide) (by decide), fun q => absurd q g, fun _ => ⟨fun q => absurd q (by rw [k1]; exact hL.nz.1), fun _ => ⟨fun q => absurd q (by rw [k1, a4]; exact nI_ne0 (by omega) (by omega)), fun _ => ?_⟩⟩⟩), ?_⟩
    · refine bl_dn (N := n) (P := fun i => bl_Wx (bl_mi 80) 41 [(0, .ref 0), (1, .int (nI n)), (2, .int (nI i))] [] (dnD nb np (σ 11 0) (σ 11 1) (σ 11 2) i σ) (fun v τ => v = some (.int (sm (fun b => (dnF nb np (σ 11 3) (σ 11 0) (σ 11 1) (σ 11 2) n A).1 b 4) nb)) ∧ τ = dnD nb np (σ 11 0) (σ 11 1) (σ 11 2) n σ)) ?_ ?_
      · refine vc_X10_drift_41 _ _ _ ⟨fun q => absurd q (nI_nlt (Nat.le_refl _) (by omega)), fun _ => ⟨_, _, c_X3_ripeInAll _ (L := 10) (Or.inl rfl) a1 (by rw [c3 3 (by omega) (by omega)]; exact a3), ?_, rfl⟩⟩
        rw [rC]
      · intro i hi ih
        obtain ⟨d1, d2, d3⟩ := cS i
        obtain ⟨g1, g2, -, -⟩ := aF i
        refine vc_X10_drift_41 _ _ _ ⟨fun _ => ?_, fun q => absurd (nI_lt hi (by omega)) q⟩
        rw [nI_1]
        have e11 : dnD nb np (σ 11 0) (σ 11 1) (σ 11 2) i σ 11 = σ 11 := d2 11 (by omega) (by omega)
        have hc := c_X3_passDayByDraws (dnD nb np (σ 11 0) (σ 11 1) (σ 11 2) i σ) a1 h0 a2 (by rw [d3 3 (by omega) (by omega)]; exact a3) (by rw [d3 4 (by omega) (by omega)]; exact a5) (by rw [e11]; exact hLc) g2 g1 d1
        rw [e11] at hc
        exact ⟨_, hc, ih⟩
    · refine bl_dn (N := n) (P := fun i => bl_Wx (bl_mi 139) 35 [(0, .ref 1), (1, .int (nI n)), (2, .int (nI i))] [] (dnE nb np (σ 11 0) (σ 11 1) (σ 11 2) i (dnD nb np (σ 11 0) (σ 11 1) (σ 11 2) n σ)) (fun v τ => v = some (.int (sm (fun b => (dnF nb np (σ 11 3) (σ 11 0) (σ 11 1) (σ 11 2) n A).1 b 4) nb)) ∧ τ = dnE nb np (σ 11 0) (σ 11 1) (σ 11 2) n (dnD nb np (σ 11 0) (σ 11 1) (σ 11 2) n σ))) ?_ ?_
      · refine vc_X11_drift_35 _ _ _ ⟨fun q => absurd q (nI_nlt (Nat.le_refl _) (by omega)), fun _ => ⟨_, _, c_X11_ripeInAll _ a1 (by rw [e3 4 (by omega) (by omega)]; exact a4), ?_, rfl⟩⟩
        rw [rM]
      · intro i hi ih
        obtain ⟨d1, d2, d3⟩ := mS i
        obtain ⟨g1, g2, -, -⟩ := aF i
        refine vc_X11_drift_35 _ _ _ ⟨fun _ => ?_, fun q => absurd (nI_lt hi (by omega)) q⟩
        have ih2 := ih
        rw [← nI_1] at ih2
        refine w_drift_day a1 h0 a2 (by rw [d3 4 (by omega) (by omega)]; exact a4) (by rw [d3 11 (by omega) (by omega)]; exact a6) (by rw [d3 0 (by omega) (by omega), d3 1 (by omega) (by omega), d3 2 (by omega) (by omega)]; exact hL) g2 g1 d1 ?_
        rw [d3 0 (by omega) (by omega), d3 1 (by omega) (by omega), d3 2 (by omega) (by omega), ← l0, ← l1, ← l2]
        exact ih2
    · refine (hI.views (B := (dnF nb np (σ 11 3) (σ 11 0) (σ 11 1) (σ 11 2) n A).1) (P := (dnF nb np (σ 11 3) (σ 11 0) (σ 11 1) (σ 11 2) n A).2.1) (dy := (dnF nb np (σ 11 3) (σ 11 0) (σ 11 1) (σ 11 2) n A).2.2.1) (sd := (dnF nb np (σ 11 3) (σ 11 0) (σ 11 1) (σ 11 2) n A).2.2.2) ?_ e1 f1 f2 (fun d hd => ?_) (fun k z1 z2 => ?_) (fun k z1 z2 => ?_) (fun p z1 z2 => ?_) (fun b k _ hk => (f3 b k hk).trans (sB b k)) (fun p k _ hk => (f4 p k hk).trans (sP p k))).inv
      · obtain ⟨w1, w2, w3, w4⟩ := c1
        exact ⟨fun b k hb hk => by rw [e2 (14 + b) (by omega)]; exact w1 b k hb hk, fun p k hp hk => by rw [e2 (20 + p) (by omega)]; exact w2 p k hp hk, by rw [e2 10 (by omega)]; exact w3, by rw [e2 10 (by omega)]; exact w4⟩
      · unfold mvg at hd
        rw [e2 d (by omega), c2 d (by omega) (by omega)]
      · rw [e3 k z1 z2]
      · rw [e2 10 (by omega), c3 k z1 z2]
      · rw [e2 (20 + p) (by omega), c2 (20 + p) (by omega) (by omega)]
  · refine ⟨-1000000003, σ, σ, bl_c (Nat.le_of_ble_eq_true rfl) (vc_X10_drift_0 σ _ ⟨_, _, c_X10_within σ _ 1 99, fun q => absurd q g, fun _ => ⟨_, _, c_X4_isTold σ (r := 11) rfl, fun _ => ⟨rfl, rfl⟩, fun q => absurd ?_ q⟩⟩), bl_c (Nat.le_of_ble_eq_true rfl) (vc_X11_drift_0 _ _ ⟨_, _, c_X11_in _ _ 1 99 (by decide) (by decide), fun q => absurd q g, fun _ => ⟨fun _ => ⟨rfl, rfl⟩, fun q => absurd z0 q⟩⟩), h⟩
    rw [l0, l1, l2, z0, z1, z2]
    decide
