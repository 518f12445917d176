/-! THE REFERENCE READS: clauses -/
def RD (D : Nat → Nat → Nat) (s : bl_S) : Prop := s 1 29 = nI (D 0 1) ∧ s 1 31 = nI (D 0 2) ∧ s 1 38 = nI (D 0 3) ∧ s 118 0 = nI (D 0 4) ∧ (D 0 1 = 1 → ∀ k, k < 3 → s 117 k = nI (D 1 k)) ∧ (∀ b k, b < D 0 2 → k < 6 → s (119 + k) b = nI (D (2 + b) k)) ∧ ∀ p k, p < D 0 3 → k < 4 → s (125 + k) p = nI (D (8 + p) k)
def RFm (σ s : bl_S) : Prop := (∀ d, d ≠ 1 → ¬ (117 ≤ d ∧ d ≤ 128) → s d = σ d) ∧ ∀ j, ¬ (24 ≤ j ∧ j ≤ 27) → j ≠ 29 → j ≠ 31 → j ≠ 38 → s 1 j = σ 1 j
def RVw (D : Nat → Nat → Nat) (i : Nat) (σ s : bl_S) : Prop := RFm σ s ∧ s 1 24 = -1 ∧ s 1 25 = nI i ∧ RD D s
/-- what is due behind a clause's numbers -/
def TLp (Q : Option Value → bl_S → Prop) (y : Int32) (τ : bl_S) : Prop := ((y = 0 → (∃ (y40 : Int32) (τ37 : bl_S), bl_Con (bl_mi 106) [.ref 1] τ (some (.int y40)) τ37 ∧ ((y40 = 59 → Q (some (.int y)) (bl_up τ37 1 25 ((τ37 1 25) + 1))) ∧ (¬ y40 = 59 → (∃ (y45 : Int32) (τ42 : bl_S), bl_Con (bl_mi 107) [.ref 1, .int 1, .int (τ37 1 25)] τ37 (some (.int y45)) τ42 ∧ Q (some (.int y45)) τ42))))) ∧ (¬ y = 0 → Q (some (.int y)) (bl_up τ 1 25 ((τ 1 25) + 1))))
theorem tlM {σ s0 τ : bl_S} {T : Nat → Nat} {n i w : Nat} {D' : Nat → Nat → Nat} (hT : TX 116 T n σ) (h23 : σ 1 23 = nI n) (hi : i ≤ n) (hs0 : RFm σ s0) (hg : (nfs T n w i (mW w)).1 = 0 → RFm σ τ ∧ τ 1 24 = -1 ∧ τ 1 25 = nI (eK T n i (mW w)) ∧ RD D' τ) (hb : (nfs T n w i (mW w)).1 ≠ 0 → NF (nfs T n w i (mW w)).2 s0 τ) : ∃ r : Nat × Nat, r = (if (nfs T n w i (mW w)).1 = 0 then (if sK T n i (mW w) < n ∧ T (sK T n i (mW w)) = 59 then (0, sK T n i (mW w) + 1) else (1, sK T n i (mW w))) else nfs T n w i (mW w)) ∧ ∃ υ, ((r.1 = 0 → RVw D' r.2 σ υ) ∧ (r.1 ≠ 0 → RFm σ υ ∧ υ 1 24 = nI r.2)) ∧ ∀ Q : Option Value → bl_S → Prop, Q (some (.int (nI r.1))) υ → TLp Q (nI (nfs T n w i (mW w)).1) τ := by
  refine ⟨_, rfl, ?_⟩
  have hn := hT.1
  have fb := nfs_b (T := T) (n := n) (w := w) (i := i) hi (mW w)
  by_cases c : (nfs T n w i (mW w)).1 = 0
  · rw [if_pos c]
    obtain ⟨g1, g2, g3, g4⟩ := hg c
    have hTt : TX 116 T n τ := ⟨hT.1, hT.2.1, fun j hj => by rw [g1.1 116 (by omega) (by omega)]; exact hT.2.2 j hj⟩
    have hh := hereM hTt (by rw [g1.2 23 (by omega) (by omega) (by omega) (by omega)]; exact h23) g3 (eK_b hi _).2
    rw [← sK_e] at hh
    have skb := sK_b (T := T) hi (mW w)
    generalize sK T n i (mW w) = q at *
    obtain ⟨τ1, e1⟩ : ∃ τ1, τ1 = bl_up τ 1 25 (nI q) := ⟨_, rfl⟩
    rw [← e1] at hh
    have t125 : τ1 1 25 = nI q := by rw [e1, bl_up_s]
    by_cases c3 : q < n ∧ T q = 59
    · rw [if_pos c3]
      rw [if_pos c3.1, c3.2] at hh
      obtain ⟨υ, eυ⟩ : ∃ υ, υ = bl_up τ1 1 25 (nI (q + 1)) := ⟨_, rfl⟩
      have uc : ∀ d, d ≠ 1 → υ d = τ d := fun d z => by rw [eυ, bl_up_ne z, e1, bl_up_ne z]
      have uj : ∀ j, j ≠ 25 → υ 1 j = τ 1 j := fun j z => by rw [eυ, bl_up_j z, e1, bl_up_j z]
      obtain ⟨r1, r2, r3, r4, r5, r6, r7⟩ := g4
      refine ⟨υ, ⟨fun _ => ⟨⟨fun d z1 z2 => by rw [uc d z1]; exact g1.1 d z1 z2, fun j z1 z2 z3 z4 => by rw [uj j (by omega)]; exact g1.2 j z1 z2 z3 z4⟩, by rw [uj 24 (by omega)]; exact g2, by rw [eυ, bl_up_s], ⟨by rw [uj 29 (by omega)]; exact r1, by rw [uj 31 (by omega)]; exact r2, by rw [uj 38 (by omega)]; exact r3, by rw [uc 118 (by omega)]; exact r4, fun z k hk => by rw [uc 117 (by omega)]; exact r5 z k hk, fun b k z1 z2 => by rw [uc (119 + k) (by omega)]; exact r6 b k z1 z2, fun p k z1 z2 => by rw [uc (125 + k) (by omega)]; exact r7 p k z1 z2⟩⟩, fun z => absurd rfl z⟩, fun Q hQ => ⟨fun _ => ⟨_, _, hh, fun _ => ?_, fun z => absurd rfl z⟩, fun z => absurd (by rw [c]; rfl) z⟩⟩
      rw [t125, nI_1, ← eυ, c]
      exact hQ
    · rw [if_neg c3]
      have n59 : ¬ (if q < n then nI (T q) else (-1 : Int32)) = 59 := by
        by_cases c4 : q < n
        · rw [if_pos c4]
          have := hT.2.1 q c4
          exact fun z => c3 ⟨c4, (nI_eq (b := 59) (by omega) (by omega)).mp z⟩
        · rw [if_neg c4]
          decide
      obtain ⟨υ, eυ⟩ : ∃ υ, υ = bl_up τ1 1 24 (nI q) := ⟨_, rfl⟩
      refine ⟨υ, ⟨fun z => absurd z Nat.one_ne_zero, fun _ => ⟨⟨fun d z1 z2 => by rw [eυ, bl_up_ne z1, e1, bl_up_ne z1]; exact g1.1 d z1 z2, fun j z1 z2 z3 z4 => by rw [eυ, bl_up_j (by omega), e1, bl_up_j (by omega)]; exact g1.2 j z1 z2 z3 z4⟩, by rw [eυ, bl_up_s]⟩⟩, fun Q hQ => ⟨fun _ => ⟨_, _, hh, fun z => absurd z n59, fun _ => ?_⟩, fun z => absurd (by rw [c]; rfl) z⟩⟩
      rw [t125]
      refine ⟨_, _, failsM τ1 1 (nI q), ?_⟩
      rw [← eυ]
      exact hQ
  · rw [if_neg c]
    obtain ⟨b1, b2, b3⟩ := hb c
    refine ⟨bl_up τ 1 25 (τ 1 25 + 1), ⟨fun z => absurd z c, fun _ => ⟨⟨fun d z1 z2 => by rw [bl_up_ne z1, b1 d z1 z2]; exact hs0.1 d z1 z2, fun j z1 z2 z3 z4 => by rw [bl_up_j (by omega), b2 j z1]; exact hs0.2 j z1 z2 z3 z4⟩, by rw [bl_up_j (by omega)]; exact b3⟩⟩, fun Q hQ => ⟨fun z => absurd z (nI_ne0 (by omega) (by omega)), fun _ => hQ⟩⟩
theorem tcM {σ s : bl_S} {T : Nat → Nat} {n i : Nat} {D : Nat → Nat → Nat} (hT : TX 116 T n σ) (h23 : σ 1 23 = nI n) (hD : okD D) (hV : RVw D i σ s) (hi : i < n) (hnb : T i ≠ 32) : ∃ υ, (((clD T n D i).1 = 0 → RVw (tkD (T i) (fun k => nv T n (sK T n (i + 1) k)) D) (clD T n D i).2 σ υ) ∧ ((clD T n D i).1 ≠ 0 → RFm σ υ ∧ υ 1 24 = nI (clD T n D i).2)) ∧ bl_Con (bl_mi 113) [.ref 1] s (some (.int (nI (clD T n D i).1))) υ := by
  obtain ⟨⟨m1, m2⟩, v2, v3, ⟨r1, r2, r3, r4, r5, r6, r7⟩⟩ := id hV
  obtain ⟨o1, o2, o3, o4, o5, o6, o7, o8⟩ := id hD
  have hn := hT.1
  have hle := hT.2.1 i hi
  have hTs : TX 116 T n s := ⟨hT.1, hT.2.1, fun j hj => by rw [m1 116 (by omega) (by omega)]; exact hT.2.2 j hj⟩
  have s23 : s 1 23 = nI n := by rw [m2 23 (by omega) (by omega) (by omega) (by omega)]; exact h23
  have hh := hereM hTs s23 v3 (by omega)
  rw [skp_id hi hnb, if_pos hi, bl_up_id' v3.symm] at hh
  obtain ⟨s', es'⟩ : ∃ s', s' = bl_up s 1 25 (nI (i + 1)) := ⟨_, rfl⟩
  have sc : ∀ d, d ≠ 1 → s' d = s d := fun d z => by rw [es', bl_up_ne z]
  have sj : ∀ j, j ≠ 25 → s' 1 j = s 1 j := fun j z => by rw [es', bl_up_j z]
  have hT' : TX 116 T n s' := ⟨hT.1, hT.2.1, fun j hj => by rw [sc 116 (by omega)]; exact hTs.2.2 j hj⟩
  have s'23 : s' 1 23 = nI n := by rw [sj 23 (by omega)]; exact s23
  have s'25 : s' 1 25 = nI (i + 1) := by rw [es', bl_up_s]
  have hi1 : i + 1 ≤ n := by omega
  obtain ⟨w, ew⟩ : ∃ w, w = T i := ⟨_, rfl⟩
  unfold clD
  rw [← ew] at hh hle ⊢
  have w98 : nI w = 98 ↔ w = 98 := nI_eq (b := 98) (by omega) (by omega)
  have w99 : nI w = 99 ↔ w = 99 := nI_eq (b := 99) (by omega) (by omega)
  have w108 : nI w = 108 ↔ w = 108 := nI_eq (b := 108) (by omega) (by omega)
  have w112 : nI w = 112 ↔ w = 112 := nI_eq (b := 112) (by omega) (by omega)
  have fail : ∀ c : Nat, ((∀ d, d ≠ 1 → ¬ (117 ≤ d ∧ d ≤ 128) → bl_up s 1 24 (nI i) d = σ d) ∧ ∀ j, ¬ (24 ≤ j ∧ j ≤ 27) → j ≠ 29 → j ≠ 31 → j ≠ 38 → bl_up s 1 24 (nI i) 1 j = σ 1 j) ∧ bl_up s 1 24 (nI i) 1 24 = nI i := fun c => ⟨⟨fun d z1 z2 => by rw [bl_up_ne z1]; exact m1 d z1 z2, fun j z1 z2 z3 z4 => by rw [bl_up_j (by omega)]; exact m2 j z1 z2 z3 z4⟩, by rw [bl_up_s]⟩
  have fl := failsM s
  by_cases wl : w = 108
  · subst wl
    by_cases c0 : D 0 1 = 0
    · -- the law
      have wf : wfD 108 D = 0 := by unfold wfD; rw [if_pos c0, if_pos rfl]
      rw [if_pos wf]
      obtain ⟨τ, ⟨g, b⟩, hC⟩ := lawM hT' s'23 s'25 hi1
      obtain ⟨z1, z2, z3, z4⟩ := o5 c0
      have et : ∀ f, tkD 108 f D = dR (dU D 0 1 1) 1 f := fun _ => rfl
      obtain ⟨r, er, υ, hU, hQ⟩ := tlM (σ := σ) (s0 := bl_up s' 1 29 1) (τ := τ) (w := 108) (D' := tkD 108 (fun k => nv T n (sK T n (i + 1) k)) D) hT h23 hi1 ⟨fun d y1 y2 => by rw [bl_up_ne y1, sc d y1]; exact m1 d y1 y2, fun j y1 y2 y3 y4 => by rw [bl_up_j y2, sj j (by omega)]; exact m2 j y1 y2 y3 y4⟩ (fun z => by
        obtain ⟨a1, a2, a3, a4, a5⟩ := g z
        refine ⟨⟨fun d y1 y2 => ?_, fun j y1 y2 y3 y4 => by rw [a2 j y1, bl_up_j y2, sj j (by omega)]; exact m2 j y1 y2 y3 y4⟩, by rw [a3, bl_up_j (by omega), sj 24 (by omega)]; exact v2, a4, ⟨?_, ?_, ?_, ?_, fun _ k hk => ?_, fun b k hb _ => ?_, fun p k hp _ => ?_⟩⟩
        · funext j
          rw [a1 d j y1 (fun k' _ y => by have : d = 117 := y.1; omega), bl_up_c y1, sc d y1, m1 d y1 y2]
        · rw [a2 29 (by omega), bl_up_s, et, dR_c (by omega), dU_s]
          rfl
        · rw [a2 31 (by omega), bl_up_j (by omega), sj 31 (by omega), et, dR_c (by omega), dU_j (by omega)]
          exact r2
        · rw [a2 38 (by omega), bl_up_j (by omega), sj 38 (by omega), et, dR_c (by omega), dU_j (by omega)]
          exact r3
        · rw [a1 118 0 (by omega) (fun k' _ y => by have : 118 = 117 := y.1; omega), bl_up_c (by omega), sc 118 (by omega), et, dR_c (by omega), dU_j (by omega)]
          exact r4
        · rw [et, dR_s]
          exact a5 k hk
        · rw [et, dR_c (by omega), dU_j (by omega), z1] at hb
          omega
        · rw [et, dR_c (by omega), dU_j (by omega), z2] at hp
          omega) b
      have em : mW 108 = 3 := rfl
      rw [em] at er hQ ⊢
      rw [← er]
      refine ⟨υ, hU, bl_c (Nat.le_of_ble_eq_true rfl) (vc_X11_takeClause_0 s ⟨_, _, hh, fun v9 e9 => ?_⟩)⟩
      rw [if_pos (w108.mpr rfl)] at e9
      subst e9
      rw [v3, nI_1, ← es']
      refine ⟨fun z => absurd z (by decide), fun _ => ⟨fun z => absurd z (by decide), fun _ v101 e101 => ⟨fun _ => ⟨fun _ => ⟨_, _, hC, hQ (fun v u => v = some (.int (nI r.1)) ∧ u = υ) ⟨rfl, rfl⟩⟩, fun z => absurd rfl z⟩, fun z => absurd ?_ z⟩⟩⟩
      rw [e101, if_pos rfl, r1, c0]
      rfl
    · -- the law again
      have wf : wfD 108 D = 3 := by unfold wfD; rw [if_neg c0, if_neg (by decide), if_neg (by decide), if_pos rfl]
      rw [if_neg (by omega), wf]
      refine ⟨_, ⟨fun z => absurd z (Nat.succ_ne_zero 2), fun _ => fail 3⟩, bl_c (Nat.le_of_ble_eq_true rfl) (vc_X11_takeClause_0 s ⟨_, _, hh, fun v9 e9 => ?_⟩)⟩
      rw [if_pos (w108.mpr rfl)] at e9
      subst e9
      rw [v3]
      refine ⟨fun z => absurd z (by decide), fun _ => ⟨fun z => absurd z (by decide), fun _ v101 e101 => ⟨fun z => absurd z ?_, fun _ => ⟨_, _, fl 3 (nI i), rfl, rfl⟩⟩⟩⟩
      rw [e101, if_pos rfl, r1]
      exact nI_ne0 (by omega) (by omega)
  · by_cases wb : w = 98
    · subst wb
      by_cases c0 : D 0 1 = 0
      · have wf : wfD 98 D = 1 := by unfold wfD; rw [if_pos c0, if_neg (by decide)]
        rw [if_neg (by omega), wf]
        refine ⟨_, ⟨fun z => absurd z Nat.one_ne_zero, fun _ => fail 1⟩, bl_c (Nat.le_of_ble_eq_true rfl) (vc_X11_takeClause_0 s ⟨_, _, hh, fun v9 e9 => ?_⟩)⟩
        rw [if_neg (fun z => absurd (w108.mp z) (by decide)), if_pos (w98.mpr rfl)] at e9
        subst e9
        rw [v3]
        exact ⟨fun z => absurd z (by decide), fun _ => ⟨fun _ => ⟨fun _ => ⟨_, _, fl 1 (nI i), rfl, rfl⟩, fun z => absurd (by rw [r1, c0]; rfl) z⟩, fun z => absurd (by decide) z⟩⟩
      · by_cases c2 : D 0 2 < 6
        · have wf : wfD 98 D = 0 := by unfold wfD; rw [if_neg c0, if_pos rfl, if_pos c2]
          rw [if_pos wf]
          obtain ⟨τ, ⟨g, b⟩, hC⟩ := bushM (b := D 0 2) hT' s'23 s'25 hi1 c2 (by rw [sj 31 (by omega)]; exact r2)
          have et : ∀ f, tkD 98 f D = dR (dU D 0 2 (D 0 2 + 1)) (2 + D 0 2) f := fun _ => rfl
          obtain ⟨r, er, υ, hU, hQ⟩ := tlM (σ := σ) (s0 := bl_up s' 1 31 (nI (D 0 2 + 1))) (τ := τ) (w := 98) (D' := tkD 98 (fun k => nv T n (sK T n (i + 1) k)) D) hT h23 hi1 ⟨fun d y1 y2 => by rw [bl_up_ne y1, sc d y1]; exact m1 d y1 y2, fun j y1 y2 y3 y4 => by rw [bl_up_j y3, sj j (by omega)]; exact m2 j y1 y2 y3 y4⟩ (fun z => by
            obtain ⟨a1, a2, a3, a4, a5⟩ := g z
            refine ⟨⟨fun d y1 y2 => ?_, fun j y1 y2 y3 y4 => by rw [a2 j y1, bl_up_j y3, sj j (by omega)]; exact m2 j y1 y2 y3 y4⟩, by rw [a3, bl_up_j (by omega), sj 24 (by omega)]; exact v2, a4, ⟨?_, ?_, ?_, ?_, fun y k hk => ?_, fun b k hb hk => ?_, fun p k hp hk => ?_⟩⟩
            · funext j
              rw [a1 d j y1 (fun k' _ y => by have : d = 119 + k' := y.1; omega), bl_up_c y1, sc d y1, m1 d y1 y2]
            · rw [a2 29 (by omega), bl_up_j (by omega), sj 29 (by omega), et, dR_c (by omega), dU_j (by omega)]
              exact r1
            · rw [a2 31 (by omega), bl_up_s, et, dR_c (by omega), dU_s]
            · rw [a2 38 (by omega), bl_up_j (by omega), sj 38 (by omega), et, dR_c (by omega), dU_j (by omega)]
              exact r3
            · rw [a1 118 0 (by omega) (fun k' _ y => by have : 118 = 119 + k' := y.1; omega), bl_up_c (by omega), sc 118 (by omega), et, dR_c (by omega), dU_j (by omega)]
              exact r4
            · rw [et, dR_c (by omega), dU_j (by omega)] at y
              rw [a1 117 k (by omega) (fun k' _ y => by have : 117 = 119 + k' := y.1; omega), bl_up_c (by omega), sc 117 (by omega), et, dR_c (by omega), dU_c (by omega)]
              exact r5 y k hk
            · rw [et, dR_c (by omega), dU_s] at hb
              by_cases e : b = D 0 2
              · subst e
                rw [et, dR_s]
                exact a5 k hk
              · rw [a1 (119 + k) b (by omega) (fun k' _ y => e y.2), bl_up_c (by omega), sc (119 + k) (by omega), et, dR_c (by omega), dU_c (by omega)]
                exact r6 b k (by omega) hk
            · rw [et, dR_c (by omega), dU_j (by omega)] at hp
              rw [a1 (125 + k) p (by omega) (fun k' _ y => by have : 125 + k = 119 + k' := y.1; omega), bl_up_c (by omega), sc (125 + k) (by omega), et, dR_c (by omega), dU_c (by omega)]
              exact r7 p k hp hk) b
          have em : mW 98 = 6 := rfl
          rw [em] at er hQ ⊢
          rw [← er]
          refine ⟨υ, hU, bl_c (Nat.le_of_ble_eq_true rfl) (vc_X11_takeClause_0 s ⟨_, _, hh, fun v9 e9 => ?_⟩)⟩
          rw [if_neg (fun z => absurd (w108.mp z) (by decide)), if_pos (w98.mpr rfl)] at e9
          subst e9
          rw [v3, nI_1, ← es']
          refine ⟨fun z => absurd z (by decide), fun _ => ⟨fun _ => ⟨fun z => absurd z (by rw [r1]; exact nI_ne0 (by omega) (by omega)), fun _ v28 e28 => ⟨fun _ => ⟨fun z => absurd z (by decide), fun _ => ⟨fun _ => ⟨_, _, hC, hQ (fun v u => v = some (.int (nI r.1)) ∧ u = υ) ⟨rfl, rfl⟩⟩, fun z => absurd rfl z⟩⟩, fun z => absurd ?_ z⟩⟩, fun z => absurd (by decide) z⟩⟩
          rw [e28, if_neg (by decide), if_pos rfl, r2, if_neg (fun y => by have := (nI_eq (b := 6) (by omega) (by omega)).mp y; omega)]
        · have wf : wfD 98 D = 3 := by unfold wfD; rw [if_neg c0, if_pos rfl, if_neg c2]
          rw [if_neg (by omega), wf]
          refine ⟨_, ⟨fun z => absurd z (Nat.succ_ne_zero 2), fun _ => fail 3⟩, bl_c (Nat.le_of_ble_eq_true rfl) (vc_X11_takeClause_0 s ⟨_, _, hh, fun v9 e9 => ?_⟩)⟩
          rw [if_neg (fun z => absurd (w108.mp z) (by decide)), if_pos (w98.mpr rfl)] at e9
          subst e9
          rw [v3]
          refine ⟨fun z => absurd z (by decide), fun _ => ⟨fun _ => ⟨fun z => absurd z (by rw [r1]; exact nI_ne0 (by omega) (by omega)), fun _ v28 e28 => ⟨fun z => absurd z ?_, fun _ => ⟨_, _, fl 3 (nI i), rfl, rfl⟩⟩⟩, fun z => absurd (by decide) z⟩⟩
          rw [e28, if_neg (by decide), if_pos rfl, r2, show D 0 2 = 6 by omega]
          decide
    · by_cases wp : w = 112
      · subst wp
        by_cases c0 : D 0 1 = 0
        · have wf : wfD 112 D = 1 := by unfold wfD; rw [if_pos c0, if_neg (by decide)]
          rw [if_neg (by omega), wf]
          refine ⟨_, ⟨fun z => absurd z Nat.one_ne_zero, fun _ => fail 1⟩, bl_c (Nat.le_of_ble_eq_true rfl) (vc_X11_takeClause_0 s ⟨_, _, hh, fun v9 e9 => ?_⟩)⟩
          rw [if_neg (fun z => absurd (w108.mp z) (by decide)), if_neg (fun z => absurd (w98.mp z) (by decide)), if_pos (w112.mpr rfl)] at e9
          subst e9
          rw [v3]
          exact ⟨fun z => absurd z (by decide), fun _ => ⟨fun _ => ⟨fun _ => ⟨_, _, fl 1 (nI i), rfl, rfl⟩, fun z => absurd (by rw [r1, c0]; rfl) z⟩, fun z => absurd (by decide) z⟩⟩
        · by_cases c2 : D 0 3 < 4
          · have wf : wfD 112 D = 0 := by unfold wfD; rw [if_neg c0, if_neg (by decide), if_neg (by decide), if_neg (by decide), if_pos rfl, if_pos c2]
            rw [if_pos wf]
            obtain ⟨τ, ⟨g, b⟩, hC⟩ := pickM (b := D 0 3) hT' s'23 s'25 hi1 c2 (by rw [sj 38 (by omega)]; exact r3)
            have et : ∀ f, tkD 112 f D = dR (dU D 0 3 (D 0 3 + 1)) (8 + D 0 3) f := fun _ => rfl
            obtain ⟨r, er, υ, hU, hQ⟩ := tlM (σ := σ) (s0 := bl_up s' 1 38 (nI (D 0 3 + 1))) (τ := τ) (w := 112) (D' := tkD 112 (fun k => nv T n (sK T n (i + 1) k)) D) hT h23 hi1 ⟨fun d y1 y2 => by rw [bl_up_ne y1, sc d y1]; exact m1 d y1 y2, fun j y1 y2 y3 y4 => by rw [bl_up_j y4, sj j (by omega)]; exact m2 j y1 y2 y3 y4⟩ (fun z => by
              obtain ⟨a1, a2, a3, a4, a5⟩ := g z
              refine ⟨⟨fun d y1 y2 => ?_, fun j y1 y2 y3 y4 => by rw [a2 j y1, bl_up_j y4, sj j (by omega)]; exact m2 j y1 y2 y3 y4⟩, by rw [a3, bl_up_j (by omega), sj 24 (by omega)]; exact v2, a4, ⟨?_, ?_, ?_, ?_, fun y k hk => ?_, fun b k hb hk => ?_, fun p k hp hk => ?_⟩⟩
              · funext j
                rw [a1 d j y1 (fun k' _ y => by have : d = 125 + k' := y.1; omega), bl_up_c y1, sc d y1, m1 d y1 y2]
              · rw [a2 29 (by omega), bl_up_j (by omega), sj 29 (by omega), et, dR_c (by omega), dU_j (by omega)]
                exact r1
              · rw [a2 31 (by omega), bl_up_j (by omega), sj 31 (by omega), et, dR_c (by omega), dU_j (by omega)]
                exact r2
              · rw [a2 38 (by omega), bl_up_s, et, dR_c (by omega), dU_s]
              · rw [a1 118 0 (by omega) (fun k' _ y => by have : 118 = 125 + k' := y.1; omega), bl_up_c (by omega), sc 118 (by omega), et, dR_c (by omega), dU_j (by omega)]
                exact r4
              · rw [et, dR_c (by omega), dU_j (by omega)] at y
                rw [a1 117 k (by omega) (fun k' _ y => by have : 117 = 125 + k' := y.1; omega), bl_up_c (by omega), sc 117 (by omega), et, dR_c (by omega), dU_c (by omega)]
                exact r5 y k hk
              · rw [et, dR_c (by omega), dU_j (by omega)] at hb
                rw [a1 (119 + k) b (by omega) (fun k' _ y => by have : 119 + k = 125 + k' := y.1; omega), bl_up_c (by omega), sc (119 + k) (by omega), et, dR_c (by omega), dU_c (by omega)]
                exact r6 b k hb hk
              · rw [et, dR_c (by omega), dU_s] at hp
                by_cases e : p = D 0 3
                · subst e
                  rw [et, dR_s]
                  exact a5 k hk
                · rw [a1 (125 + k) p (by omega) (fun k' _ y => e y.2), bl_up_c (by omega), sc (125 + k) (by omega), et, dR_c (by omega), dU_c (by omega)]
                  exact r7 p k (by omega) hk) b
            have em : mW 112 = 4 := rfl
            rw [em] at er hQ ⊢
            rw [← er]
            refine ⟨υ, hU, bl_c (Nat.le_of_ble_eq_true rfl) (vc_X11_takeClause_0 s ⟨_, _, hh, fun v9 e9 => ?_⟩)⟩
            rw [if_neg (fun z => absurd (w108.mp z) (by decide)), if_neg (fun z => absurd (w98.mp z) (by decide)), if_pos (w112.mpr rfl)] at e9
            subst e9
            rw [v3, nI_1, ← es']
            refine ⟨fun z => absurd z (by decide), fun _ => ⟨fun _ => ⟨fun z => absurd z (by rw [r1]; exact nI_ne0 (by omega) (by omega)), fun _ v28 e28 => ⟨fun _ => ⟨fun z => absurd z (by decide), fun _ => ⟨fun z => absurd z (by decide), fun _ => ⟨fun _ => ⟨_, _, hC, hQ (fun v u => v = some (.int (nI r.1)) ∧ u = υ) ⟨rfl, rfl⟩⟩, fun z => absurd rfl z⟩⟩⟩, fun z => absurd ?_ z⟩⟩, fun z => absurd (by decide) z⟩⟩
            rw [e28, if_neg (by decide), if_neg (by decide), if_pos rfl, r3, if_neg (fun y => by have := (nI_eq (b := 4) (by omega) (by omega)).mp y; omega)]
          · have wf : wfD 112 D = 3 := by unfold wfD; rw [if_neg c0, if_neg (by decide), if_neg (by decide), if_neg (by decide), if_pos rfl, if_neg c2]
            rw [if_neg (by omega), wf]
            refine ⟨_, ⟨fun z => absurd z (Nat.succ_ne_zero 2), fun _ => fail 3⟩, bl_c (Nat.le_of_ble_eq_true rfl) (vc_X11_takeClause_0 s ⟨_, _, hh, fun v9 e9 => ?_⟩)⟩
            rw [if_neg (fun z => absurd (w108.mp z) (by decide)), if_neg (fun z => absurd (w98.mp z) (by decide)), if_pos (w112.mpr rfl)] at e9
            subst e9
            rw [v3]
            refine ⟨fun z => absurd z (by decide), fun _ => ⟨fun _ => ⟨fun z => absurd z (by rw [r1]; exact nI_ne0 (by omega) (by omega)), fun _ v28 e28 => ⟨fun z => absurd z ?_, fun _ => ⟨_, _, fl 3 (nI i), rfl, rfl⟩⟩⟩, fun z => absurd (by decide) z⟩⟩
            rw [e28, if_neg (by decide), if_neg (by decide), if_pos rfl, r3, show D 0 3 = 4 by omega]
            decide
      · by_cases wc : w = 99
        · subst wc
          by_cases c0 : D 0 1 = 0
          · have wf : wfD 99 D = 1 := by unfold wfD; rw [if_pos c0, if_neg (by decide)]
            rw [if_neg (by omega), wf]
            refine ⟨_, ⟨fun z => absurd z Nat.one_ne_zero, fun _ => fail 1⟩, bl_c (Nat.le_of_ble_eq_true rfl) (vc_X11_takeClause_0 s ⟨_, _, hh, fun v9 e9 => ?_⟩)⟩
            rw [if_neg (fun z => absurd (w108.mp z) (by decide)), if_neg (fun z => absurd (w98.mp z) (by decide)), if_neg (fun z => absurd (w112.mp z) (by decide)), if_pos (w99.mpr rfl)] at e9
            subst e9
            rw [v3]
            exact ⟨fun z => absurd z (by decide), fun _ => ⟨fun _ => ⟨fun _ => ⟨_, _, fl 1 (nI i), rfl, rfl⟩, fun z => absurd (by rw [r1, c0]; rfl) z⟩, fun z => absurd (by decide) z⟩⟩
          · by_cases c2 : D 0 4 = 0
            · have wf : wfD 99 D = 0 := by unfold wfD; rw [if_neg c0, if_neg (by decide), if_pos rfl, if_pos c2]
              rw [if_pos wf]
              obtain ⟨τ, ⟨g, b⟩, hC⟩ := canM hT' s'23 s'25 hi1
              have et : ∀ f, tkD 99 f D = dU D 0 4 (f 0) := fun _ => rfl
              obtain ⟨r, er, υ, hU, hQ⟩ := tlM (σ := σ) (s0 := s') (τ := τ) (w := 99) (D' := tkD 99 (fun k => nv T n (sK T n (i + 1) k)) D) hT h23 hi1 ⟨fun d y1 y2 => by rw [sc d y1]; exact m1 d y1 y2, fun j y1 y2 y3 y4 => by rw [sj j (by omega)]; exact m2 j y1 y2 y3 y4⟩ (fun z => by
                obtain ⟨a1, a2, a3, a4, a5⟩ := g z
                refine ⟨⟨fun d y1 y2 => ?_, fun j y1 y2 y3 y4 => by rw [a2 j y1, sj j (by omega)]; exact m2 j y1 y2 y3 y4⟩, by rw [a3, sj 24 (by omega)]; exact v2, a4, ⟨?_, ?_, ?_, ?_, fun y k hk => ?_, fun b k hb hk => ?_, fun p k hp hk => ?_⟩⟩
                · funext j
                  rw [a1 d j y1 (fun k' _ y => by have : d = 118 := y.1; omega), sc d y1, m1 d y1 y2]
                · rw [a2 29 (by omega), sj 29 (by omega), et, dU_j (by omega)]
                  exact r1
                · rw [a2 31 (by omega), sj 31 (by omega), et, dU_j (by omega)]
                  exact r2
                · rw [a2 38 (by omega), sj 38 (by omega), et, dU_j (by omega)]
                  exact r3
                · rw [et, dU_s]
                  exact a5 0 (by omega)
                · rw [et, dU_j (by omega)] at y
                  rw [a1 117 k (by omega) (fun k' _ y => by have : 117 = 118 := y.1; omega), sc 117 (by omega), et, dU_c (by omega)]
                  exact r5 y k hk
                · rw [et, dU_j (by omega)] at hb
                  rw [a1 (119 + k) b (by omega) (fun k' _ y => by have : 119 + k = 118 := y.1; omega), sc (119 + k) (by omega), et, dU_c (by omega)]
                  exact r6 b k hb hk
                · rw [et, dU_j (by omega)] at hp
                  rw [a1 (125 + k) p (by omega) (fun k' _ y => by have : 125 + k = 118 := y.1; omega), sc (125 + k) (by omega), et, dU_c (by omega)]
                  exact r7 p k hp hk) b
              have em : mW 99 = 1 := rfl
              rw [em] at er hQ ⊢
              rw [← er]
              refine ⟨υ, hU, bl_c (Nat.le_of_ble_eq_true rfl) (vc_X11_takeClause_0 s ⟨_, _, hh, fun v9 e9 => ?_⟩)⟩
              rw [if_neg (fun z => absurd (w108.mp z) (by decide)), if_neg (fun z => absurd (w98.mp z) (by decide)), if_neg (fun z => absurd (w112.mp z) (by decide)), if_pos (w99.mpr rfl)] at e9
              subst e9
              rw [v3, nI_1, ← es']
              refine ⟨fun z => absurd z (by decide), fun _ => ⟨fun _ => ⟨fun z => absurd z (by rw [r1]; exact nI_ne0 (by omega) (by omega)), fun _ v28 e28 => ⟨fun _ => ⟨fun z => absurd z (by decide), fun _ => ⟨fun z => absurd z (by decide), fun _ => ⟨fun z => absurd z (by decide), fun _ => ⟨_, _, hC, hQ (fun v u => v = some (.int (nI r.1)) ∧ u = υ) ⟨rfl, rfl⟩⟩⟩⟩⟩, fun z => absurd ?_ z⟩⟩, fun z => absurd (by decide) z⟩⟩
              rw [e28, if_neg (by decide), if_neg (by decide), if_neg (by decide), r4, c2]
              decide
            · have wf : wfD 99 D = 3 := by unfold wfD; rw [if_neg c0, if_neg (by decide), if_pos rfl, if_neg c2]
              rw [if_neg (by omega), wf]
              refine ⟨_, ⟨fun z => absurd z (Nat.succ_ne_zero 2), fun _ => fail 3⟩, bl_c (Nat.le_of_ble_eq_true rfl) (vc_X11_takeClause_0 s ⟨_, _, hh, fun v9 e9 => ?_⟩)⟩
              rw [if_neg (fun z => absurd (w108.mp z) (by decide)), if_neg (fun z => absurd (w98.mp z) (by decide)), if_neg (fun z => absurd (w112.mp z) (by decide)), if_pos (w99.mpr rfl)] at e9
              subst e9
              rw [v3]
              refine ⟨fun z => absurd z (by decide), fun _ => ⟨fun _ => ⟨fun z => absurd z (by rw [r1]; exact nI_ne0 (by omega) (by omega)), fun _ v28 e28 => ⟨fun z => absurd z ?_, fun _ => ⟨_, _, fl 3 (nI i), rfl, rfl⟩⟩⟩, fun z => absurd (by decide) z⟩⟩
              rw [e28, if_neg (by decide), if_neg (by decide), if_neg (by decide), r4, if_pos (show (0 : Int32) < nI (D 0 4) from nI_lt (a := 0) (by omega) (by omega))]
              decide
        · -- no word
          have wf : wfD w D = 1 := by
            unfold wfD
            by_cases c0 : D 0 1 = 0
            · rw [if_pos c0, if_neg wl]
            · rw [if_neg c0, if_neg wb, if_neg wc, if_neg wl, if_neg wp]
          rw [if_neg (by omega), wf]
          refine ⟨_, ⟨fun z => absurd z Nat.one_ne_zero, fun _ => fail 1⟩, bl_c (Nat.le_of_ble_eq_true rfl) (vc_X11_takeClause_0 s ⟨_, _, hh, fun v9 e9 => ?_⟩)⟩
          rw [if_neg (fun z => wl (w108.mp z)), if_neg (fun z => wb (w98.mp z)), if_neg (fun z => wp (w112.mp z)), if_neg (fun z => wc (w99.mp z))] at e9
          subst e9
          rw [v3]
          exact ⟨fun _ => ⟨_, _, fl 1 (nI i), rfl, rfl⟩, fun z => absurd (by decide) z⟩
