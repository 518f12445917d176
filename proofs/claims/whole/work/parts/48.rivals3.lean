theorem pr_rivals {σ : bl_S} (h : Inv σ) (x y z w : Int32) : Pr 84 156 [.int x, .int y, .int z, .int w] σ := by
  obtain ⟨nb, np, nt, a, b, c, hl, hb, hp, hz, ht, hs', hm'⟩ := id h
  have hn := hl.1
  have hn2 := hl.2.1
  by_cases g : wi x 0 (nI np - 1) = 0
  · exact ⟨-1000000001, σ, σ, bl_c (Nat.le_of_ble_eq_true rfl) (vc_X10_rivals_0 σ x y z w ⟨_, _, g71 hl x, fun _ => ⟨rfl, rfl⟩, fun q => absurd g q⟩), bl_c (Nat.le_of_ble_eq_true rfl) (vc_X11_rivals_0 σ x y z w ⟨_, _, g104 hl x, fun _ => ⟨rfl, rfl⟩, fun q => absurd g q⟩), h⟩
  by_cases g2 : wi y 0 (nI np - 1) = 0
  · exact ⟨-1000000001, σ, σ, bl_c (Nat.le_of_ble_eq_true rfl) (vc_X10_rivals_0 σ x y z w ⟨_, _, g71 hl x, fun q => absurd q g, fun _ => ⟨_, _, g71 hl y, fun _ => ⟨rfl, rfl⟩, fun q => absurd g2 q⟩⟩), bl_c (Nat.le_of_ble_eq_true rfl) (vc_X11_rivals_0 σ x y z w ⟨_, _, g104 hl x, fun q => absurd q g, fun _ => ⟨_, _, g104 hl y, fun _ => ⟨rfl, rfl⟩, fun q => absurd g2 q⟩⟩), h⟩
  by_cases g3 : x = y
  · exact ⟨-1000000001, σ, σ, bl_c (Nat.le_of_ble_eq_true rfl) (vc_X10_rivals_0 σ x y z w ⟨_, _, g71 hl x, fun q => absurd q g, fun _ => ⟨_, _, g71 hl y, fun q => absurd q g2, fun _ => ⟨fun _ => ⟨rfl, rfl⟩, fun q => absurd g3 q⟩⟩⟩), bl_c (Nat.le_of_ble_eq_true rfl) (vc_X11_rivals_0 σ x y z w ⟨_, _, g104 hl x, fun q => absurd q g, fun _ => ⟨_, _, g104 hl y, fun q => absurd q g2, fun _ => ⟨fun _ => ⟨rfl, rfl⟩, fun q => absurd g3 q⟩⟩⟩), h⟩
  by_cases g4 : wi z 1 20 = 0
  · exact ⟨-1000000002, σ, σ, bl_c (Nat.le_of_ble_eq_true rfl) (vc_X10_rivals_0 σ x y z w ⟨_, _, g71 hl x, fun q => absurd q g, fun _ => ⟨_, _, g71 hl y, fun q => absurd q g2, fun _ => ⟨fun q => absurd q g3, fun _ => ⟨_, _, c_X10_within σ z 1 20, fun _ => ⟨rfl, rfl⟩, fun q => absurd g4 q⟩⟩⟩⟩), bl_c (Nat.le_of_ble_eq_true rfl) (vc_X11_rivals_0 σ x y z w ⟨_, _, g104 hl x, fun q => absurd q g, fun _ => ⟨_, _, g104 hl y, fun q => absurd q g2, fun _ => ⟨fun q => absurd q g3, fun _ => ⟨_, _, c_X11_in σ z 1 20 (by decide) (by decide), fun _ => ⟨rfl, rfl⟩, fun q => absurd g4 q⟩⟩⟩⟩), h⟩
  by_cases g5 : wi w 0 2 = 0
  · exact ⟨-1000000002, σ, σ, bl_c (Nat.le_of_ble_eq_true rfl) (vc_X10_rivals_0 σ x y z w ⟨_, _, g71 hl x, fun q => absurd q g, fun _ => ⟨_, _, g71 hl y, fun q => absurd q g2, fun _ => ⟨fun q => absurd q g3, fun _ => ⟨_, _, c_X10_within σ z 1 20, fun q => absurd q g4, fun _ => ⟨_, _, c_X10_within σ w 0 2, fun _ => ⟨rfl, rfl⟩, fun q => absurd g5 q⟩⟩⟩⟩⟩), bl_c (Nat.le_of_ble_eq_true rfl) (vc_X11_rivals_0 σ x y z w ⟨_, _, g104 hl x, fun q => absurd q g, fun _ => ⟨_, _, g104 hl y, fun q => absurd q g2, fun _ => ⟨fun q => absurd q g3, fun _ => ⟨_, _, c_X11_in σ z 1 20 (by decide) (by decide), fun q => absurd q g4, fun _ => ⟨_, _, c_X11_in σ w 0 2 (by decide) (by decide), fun _ => ⟨rfl, rfl⟩, fun q => absurd g5 q⟩⟩⟩⟩⟩), h⟩
  by_cases g6 : nI nb = 0
  · have c6 : σ 10 3 = 0 := by rw [hl.2.2.1]; exact g6
    have m6 : σ 1 4 = 0 := by rw [hl.2.2.2.1]; exact g6
    exact ⟨-1000000003, σ, σ, bl_c (Nat.le_of_ble_eq_true rfl) (vc_X10_rivals_0 σ x y z w ⟨_, _, g71 hl x, fun q => absurd q g, fun _ => ⟨_, _, g71 hl y, fun q => absurd q g2, fun _ => ⟨fun q => absurd q g3, fun _ => ⟨_, _, c_X10_within σ z 1 20, fun q => absurd q g4, fun _ => ⟨_, _, c_X10_within σ w 0 2, fun q => absurd q g5, fun _ => ⟨fun _ => ⟨rfl, rfl⟩, fun q => absurd c6 q⟩⟩⟩⟩⟩⟩), bl_c (Nat.le_of_ble_eq_true rfl) (vc_X11_rivals_0 σ x y z w ⟨_, _, g104 hl x, fun q => absurd q g, fun _ => ⟨_, _, g104 hl y, fun q => absurd q g2, fun _ => ⟨fun q => absurd q g3, fun _ => ⟨_, _, c_X11_in σ z 1 20 (by decide) (by decide), fun q => absurd q g4, fun _ => ⟨_, _, c_X11_in σ w 0 2 (by decide) (by decide), fun q => absurd q g5, fun _ => ⟨fun _ => ⟨rfl, rfl⟩, fun q => absurd m6 q⟩⟩⟩⟩⟩⟩), h⟩
  have nb1 : 1 ≤ nb := by
    rcases Nat.eq_zero_or_pos nb with e | e
    · exact absurd (by rw [e]; rfl) g6
    · exact e
  obtain ⟨p1, hp1, rfl⟩ := wi_n (by omega) g
  obtain ⟨p2, hp2, rfl⟩ := wi_n (by omega) g2
  obtain ⟨n, n1, n20, rfl⟩ := wi_c (a := 1) (b := 20) (by omega) (by omega) g4
  have key : ∀ (A B st : Nat) (chg mv : Int32), A < nb → B < nb → st ≤ 2 → (1 ≤ 0 → (mv = 0 ∧ 1 ≤ st) ∨ (mv = 1 ∧ st = 0)) → (0 = 0 → st = 0) → ∃ fc fA fB fs : Int32, (∀ s, Fr σ s → s 5 0 = chg → s 5 1 = nI A → s 5 2 = nI B → EvN (bl_mi 21) 21 [(0, .ref 5), (1, .ref 10), (2, .int (nI p1)), (3, .int (nI p2)), (4, .int (nI n)), (5, .int (nI st)), (6, .int (nI 0))] s (fun τ => Fr σ τ ∧ τ 5 0 = fc ∧ τ 5 1 = fA ∧ τ 5 2 = fB ∧ τ 5 3 = fs)) ∧ (∀ s, TA nb σ s → Fr σ s → Ev (bl_mi 156) 85 [(0, .ref 1), (1, .int (nI p1)), (2, .int (nI p2)), (3, .int (nI n)), (4, .int w), (5, .int (nI A)), (6, .int (nI B)), (7, .int chg), (8, .int (nI st)), (9, .int mv), (10, .int (nI 0))] s (if fs = 0 then -1 else if w = 0 then fc else if w = 1 then fA else fB) (Fr σ)) := by
    refine bl_dn (N := 16) (P := fun k => ∀ (A B st : Nat) (chg mv : Int32), A < nb → B < nb → st ≤ 2 → (1 ≤ k → (mv = 0 ∧ 1 ≤ st) ∨ (mv = 1 ∧ st = 0)) → (k = 0 → st = 0) → ∃ fc fA fB fs : Int32, (∀ s, Fr σ s → s 5 0 = chg → s 5 1 = nI A → s 5 2 = nI B → EvN (bl_mi 21) 21 [(0, .ref 5), (1, .ref 10), (2, .int (nI p1)), (3, .int (nI p2)), (4, .int (nI n)), (5, .int (nI st)), (6, .int (nI k))] s (fun τ => Fr σ τ ∧ τ 5 0 = fc ∧ τ 5 1 = fA ∧ τ 5 2 = fB ∧ τ 5 3 = fs)) ∧ (∀ s, TA nb σ s → Fr σ s → Ev (bl_mi 156) 85 [(0, .ref 1), (1, .int (nI p1)), (2, .int (nI p2)), (3, .int (nI n)), (4, .int w), (5, .int (nI A)), (6, .int (nI B)), (7, .int chg), (8, .int (nI st)), (9, .int mv), (10, .int (nI k))] s (if fs = 0 then -1 else if w = 0 then fc else if w = 1 then fA else fB) (Fr σ))) ?_ ?_
    · intro A B st chg mv hA hB hst hmv _
      have fin : ∀ t : bl_S, t 5 0 = chg → t 5 1 = nI A → t 5 2 = nI B → ∀ v, (bl_up t 5 3 v) 5 0 = chg ∧ (bl_up t 5 3 v) 5 1 = nI A ∧ (bl_up t 5 3 v) 5 2 = nI B ∧ (bl_up t 5 3 v) 5 3 = v := fun t a1 a2 a3 v => ⟨by rw [bl_up_j (by omega)]; exact a1, by rw [bl_up_j (by omega)]; exact a2, by rw [bl_up_j (by omega)]; exact a3, bl_up_s _ _ _ _⟩
      refine ⟨chg, nI A, nI B, (if 0 < nI st then 1 else 0), fun s hF a1 a2 a3 => ⟨bl_up s 5 3 (if 0 < nI st then 1 else 0), ⟨hF.up (by decide), fin s a1 a2 a3 _⟩, vc_X2_playOut_21 _ _ _ _ _ _ _ rfl ⟨fun q => absurd q (by decide), fun _ v e => ⟨by rw [e]; split <;> first | exact Or.inl rfl | exact Or.inr rfl, rfl, by rw [e]⟩⟩⟩, fun s hT hF => ⟨s, hF, vc_X11_rivals_85 _ _ _ _ _ _ _ _ _ _ _ ⟨fun q => absurd q (by decide), fun _ v e => ⟨?_, rfl⟩⟩⟩⟩
      rw [e]
      rcases hmv (by omega) with ⟨q1, q2⟩ | ⟨q1, q2⟩
      · rw [if_pos q1, if_pos (show (0 : Int32) < nI st from nI_lt (a := 0) (by omega) (by omega)), if_neg (show ¬ (1 : Int32) = 0 by decide)]
      · rw [q1, q2]
        rfl
    · intro k hk ih A B st chg mv hA hB hst hmv hk0
      have k16 : nI k < (16 : Int32) := by
        rw [show (16 : Int32) = nI 16 from rfl]
        exact nI_lt hk (by omega)
      by_cases q2 : st = 2
      · have fin : ∀ t : bl_S, t 5 0 = chg → t 5 1 = nI A → t 5 2 = nI B → ∀ v, (bl_up t 5 3 v) 5 0 = chg ∧ (bl_up t 5 3 v) 5 1 = nI A ∧ (bl_up t 5 3 v) 5 2 = nI B ∧ (bl_up t 5 3 v) 5 3 = v := fun t a1 a2 a3 v => ⟨by rw [bl_up_j (by omega)]; exact a1, by rw [bl_up_j (by omega)]; exact a2, by rw [bl_up_j (by omega)]; exact a3, bl_up_s _ _ _ _⟩
        have hm0 : mv = 0 := by
          rcases hmv (by
            rcases Nat.eq_zero_or_pos k with e | e
            · have := hk0 e; omega
            · exact e) with ⟨q, _⟩ | ⟨_, q⟩
          · exact q
          · omega
        refine ⟨chg, nI A, nI B, 1, fun s hF a1 a2 a3 => ⟨bl_up s 5 3 1, ⟨hF.up (by decide), fin s a1 a2 a3 _⟩, vc_X2_playOut_21 _ _ _ _ _ _ _ rfl ⟨fun _ => ⟨fun q => absurd q (by rw [q2]; decide), fun _ v e => ?_⟩, fun q => absurd k16 q⟩⟩, fun s hT hF => ⟨s, hF, vc_X11_rivals_85 _ _ _ _ _ _ _ _ _ _ _ ⟨fun _ => ⟨fun q => absurd q (by rw [q2]; decide), fun _ v e => ⟨?_, rfl⟩⟩, fun q => absurd k16 q⟩⟩⟩
        · have e1 : v = 1 := by rw [e, q2]; rfl
          exact ⟨Or.inr e1, rfl, by rw [e1]⟩
        · rw [e, if_pos hm0, if_neg (show ¬ (1 : Int32) = 0 by decide)]
      · have st2 : nI st < (2 : Int32) := by
          rw [show (2 : Int32) = nI 2 from rfl]
          exact nI_lt (by omega) (by omega)
        -- whose turn
        obtain ⟨f, ef⟩ : ∃ f : Int32, f = if nI k - nI k / 2 * 2 = 0 then 1 else 0 := ⟨_, rfl⟩
        obtain ⟨o, eo⟩ : ∃ o : Nat, o = if f = 0 then A else B := ⟨_, rfl⟩
        obtain ⟨C, hC1, hC2⟩ := amF_lt (rvV σ p1 p2 n f o) (nb - 1)
        obtain ⟨A', eA⟩ : ∃ A' : Nat, A' = if f = 0 then A else C := ⟨_, rfl⟩
        obtain ⟨B', eB⟩ : ∃ B' : Nat, B' = if f = 0 then C else B := ⟨_, rfl⟩
        have hA' : A' < nb := by rw [eA]; split <;> omega
        have hB' : B' < nb := by rw [eB]; split <;> omega
        obtain ⟨bfr, ebf⟩ : ∃ x : Nat, x = if f = 0 then B else A := ⟨_, rfl⟩
        have ebf2 : (if f = 0 then nI B else nI A) = nI bfr := by rw [ebf]; split <;> rfl
        have hbf : bfr < nb := by rw [ebf]; split <;> assumption
        have eA2 : nI A' = if f = 0 then nI A else nI C := by rw [eA]; split <;> rfl
        have eB2 : nI B' = if f = 0 then nI C else nI B := by rw [eB]; split <;> rfl
        by_cases mvd : C = bfr
        · -- he stays
          obtain ⟨fc, fA, fB, fs, ihC, ihM⟩ := ih A' B' (st + 1) chg 0 hA' hB' (by omega) (fun _ => Or.inl ⟨rfl, by omega⟩) (fun z => by omega)
          refine ⟨fc, fA, fB, fs, fun s hF a1 a2 a3 => ?_, fun s hT hF => ?_⟩
          · obtain ⟨τ1, ⟨hF1, h51⟩, hCon⟩ := turnC hl hb hp hp1 hp2 hA hB n20 f eo hF a2 a3
            rw [hC2, ebf2, mvd, if_pos rfl] at hCon
            rw [hC2] at h51
            obtain ⟨τ, hP, hW⟩ := ihC τ1 hF1 (by rw [h51]; split <;> (rw [bl_up_j (by omega)]; exact a1)) (by
              rw [h51, eA2]
              split
              · rw [bl_up_j (by omega)]; exact a2
              · rw [bl_up_s]) (by
              rw [h51, eB2]
              split
              · rw [bl_up_s]
              · rw [bl_up_j (by omega)]; exact a3)
            refine ⟨τ, hP, vc_X2_playOut_21 _ _ _ _ _ _ _ rfl ⟨fun _ => ⟨fun _ v4 e4 => ?_, fun q => absurd st2 q⟩, fun q => absurd k16 q⟩⟩
            rw [e4, ← ef]
            refine ⟨_, _, hCon, fun v11 e11 σ12 e12 => ?_⟩
            rw [if_pos rfl] at e11 e12
            rw [e11, e12, nI_1, nI_1]
            exact hW
          · obtain ⟨τ1, ⟨hT1, hF1⟩, hCon⟩ := bestM hl hb hp hp1 hp2 hA hB n20 f eo hT hF
            rw [hC2] at hCon
            obtain ⟨τ, hP, hW⟩ := ihM τ1 hT1 hF1
            refine ⟨τ, hP, vc_X11_rivals_85 _ _ _ _ _ _ _ _ _ _ _ ⟨fun _ => ⟨fun _ v29 e29 => ?_, fun q => absurd st2 q⟩, fun q => absurd k16 q⟩⟩
            rw [e29, ← ef]
            refine ⟨_, _, hCon, fun v36 e36 v39 e39 v42 e42 v45 e45 v48 e48 v51 e51 => ?_⟩
            rw [ebf2] at e36
            rw [e36, mvd, if_pos rfl] at e39
            rw [e39, if_pos rfl] at e48 e51
            rw [← eA2] at e42
            rw [← eB2] at e45
            rw [e39, e42, e45, e48, e51, nI_1, nI_1, Int32.add_zero]
            exact hW
        · -- he goes
          have mvd2 : ¬ nI C = nI bfr := fun z => mvd ((nI_eq (by omega) (by omega)).mp z)
          obtain ⟨fc, fA, fB, fs, ihC, ihM⟩ := ih A' B' 0 (chg + 1) 1 hA' hB' (by omega) (fun _ => Or.inr ⟨rfl, rfl⟩) (fun z => by omega)
          refine ⟨fc, fA, fB, fs, fun s hF a1 a2 a3 => ?_, fun s hT hF => ?_⟩
          · obtain ⟨τ1, ⟨hF1, h51⟩, hCon⟩ := turnC hl hb hp hp1 hp2 hA hB n20 f eo hF a2 a3
            rw [hC2, ebf2, if_neg mvd2] at hCon
            rw [hC2] at h51
            have t0 : τ1 5 0 = chg := by rw [h51]; split <;> (rw [bl_up_j (by omega)]; exact a1)
            obtain ⟨τ, hP, hW⟩ := ihC (bl_up τ1 5 0 (τ1 5 0 + 1)) (hF1.up (by decide)) (by rw [bl_up_s, t0]) (by
              rw [bl_up_j (by omega), h51, eA2]
              split
              · rw [bl_up_j (by omega)]; exact a2
              · rw [bl_up_s]) (by
              rw [bl_up_j (by omega), h51, eB2]
              split
              · rw [bl_up_s]
              · rw [bl_up_j (by omega)]; exact a3)
            refine ⟨τ, hP, vc_X2_playOut_21 _ _ _ _ _ _ _ rfl ⟨fun _ => ⟨fun _ v4 e4 => ?_, fun q => absurd st2 q⟩, fun q => absurd k16 q⟩⟩
            rw [e4, ← ef]
            refine ⟨_, _, hCon, fun v11 e11 σ12 e12 => ?_⟩
            rw [if_neg (by decide)] at e11 e12
            rw [e11, e12, nI_1]
            exact hW
          · obtain ⟨τ1, ⟨hT1, hF1⟩, hCon⟩ := bestM hl hb hp hp1 hp2 hA hB n20 f eo hT hF
            rw [hC2] at hCon
            obtain ⟨τ, hP, hW⟩ := ihM τ1 hT1 hF1
            refine ⟨τ, hP, vc_X11_rivals_85 _ _ _ _ _ _ _ _ _ _ _ ⟨fun _ => ⟨fun _ v29 e29 => ?_, fun q => absurd st2 q⟩, fun q => absurd k16 q⟩⟩
            rw [e29, ← ef]
            refine ⟨_, _, hCon, fun v36 e36 v39 e39 v42 e42 v45 e45 v48 e48 v51 e51 => ?_⟩
            rw [ebf2] at e36
            rw [e36, if_neg mvd2] at e39
            rw [e39, if_neg (by decide)] at e48 e51
            rw [← eA2] at e42
            rw [← eB2] at e45
            rw [e39, e42, e45, e48, e51, nI_1]
            exact hW
  obtain ⟨fc, fA, fB, fs, kC, kM⟩ := key 0 0 0 0 0 (by omega) (by omega) (by omega) (fun z => by omega) (fun _ => rfl)
  obtain ⟨τ, ⟨hF, t0, t1, t2, t3⟩, hW⟩ := kC (bl_up (bl_up (bl_up σ 5 0 0) 5 1 0) 5 2 0) (((Fr.rf.up (by decide)).up (by decide)).up (by decide)) (by rw [bl_up_j (by omega), bl_up_j (by omega), bl_up_s]) (by rw [bl_up_j (by omega), bl_up_s]; rfl) (by rw [bl_up_s]; rfl)
  have hplay : bl_Con (bl_mi 21) [.ref 5, .ref 10, .int (nI p1), .int (nI p2), .int (nI n)] σ none τ := bl_c (Nat.le_of_ble_eq_true rfl) (vc_X2_playOut_0 σ 10 _ _ _ rfl hW)
  have c6 : ¬ σ 10 3 = 0 := by rw [hl.2.2.1]; exact g6
  have conC : bl_Con (bl_mi 84) [.ref 0, .int (nI p1), .int (nI p2), .int (nI n), .int w] σ (some (.int (if fs = 0 then -1 else if w = 0 then fc else if w = 1 then fA else fB))) τ := by
    refine bl_c (Nat.le_of_ble_eq_true rfl) (vc_X10_rivals_0 σ _ _ _ w ⟨_, _, g71 hl _, fun q => absurd q g, fun _ => ⟨_, _, g71 hl _, fun q => absurd q g2, fun _ => ⟨fun q => absurd q g3, fun _ => ⟨_, _, c_X10_within σ _ 1 20, fun q => absurd q g4, fun _ => ⟨_, _, c_X10_within σ w 0 2, fun q => absurd q g5, fun _ => ⟨fun q => absurd q c6, fun _ => ⟨_, hplay, ?_⟩⟩⟩⟩⟩⟩⟩)
    rw [t0, t1, t2, t3]
    refine ⟨fun q => ⟨by rw [if_pos q], rfl⟩, fun q => ⟨fun q2 => ⟨by rw [if_neg q, if_pos q2], rfl⟩, fun q2 v e => ⟨by rw [if_neg q, if_neg q2, e], rfl⟩⟩⟩
  have s1 : τ 1 = σ 1 := hF 1 (by decide)
  have hl2 : Jl nb np τ := hl.fr (hF 10 (by decide)) (hF 11 (by decide)) (fun k _ => by rw [s1])
  have hF2 : Fr σ (svM nb τ) := by
    intro d hd
    rw [svM_c ?_]
    · exact hF d hd
    · refine ⟨?_, ?_, ?_⟩ <;> · intro e; rw [e] at hd; exact absurd hd (by decide)
  obtain ⟨υ, hP2, hW2⟩ := kM (svM nb τ) (TA.fr hF TA.save) hF2
  have m6 : ¬ τ 1 4 = 0 := by rw [s1, hl.2.2.2.1]; exact g6
  exact ⟨_, τ, υ, conC, bl_c (Nat.le_of_ble_eq_true rfl) (vc_X11_rivals_0 τ _ _ _ w ⟨_, _, g104 hl2 _, fun q => absurd q g, fun _ => ⟨_, _, g104 hl2 _, fun q => absurd q g2, fun _ => ⟨fun q => absurd q g3, fun _ => ⟨_, _, c_X11_in τ _ 1 20 (by decide) (by decide), fun q => absurd q g4, fun _ => ⟨_, _, c_X11_in τ w 0 2 (by decide) (by decide), fun q => absurd q g5, fun _ => ⟨fun q => absurd q m6, fun _ => ⟨_, c_X11_save τ hn (by rw [s1]; exact hl.2.2.2.1), hW2⟩⟩⟩⟩⟩⟩⟩), h.fr hP2⟩
