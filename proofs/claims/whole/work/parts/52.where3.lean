/-! WHERE: allBy, the pair -/
theorem c_X11_hasN {s : bl_S} {m b : Nat} (hm : m < 64) (hb : b < 6) : bl_Con (bl_mi 102) [.int (nI m), .int (nI b)] s (some (.int (if m.testBit b then 1 else 0))) s := by
  refine bl_c (Nat.le_of_ble_eq_true rfl) (vc_X11_has_0 s _ _ (fun v e => ?_))
  have e2 : v = if m.testBit b then 1 else 0 := by
    rw [e]
    by_cases q : m.testBit b = true
    · rw [if_pos ((bit_tst hm hb).mpr q), if_pos q]
    · rw [if_neg (fun z => q ((bit_tst hm hb).mp z)), if_neg q]
  exact ⟨by rw [e2]; split <;> first | exact Or.inr rfl | exact Or.inl rfl, by rw [e2], rfl⟩
theorem allM {s : bl_S} {nb np : Nat} {G : Nat → Nat → Nat} {r : Nat → Nat} (hn : nb ≤ 6) (hn2 : np ≤ 4) (h4 : s 1 4 = nI nb) (h11 : s 1 11 = nI np) (hg : ∀ p b, p < np → b < nb → s 134 (6 * p + b) = nI (G p b)) (hle : ∀ k, r k ≤ nb) : bl_Con (bl_mi 152) [.ref 1, .int (nI (rcod nb r np))] s (some (.int (iv (if rok nb r np then (if rwo nb r np = np - nb then rsm G nb r np + 1 else 0) else 0)))) s := by
  obtain ⟨R, eR⟩ : ∃ R, R = iv (if rok nb r np then (if rwo nb r np = np - nb then rsm G nb r np + 1 else 0) else 0) := ⟨_, rfl⟩
  rw [← eR]
  have hdue : (if nI nb < nI np then nI np - nI nb else 0) = nI (np - nb) := by
    by_cases q : nb < np
    · rw [if_pos (nI_lt q (by omega)), pk_sub (by omega)]
    · rw [if_neg (nI_nlt (by omega) (by omega)), show np - nb = 0 by omega]
      rfl
  have hwo : ∀ n, rwo nb r n ≤ n := by
    intro n
    induction n with
    | zero => exact Nat.le_refl _
    | succ n ih =>
      unfold rwo
      split <;> omega
  -- no more: all the rest is idle
  have bad : rok nb r np = false → ∀ n0, n0 ≤ np → ∀ x2 x3 x4 : Int32, bl_Wx (bl_mi 152) 13 [(0, .ref 1), (1, .int (nI (rcod nb r np))), (2, .int x2), (3, .int x3), (4, .int x4), (5, .int 0), (6, .int (nI (n0 + 0)))] [] s (fun v τ => v = some (.int R) ∧ τ = s) := by
    intro hk n0 hn0
    refine bl_dn (N := np - n0) (P := fun k => ∀ x2 x3 x4 : Int32, bl_Wx (bl_mi 152) 13 [(0, .ref 1), (1, .int (nI (rcod nb r np))), (2, .int x2), (3, .int x3), (4, .int x4), (5, .int 0), (6, .int (nI (n0 + k)))] [] s (fun v τ => v = some (.int R) ∧ τ = s)) ?_ ?_
    · intro x2 x3 x4
      rw [Nat.add_sub_of_le hn0]
      refine vc_X11_allBy_13 _ _ _ _ _ _ _ ⟨fun q => absurd q ?_, fun _ v48 _ v52 e52 => ⟨?_, rfl⟩⟩
      · rw [h11]
        exact nI_nlt (Nat.le_refl _) (by omega)
      · rw [e52, if_pos rfl, eR, hk]
        rfl
    · intro k hk2 ih x2 x3 x4
      have hp : n0 + k < np := by omega
      have p4 : n0 + k < 4 := by omega
      have hfig := c_X11_figure s hn hn2 h4 h11 hp hle
      have hrn := hle (n0 + k)
      refine vc_X11_allBy_13 _ _ _ _ _ _ _ ⟨fun _ => ⟨_, _, hfig, fun _ v8 _ v11 _ => ⟨fun q => ?_, fun v15 _ => ?_⟩, fun q => absurd rfl q⟩, fun q => absurd ?_ q⟩
      · rw [h4] at q
        have : r (n0 + k) ≠ nb := fun z => q (by rw [z])
        rw [show (6 : Int32) = nI 6 from rfl, nI_mul, nI_add]
        exact vp_in_nI (by omega) (by omega)
      · rw [nI_1]
        exact ih _ _ _
      · rw [h11]
        exact nI_lt hp (by omega)
  have key : rok nb r 0 = true → bl_Wx (bl_mi 152) 13 [(0, .ref 1), (1, .int (nI (rcod nb r np))), (2, .int (nI (rmk nb r 0))), (3, .int (nI (rwo nb r 0))), (4, .int (nI (rsm G nb r 0))), (5, .int 1), (6, .int (nI 0))] [] s (fun v τ => v = some (.int R) ∧ τ = s) := by
    refine bl_dn (N := np) (P := fun n => rok nb r n = true → bl_Wx (bl_mi 152) 13 [(0, .ref 1), (1, .int (nI (rcod nb r np))), (2, .int (nI (rmk nb r n))), (3, .int (nI (rwo nb r n))), (4, .int (nI (rsm G nb r n))), (5, .int 1), (6, .int (nI n))] [] s (fun v τ => v = some (.int R) ∧ τ = s)) ?_ ?_
    · intro hk
      refine vc_X11_allBy_13 _ _ _ _ _ _ _ ⟨fun q => absurd q ?_, fun _ v48 e48 v52 e52 => ⟨?_, rfl⟩⟩
      · rw [h11]
        exact nI_nlt (Nat.le_refl _) (by omega)
      · rw [h4, h11, hdue] at e48
        rw [e52, e48, if_neg (by decide), eR, if_pos hk]
        have := hwo np
        by_cases q : rwo nb r np = np - nb
        · rw [if_pos (by rw [q]), if_pos q]
          rfl
        · rw [if_neg (fun z => q ((nI_eq (by omega) (by omega)).mp z)), if_neg q]
          rfl
    · intro n hnp ih hk
      have n4 : n < 4 := by omega
      have hlt : nI n < s 1 11 := by
        rw [h11]
        exact nI_lt hnp (by omega)
      have hrn := hle n
      have hfig := c_X11_figure s hn hn2 h4 h11 hnp hle
      by_cases q : r n < nb
      · have b6 : r n < 6 := by omega
        have hmk := rmk_lt (r := r) hn n
        have qn : ¬ nI (r n) = nI nb := fun z => by
          have := (nI_eq (a := r n) (b := nb) (by omega) (by omega)).mp z
          omega
        have e6 : 6 * nI n + nI (r n) = nI (6 * n + r n) := by rw [show (6 : Int32) = nI 6 from rfl, nI_mul, nI_add]
        have e1 : rmk nb r (n + 1) = rmk nb r n ||| 2 ^ r n := by
          show (if r n < nb then _ else _) = _
          rw [if_pos q]
        have e2 : rsm G nb r (n + 1) = rsm G nb r n + G n (r n) := by
          show (if r n < nb then _ else _) = _
          rw [if_pos q]
        have e3 : rwo nb r (n + 1) = rwo nb r n := by
          show (if r n < nb then _ else _) = _
          rw [if_pos q]
        have hhas := c_X11_hasN (s := s) hmk b6
        refine vc_X11_allBy_13 _ _ _ _ _ _ _ ⟨fun _ => ⟨_, _, hfig, fun z => absurd z (by decide), fun _ => ⟨fun z => absurd (by rw [h4] at z; exact z) qn, fun _ => ⟨_, _, hhas, fun v31 e31 v34 e34 v37 e37 => ⟨fun _ => ?_, fun v41 e41 => ?_⟩⟩⟩⟩, fun z => absurd hlt z⟩
        · rw [e6]
          exact vp_in_nI (by omega) (by omega)
        · rw [h4, if_neg qn] at e34 e37 e41
          rw [e6, nI_clamp (show 6 * n + r n < 2 ^ 31 by omega), hg n (r n) hnp q] at e41
          rw [e34, e37, e41, nI_1]
          by_cases tb : (rmk nb r n).testBit (r n) = true
          · have hbad : rok nb r np = false := by
              cases hc : rok nb r np with
              | false => rfl
              | true =>
                rw [rok_iff] at hc
                obtain ⟨z1, k, z2, z3⟩ := (rmk_bit (r n) n).mp tb
                exact absurd z3 (hc k n z2 hnp (by omega))
            rw [if_pos tb, if_neg (by decide)] at e31
            rw [e31]
            exact bad hbad (n + 1) (by omega) _ _ _
          · have hk1 : rok nb r (n + 1) = true := by
              unfold rok
              rw [hk, Bool.true_and, Bool.or_eq_true]
              exact Or.inr (by simp [tb])
            have ih := ih hk1
            rw [e1, e2, e3] at ih
            rw [if_neg tb, if_pos rfl] at e31
            rw [e31, bit_or _ hmk _ b6, nI_add, Int32.add_zero]
            exact ih
      · have hk1 : rok nb r (n + 1) = true := by
          unfold rok
          rw [hk, Bool.true_and, Bool.or_eq_true]
          exact Or.inl (decide_eq_true (by omega))
        have ih := ih hk1
        have e1 : rmk nb r (n + 1) = rmk nb r n := by
          show (if r n < nb then _ else _) = _
          rw [if_neg q]
        have e2 : rsm G nb r (n + 1) = rsm G nb r n := by
          show (if r n < nb then _ else _) = _
          rw [if_neg q]
        have e3 : rwo nb r (n + 1) = rwo nb r n + 1 := by
          show (if r n < nb then _ else _) = _
          rw [if_neg q]
        rw [e1, e2, e3] at ih
        have qe : nI (r n) = s 1 4 := by rw [h4, show r n = nb by omega]
        refine vc_X11_allBy_13 _ _ _ _ _ _ _ ⟨fun _ => ⟨_, _, hfig, fun z => absurd z (by decide), fun _ => ⟨fun _ => ?_, fun z => absurd qe z⟩⟩, fun z => absurd hlt z⟩
        rw [Int32.or_zero, Int32.add_zero, nI_1, nI_1]
        exact ih
  exact bl_c (Nat.le_of_ble_eq_true rfl) (vc_X11_allBy_0 s _ (key rfl))
theorem pr_where {σ : bl_S} (h : Inv σ) (x y : Int32) : Pr 83 153 [.int x, .int y] σ := by
  obtain ⟨nb, np, nt, a, b, c, hl, hb, hp, hz, ht, hs', hm'⟩ := id h
  have hn := hl.1
  have hn2 := hl.2.1
  by_cases y1 : y = -1
  · by_cases g : wi x 1 20 = 0
    · exact ⟨-1000000002, σ, σ, bl_c (Nat.le_of_ble_eq_true rfl) (vc_X10_where_0 σ x y ⟨fun _ => ⟨_, _, c_X10_within σ x 1 20, fun _ => ⟨rfl, rfl⟩, fun q => absurd g q⟩, fun q => absurd y1 q⟩), bl_c (Nat.le_of_ble_eq_true rfl) (vc_X11_where_0 σ x y ⟨fun _ => ⟨_, _, c_X11_in σ x 1 20 (by decide) (by decide), fun _ => ⟨rfl, rfl⟩, fun q => absurd g q⟩, fun q => absurd y1 q⟩), h⟩
    obtain ⟨hd, h1, h20, rfl⟩ := wi_c (a := 1) (b := 20) (by omega) (by omega) g
    obtain ⟨G, hG⟩ := GG_ex hb hp (h := hd) (by omega)
    obtain ⟨uC, hC⟩ : ∃ u : Nat → Nat, ∀ i, u i = if rok nb (rows nb np i) np then rsm G nb (rows nb np i) np + 1 else 0 := ⟨_, fun _ => rfl⟩
    obtain ⟨uR, hR⟩ : ∃ u : Nat → Nat, ∀ i, u i = if rok nb (rows nb np i) np then (if rwo nb (rows nb np i) np = np - nb then rsm G nb (rows nb np i) np + 1 else 0) else 0 := ⟨_, fun _ => rfl⟩
    obtain ⟨hsame, hpos⟩ := rows_same hC hR
    obtain ⟨τ, ⟨hF, t5, t0, t80⟩, hFind⟩ := findC hl hb hp hG h20 hC
    have hN := pow_le7 hn hn2
    have hu : ∀ i, uR i ≤ 1601 := by
      intro i
      rw [hR]
      have := rsm_bd (G := G) (nb := nb) (B := 400) (r := rows nb np i) np (fun p b q1 q2 => by have := (hG p b q1 q2).2; omega)
      (repeat' split) <;> omega
    obtain ⟨τ1, ⟨⟨hT1, hF1⟩, h134⟩, hCans⟩ := cansM hl hG (by omega) hF
    have k4 : τ1 1 4 = nI nb := by rw [hF1 1 (by decide)]; exact hl.2.2.2.1
    have k11 : τ1 1 11 = nI np := by rw [hF1 1 (by decide)]; exact hl.2.2.2.2.2.1
    have main : bl_Wx (bl_mi 153) 74 [(0, .ref 1), (1, .int (nI hd)), (2, .int y), (3, .int (nI ((nb + 1) ^ np))), (4, .int (nI (fN uR 0).1)), (5, .int (iv (fN uR 0).2)), (6, .int (nI 0))] [] τ1 (fun v t => v = some (.int (iv (fN uR ((nb + 1) ^ np)).2)) ∧ t = τ1) := by
      refine bl_dn (N := (nb + 1) ^ np) (P := fun i => bl_Wx (bl_mi 153) 74 [(0, .ref 1), (1, .int (nI hd)), (2, .int y), (3, .int (nI ((nb + 1) ^ np))), (4, .int (nI (fN uR i).1)), (5, .int (iv (fN uR i).2)), (6, .int (nI i))] [] τ1 (fun v t => v = some (.int (iv (fN uR ((nb + 1) ^ np)).2)) ∧ t = τ1)) ?_ ?_
      · exact vc_X11_where_74 _ _ _ _ _ _ _ ⟨fun q => absurd q (nI_nlt (Nat.le_refl _) (by omega)), fun _ => ⟨fun _ => ⟨rfl, rfl⟩, fun q => absurd y1 q⟩⟩
      · intro i hi ih
        have hall := allM (s := τ1) (G := G) (r := rows nb np i) hn hn2 k4 k11 h134 (rows_le i)
        rw [rows_cod i hi, ← hR] at hall
        have hcmp : iv (fN uR i).2 < iv (uR i) ↔ (fN uR i).2 < uR i := iv_lt (by have := fN_bd hu i; omega) (by have := hu i; omega)
        refine vc_X11_where_74 _ _ _ _ _ _ _ ⟨fun _ => ⟨_, _, hall, fun v30 e30 v33 e33 => ?_⟩, fun q => absurd (nI_lt hi (by omega)) q⟩
        rw [nI_1]
        by_cases q : (fN uR i).2 < uR i
        · have eN : fN uR (i + 1) = (i, uR i) := if_pos q
          rw [eN] at ih
          rw [if_pos (hcmp.mpr q)] at e30 e33
          rw [e30, e33]
          exact ih
        · have eN : fN uR (i + 1) = fN uR i := if_neg q
          rw [eN] at ih
          rw [if_neg (fun z => q (hcmp.mp z))] at e30 e33
          rw [e30, e33]
          exact ih
    have codes : bl_Wx (bl_mi 153) 41 [(0, .ref 1), (1, .int (nI hd)), (2, .int y), (3, .int (nI ((nb + 1) ^ 0))), (4, .int (nI 0))] [] τ1 (fun v t => v = some (.int (iv (fN uR ((nb + 1) ^ np)).2)) ∧ t = τ1) := by
      refine bl_dn (N := np) (P := fun m => bl_Wx (bl_mi 153) 41 [(0, .ref 1), (1, .int (nI hd)), (2, .int y), (3, .int (nI ((nb + 1) ^ m))), (4, .int (nI m))] [] τ1 (fun v t => v = some (.int (iv (fN uR ((nb + 1) ^ np)).2)) ∧ t = τ1)) ?_ ?_
      · refine vc_X11_where_41 _ _ _ _ _ ⟨fun q => absurd q ?_, fun _ => main⟩
        rw [k11]
        exact nI_nlt (Nat.le_refl _) (by omega)
      · intro m hm ih
        refine vc_X11_where_41 _ _ _ _ _ ⟨fun _ => ?_, fun q => absurd ?_ q⟩
        · rw [k4, nI_1, nI_1, nI_mul]
          exact ih
        · rw [k11]
          exact nI_lt hm (by omega)
    refine ⟨iv (fN uC ((nb + 1) ^ np)).2, τ, τ1, bl_c (Nat.le_of_ble_eq_true rfl) (vc_X10_where_0 σ _ y ⟨fun _ => ⟨_, _, c_X10_within σ _ 1 20, fun q => absurd q g, fun _ => ⟨_, hFind, by rw [t0], rfl⟩⟩, fun q => absurd y1 q⟩), bl_c (Nat.le_of_ble_eq_true rfl) (vc_X11_where_0 τ _ y ⟨fun _ => ⟨_, _, c_X11_in τ _ 1 20 (by decide) (by decide), fun q => absurd q g, fun _ => ⟨_, hCans, ?_⟩⟩, fun q => absurd y1 q⟩), h.fr hF1⟩
    rw [hsame]
    exact codes
  · by_cases g0 : wi y 0 (nI np - 1) = 0
    · exact ⟨-1000000001, σ, σ, bl_c (Nat.le_of_ble_eq_true rfl) (vc_X10_where_0 σ x y ⟨fun q => absurd q y1, fun _ => ⟨_, _, g71 hl y, fun _ => ⟨rfl, rfl⟩, fun q => absurd g0 q⟩⟩), bl_c (Nat.le_of_ble_eq_true rfl) (vc_X11_where_0 σ x y ⟨fun q => absurd q y1, fun _ => ⟨_, _, g104 hl y, fun _ => ⟨rfl, rfl⟩, fun q => absurd g0 q⟩⟩), h⟩
    by_cases g : wi x 1 20 = 0
    · exact ⟨-1000000002, σ, σ, bl_c (Nat.le_of_ble_eq_true rfl) (vc_X10_where_0 σ x y ⟨fun q => absurd q y1, fun _ => ⟨_, _, g71 hl y, fun q => absurd q g0, fun _ => ⟨_, _, c_X10_within σ x 1 20, fun _ => ⟨rfl, rfl⟩, fun q => absurd g q⟩⟩⟩), bl_c (Nat.le_of_ble_eq_true rfl) (vc_X11_where_0 σ x y ⟨fun q => absurd q y1, fun _ => ⟨_, _, g104 hl y, fun q => absurd q g0, fun _ => ⟨_, _, c_X11_in σ x 1 20 (by decide) (by decide), fun _ => ⟨rfl, rfl⟩, fun q => absurd g q⟩⟩⟩), h⟩
    obtain ⟨hd, h1, h20, rfl⟩ := wi_c (a := 1) (b := 20) (by omega) (by omega) g
    obtain ⟨p, hpn, rfl⟩ := wi_n (by omega) g0
    have p4 : p < 4 := by omega
    obtain ⟨G, hG⟩ := GG_ex hb hp (h := hd) (by omega)
    obtain ⟨uC, hC⟩ : ∃ u : Nat → Nat, ∀ i, u i = if rok nb (rows nb np i) np then rsm G nb (rows nb np i) np + 1 else 0 := ⟨_, fun _ => rfl⟩
    obtain ⟨uR, hR⟩ : ∃ u : Nat → Nat, ∀ i, u i = if rok nb (rows nb np i) np then (if rwo nb (rows nb np i) np = np - nb then rsm G nb (rows nb np i) np + 1 else 0) else 0 := ⟨_, fun _ => rfl⟩
    obtain ⟨hsame, hpos⟩ := rows_same hC hR
    obtain ⟨τ, ⟨hF, t5, t0, t80⟩, hFind⟩ := findC hl hb hp hG h20 hC
    have hN := pow_le7 hn hn2
    have hu : ∀ i, uR i ≤ 1601 := by
      intro i
      rw [hR]
      have := rsm_bd (G := G) (nb := nb) (B := 400) (r := rows nb np i) np (fun p b q1 q2 => by have := (hG p b q1 q2).2; omega)
      (repeat' split) <;> omega
    obtain ⟨τ1, ⟨⟨hT1, hF1⟩, h134⟩, hCans⟩ := cansM hl hG (by omega) hF
    have k4 : τ1 1 4 = nI nb := by rw [hF1 1 (by decide)]; exact hl.2.2.2.1
    have k11 : τ1 1 11 = nI np := by rw [hF1 1 (by decide)]; exact hl.2.2.2.2.2.1
    obtain ⟨i0, ei⟩ : ∃ i0, i0 = (fN uC ((nb + 1) ^ np)).1 := ⟨_, rfl⟩
    have hi0 : i0 < (nb + 1) ^ np := by rw [ei]; exact (fN_at _ hpos).1
    have ei2 : (fN uR ((nb + 1) ^ np)).1 = i0 := by rw [ei, hsame]
    obtain ⟨R, eR⟩ : ∃ R : Int32, R = if rows nb np i0 p < nb then nI (rows nb np i0 p) else -1 := ⟨_, rfl⟩
    have hrp := rows_le (nb := nb) (np := np) i0 p
    have t80 := t80 hpos p hpn
    rw [← ei] at t80
    have hbushOf : bl_Con (bl_mi 41) [.ref 4, .int (nI p)] τ (some (.int R)) τ := by
      refine bl_c (Nat.le_of_ble_eq_true rfl) (vc_X6_bushOf_0 τ _ ⟨vip p4, fun v e => ⟨?_, rfl⟩⟩)
      rw [e, ntp p4, t80, t5, eR]
      by_cases q : rows nb np i0 p < nb
      · rw [if_pos (nI_lt q (by omega)), if_pos q]
      · rw [if_neg (nI_nlt (by omega) (by omega)), if_neg q]
    have main : bl_Wx (bl_mi 153) 74 [(0, .ref 1), (1, .int (nI hd)), (2, .int (nI p)), (3, .int (nI ((nb + 1) ^ np))), (4, .int (nI (fN uR 0).1)), (5, .int (iv (fN uR 0).2)), (6, .int (nI 0))] [] τ1 (fun v t => v = some (.int R) ∧ t = τ1) := by
      refine bl_dn (N := (nb + 1) ^ np) (P := fun i => bl_Wx (bl_mi 153) 74 [(0, .ref 1), (1, .int (nI hd)), (2, .int (nI p)), (3, .int (nI ((nb + 1) ^ np))), (4, .int (nI (fN uR i).1)), (5, .int (iv (fN uR i).2)), (6, .int (nI i))] [] τ1 (fun v t => v = some (.int R) ∧ t = τ1)) ?_ ?_
      · rw [ei2]
        have hfig := c_X11_figure τ1 (r := rows nb np i0) hn hn2 k4 k11 hpn (rows_le i0)
        rw [rows_cod i0 hi0] at hfig
        refine vc_X11_where_74 _ _ _ _ _ _ _ ⟨fun q => absurd q (nI_nlt (Nat.le_refl _) (by omega)), fun _ => ⟨fun q => absurd q y1, fun _ => ⟨_, _, hfig, ?_⟩⟩⟩
        rw [k4]
        by_cases q : rows nb np i0 p < nb
        · refine ⟨fun z => ?_, fun _ => ⟨_, _, hfig, by rw [eR, if_pos q], rfl⟩⟩
          have := (nI_eq (a := rows nb np i0 p) (b := nb) (by omega) (by omega)).mp z
          omega
        · exact ⟨fun _ => ⟨by rw [eR, if_neg q], rfl⟩, fun z => absurd (by rw [show rows nb np i0 p = nb by omega]) z⟩
      · intro i hi ih
        have hall := allM (s := τ1) (G := G) (r := rows nb np i) hn hn2 k4 k11 h134 (rows_le i)
        rw [rows_cod i hi, ← hR] at hall
        have hcmp : iv (fN uR i).2 < iv (uR i) ↔ (fN uR i).2 < uR i := iv_lt (by have := fN_bd hu i; omega) (by have := hu i; omega)
        refine vc_X11_where_74 _ _ _ _ _ _ _ ⟨fun _ => ⟨_, _, hall, fun v30 e30 v33 e33 => ?_⟩, fun q => absurd (nI_lt hi (by omega)) q⟩
        rw [nI_1]
        by_cases q : (fN uR i).2 < uR i
        · have eN : fN uR (i + 1) = (i, uR i) := if_pos q
          rw [eN] at ih
          rw [if_pos (hcmp.mpr q)] at e30 e33
          rw [e30, e33]
          exact ih
        · have eN : fN uR (i + 1) = fN uR i := if_neg q
          rw [eN] at ih
          rw [if_neg (fun z => q (hcmp.mp z))] at e30 e33
          rw [e30, e33]
          exact ih
    have codes : bl_Wx (bl_mi 153) 41 [(0, .ref 1), (1, .int (nI hd)), (2, .int (nI p)), (3, .int (nI ((nb + 1) ^ 0))), (4, .int (nI 0))] [] τ1 (fun v t => v = some (.int R) ∧ t = τ1) := by
      refine bl_dn (N := np) (P := fun m => bl_Wx (bl_mi 153) 41 [(0, .ref 1), (1, .int (nI hd)), (2, .int (nI p)), (3, .int (nI ((nb + 1) ^ m))), (4, .int (nI m))] [] τ1 (fun v t => v = some (.int R) ∧ t = τ1)) ?_ ?_
      · refine vc_X11_where_41 _ _ _ _ _ ⟨fun q => absurd q ?_, fun _ => main⟩
        rw [k11]
        exact nI_nlt (Nat.le_refl _) (by omega)
      · intro m hm ih
        refine vc_X11_where_41 _ _ _ _ _ ⟨fun _ => ?_, fun q => absurd ?_ q⟩
        · rw [k4, nI_1, nI_1, nI_mul]
          exact ih
        · rw [k11]
          exact nI_lt hm (by omega)
    have s1 : τ 1 = σ 1 := hF 1 (by decide)
    have hl2 : Jl nb np τ := hl.fr (hF 10 (by decide)) (hF 11 (by decide)) (fun k _ => by rw [s1])
    exact ⟨R, τ, τ1, bl_c (Nat.le_of_ble_eq_true rfl) (vc_X10_where_0 σ _ _ ⟨fun q => absurd q y1, fun _ => ⟨_, _, g71 hl _, fun q => absurd q g0, fun _ => ⟨_, _, c_X10_within σ _ 1 20, fun q => absurd q g, fun _ => ⟨_, hFind, _, _, hbushOf, rfl, rfl⟩⟩⟩⟩), bl_c (Nat.le_of_ble_eq_true rfl) (vc_X11_where_0 τ _ _ ⟨fun q => absurd q y1, fun _ => ⟨_, _, g104 hl2 _, fun q => absurd q g0, fun _ => ⟨_, _, c_X11_in τ _ 1 20 (by decide) (by decide), fun q => absurd q g, fun _ => ⟨_, hCans, codes⟩⟩⟩⟩), h.fr hF1⟩
