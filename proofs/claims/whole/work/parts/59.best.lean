/-! BEST: the pair -/
theorem wy_N {x y : Nat} (hx : x ≤ 99) (hy : y ≤ 99) (c d : Int32) : ∃ w : Nat, w ≤ 11 ∧ wy (nI x) c (nI y) d = nI w := by
  have e3 : ∃ k : Nat, k ≤ 3 ∧ (if c = d then (0 : Int32) else 3) = nI k := by
    by_cases e : c = d
    · exact ⟨0, by omega, by rw [if_pos e]; rfl⟩
    · exact ⟨3, by omega, by rw [if_neg e]; rfl⟩
  obtain ⟨k, k3, ek⟩ := e3
  have ey : ∃ z : Nat, z ≤ 99 ∧ (if 0 ≤ nI x - nI y then nI x - nI y else 0 - (nI x - nI y)) = nI z := by
    rcases Nat.lt_or_ge x y with q | q
    · refine ⟨y - x, by omega, ?_⟩
      have e2 : (0 : Int32) - (nI x - nI y) = nI y - nI x := by grind
      rw [e2, pk_sub (show x ≤ y by omega), if_neg]
      intro z
      have := pk_sneg (a := x) (b := y) (by omega) q
      rw [Int32.lt_iff_toInt_lt] at this
      rw [Int32.le_iff_toInt_le] at z
      omega
    · refine ⟨x - y, by omega, ?_⟩
      rw [pk_sub q, if_pos (nI_pos' (by omega))]
  obtain ⟨z, z99, ez⟩ := ey
  refine ⟨(z + k + 9) / 10, by omega, ?_⟩
  unfold wy
  rw [ek, ez, show (9 : Int32) = nI 9 from rfl, show (10 : Int32) = nI 10 from rfl, nI_add, nI_add, pk_div (by omega) (by omega) (by omega)]
def wdW (σ : bl_S) (py ps : Int32) (a b : Nat) : Nat := Nat.min 11 (Int32.toNatClampNeg (if a = 6 then wy py ps (σ 102 b) (σ 103 b) else wy (σ 102 a) (σ 103 a) (σ 102 b) (σ 103 b)))
def wdT (σ : bl_S) (b : Nat) : Nat := Int32.toNatClampNeg (hm (σ 104 b))
def wdG (σ : bl_S) (q' h' e : Nat) (b h : Nat) : Nat := gsN q' h' (Int32.toNatClampNeg (σ 104 b)) e (Int32.toNatClampNeg (σ 106 b)) h
theorem WD_mk {σ : bl_S} {nb : Nat} (hn : nb ≤ 6) (hb : Jb nb σ) {y s q' e h' : Nat} (c1 : y ≤ 99) (c2 : q' ≤ 20) (c3 : e ≤ 9) (c4 : h' ≤ 1) : WD nb σ (nI y) (nI s) (nI q') (nI h') (nI e) (wdW σ (nI y) (nI s)) (wdT σ) (wdG σ q' h' e) := by
  refine ⟨fun a b => Nat.min_le_left _ _, fun a b ha hbn => ?_, fun b hbn => ?_, fun b hbn => ?_, fun b h hbn => ?_⟩
  · obtain ⟨-, y1, s1, kd, rd, rp, sf, a1, a2, a3, a4, b1, b2, b3, -, b5, -⟩ := hb a ha
    obtain ⟨-, y2, s2, kd2, rd2, rp2, sf2, d1, d2, d3, d4, f1, f2, f3, -, f5, -⟩ := hb b hbn
    obtain ⟨w, w1, w2⟩ := wy_N a1 d1 (σ 103 a) (σ 103 b)
    unfold wdW
    rw [if_neg (by omega), b1, f1, w2, nI_clamp (by omega), show Nat.min 11 w = w from Nat.min_eq_right w1]
  · obtain ⟨-, y2, s2, kd2, rd2, rp2, sf2, d1, d2, d3, d4, f1, f2, f3, -, f5, -⟩ := hb b hbn
    obtain ⟨w, w1, w2⟩ := wy_N c1 d1 (nI s) (σ 103 b)
    unfold wdW
    rw [if_pos rfl, f1, w2, nI_clamp (by omega), show Nat.min 11 w = w from Nat.min_eq_right w1]
  · unfold wdT hm
    split
    · exact ⟨rfl, by decide, by decide⟩
    · exact ⟨rfl, by decide, by decide⟩
  · obtain ⟨-, y2, s2, kd2, rd2, rp2, sf2, d1, d2, d3, d4, f1, f2, f3, -, f5, -⟩ := hb b hbn
    unfold wdG
    rw [f3, f5, nI_clamp (by omega), nI_clamp (by omega), gsN_eq (by omega) (by omega) (by omega) (by omega) (by omega)]
    have m1 := gsN_le q' h' kd2 e rp2 h
    have m3 : q' * h ≤ 20 * h := Nat.mul_le_mul_right _ c2
    refine ⟨rfl, by omega, ?_⟩
    show _ ≤ gsN q' h' kd2 e rp2 h + gnN q' h' kd2 e (hsN q' h' kd2 rp2 h)
    omega
/-- only scratch differs, and the best way's tables, whose empty rows are empty -/
def CW (σ τ : bl_S) : Prop := (∀ d, bl_scr d = false → d ≠ 71 → d ≠ 72 → τ d = σ d) ∧ (∀ a, a ≤ 6 → τ 71 (a * 64) = 0) ∧ ∀ t, t ≤ 24 → τ 72 t = 0
theorem CF.cw {σ τ : bl_S} (h : CF σ τ) : CW σ τ := by
  refine ⟨fun d hd z1 z2 => h.1 d (fun e => by rw [e] at hd; exact absurd hd (by decide)) (fun e => ?_), h.2.1, h.2.2⟩
  have : ∀ d, d < 78 → 69 ≤ d → d ≠ 71 → d ≠ 72 → bl_scr d = true := by decide
  rw [this d (by omega) e.1 z1 z2] at hd
  cases hd
theorem Inv.cw {σ τ : bl_S} (h : Inv σ) (f : CW σ τ) : Inv τ := by
  obtain ⟨υ, eυ⟩ : ∃ υ : bl_S, υ = fun d => if d = 71 ∨ d = 72 then σ d else τ d := ⟨_, rfl⟩
  have u1 : ∀ d, d ≠ 71 → d ≠ 72 → τ d = υ d := fun d z1 z2 => by
    rw [eυ]
    show τ d = if d = 71 ∨ d = 72 then σ d else τ d
    rw [if_neg (by omega)]
  have hF : Fr σ υ := fun d hd => by
    by_cases e : d = 71 ∨ d = 72
    · rw [eυ]
      show (if d = 71 ∨ d = 72 then σ d else τ d) = σ d
      rw [if_pos e]
    · rw [← u1 d (by omega) (by omega)]
      exact f.1 d hd (by omega) (by omega)
  obtain ⟨nb, np, nt, a, b, c, hl, hb, hp, hz, ht, hs, hm⟩ := h.fr hF
  refine ⟨nb, np, nt, a, b, c, hl.fr (u1 10 (by omega) (by omega)) (u1 11 (by omega) (by omega)) (fun k _ => by rw [u1 1 (by omega) (by omega)]), hb.fr hl.1 (fun d z => u1 d (by omega) (by omega)), hp.fr hl.2.1 (fun d z => u1 d (by omega) (by omega)), fun p hp4 => ?_, ht.fr (u1 0 (by omega) (by omega)) (by rw [u1 2 (by omega) (by omega)]) (u1 67 (by omega) (by omega)) (u1 116 (by omega) (by omega)) (fun k _ => by rw [u1 1 (by omega) (by omega)]), hs.fr (fun d z => u1 d (by omega) (by omega)) (fun k _ => by rw [u1 1 (by omega) (by omega)]), hm.fr hl.1 hl.2.1 (fun d z => u1 d (by omega) (by omega)) (fun b k z _ => by have := hl.1; rw [u1 (14 + b) (by omega) (by omega)]) (fun p k z _ => by have := hl.2.1; rw [u1 (20 + p) (by omega) (by omega)])⟩
  obtain ⟨z1, z2, z3, z4, z5, z6, z7, z8, -⟩ := hz p hp4
  rw [u1 (20 + p) (by omega) (by omega), u1 (34 + p) (by omega) (by omega), u1 (48 + p) (by omega) (by omega), u1 (62 + p) (by omega) (by omega)]
  exact ⟨z1, z2, z3, z4, z5, z6, z7, z8, f.2.1, f.2.2⟩
/-! the reference goes along the same stops -/
theorem blM {s : bl_S} {nb p t K i : Nat} {W : Nat → Nat → Nat} {tm : Nat → Nat} {g : Nat → Nat → Nat} (hR : RH nb p s W tm g) (ht : t ≤ 24) (hG : RG nb t g s) (hT : RT nb t 0 W tm g s) (hK : K ≤ nb) (hK0 : wmq nb W tm g t K = 0) (hKp : ∀ j, j < K → 0 < wmq nb W tm g t j) (hi : i < 2 ^ 31) (x4 R : Int32) (hR1 : i < K → R = if x4 = 0 then nI (sqn nb W tm g t (i + 1)).2.1 else nI (sqn nb W tm g t (i + 1)).2.2.2) (hR2 : K ≤ i → R = -1) : bl_Wx (bl_mi 149) 90 [(0, .ref 1), (1, .int (nI p)), (2, .int (nI t)), (3, .int (nI i)), (4, .int x4), (5, .int (nI (wmq nb W tm g t 0))), (6, .int (nI (sqn nb W tm g t 0).1)), (7, .int (nI (sqn nb W tm g t 0).2.1)), (8, .int (nI (sqn nb W tm g t 0).2.2.1)), (9, .int (nI (sqn nb W tm g t 0).2.2.2)), (10, .int (nI 0))] [] s (fun v τ => v = some (.int R) ∧ τ = s) := by
  have hn := hR.1
  have p64 := p2_le hn
  have hD := hR.2.2.2.1
  have hg := hD.G
  have K7 : K ≤ 6 := by omega
  refine bl_dn (N := if i < K then i + 1 else K) (P := fun k => bl_Wx (bl_mi 149) 90 [(0, .ref 1), (1, .int (nI p)), (2, .int (nI t)), (3, .int (nI i)), (4, .int x4), (5, .int (nI (wmq nb W tm g t k))), (6, .int (nI (sqn nb W tm g t k).1)), (7, .int (nI (sqn nb W tm g t k).2.1)), (8, .int (nI (sqn nb W tm g t k).2.2.1)), (9, .int (nI (sqn nb W tm g t k).2.2.2)), (10, .int (nI k))] [] s (fun v τ => v = some (.int R) ∧ τ = s)) ?_ ?_
  · by_cases q : i < K
    · rw [if_pos q]
      refine vc_X11_best_90 _ _ _ _ _ _ _ _ _ _ _ ⟨fun _ v e => ⟨?_, rfl⟩, fun z => absurd (nI_lt (by omega) (by omega)) z⟩
      rw [e, hR1 q]
    · rw [if_neg q, hK0]
      refine vc_X11_best_90 _ _ _ _ _ _ _ _ _ _ _ ⟨fun z => absurd z (nI_nlt (by omega) (by omega)), fun _ => ⟨fun _ => ⟨?_, rfl⟩, fun z => absurd rfl z⟩⟩
      rw [hR2 (by omega)]
  · intro k hk ih
    have hkK : k < K := by
      by_cases q : i < K
      · rw [if_pos q] at hk
        omega
      · rw [if_neg q] at hk
        omega
    have hki : k ≤ i := by
      by_cases q : i < K
      · rw [if_pos q] at hk
        omega
      · omega
    have hp := hKp k hkK
    obtain ⟨q1, q2, q3, q4⟩ := sqn_ok hg k (fun j hj => hKp j (by omega))
    have hN := nxt_N hg hp
    have esq : sqn nb W tm g t (k + 1) = ((sqn nb W tm g t k).1 ||| 2 ^ (nxt nb W tm g (sqn nb W tm g t k)).1, (nxt nb W tm g (sqn nb W tm g t k)).1, (sqn nb W tm g t k).2.2.1 - (W (sqn nb W tm g t k).2.1 (nxt nb W tm g (sqn nb W tm g t k)).1 + (nxt nb W tm g (sqn nb W tm g t k)).2 * tm (nxt nb W tm g (sqn nb W tm g t k)).1), (nxt nb W tm g (sqn nb W tm g t k)).2) := rfl
    have ewm : wmq nb W tm g t (k + 1) = wm nb W tm g ((sqn nb W tm g t k).1 ||| 2 ^ (nxt nb W tm g (sqn nb W tm g t k)).1) (nxt nb W tm g (sqn nb W tm g t k)).1 ((sqn nb W tm g t k).2.2.1 - (W (sqn nb W tm g t k).2.1 (nxt nb W tm g (sqn nb W tm g t k)).1 + (nxt nb W tm g (sqn nb W tm g t k)).2 * tm (nxt nb W tm g (sqn nb W tm g t k)).1)) := rfl
    have ewk : wmq nb W tm g t k = wm nb W tm g (sqn nb W tm g t k).1 (sqn nb W tm g t k).2.1 (sqn nb W tm g t k).2.2.1 := rfl
    rw [ewm, esq] at ih
    rw [ewk] at hp ⊢
    generalize (sqn nb W tm g t k).1 = m at *
    generalize (sqn nb W tm g t k).2.1 = a at *
    generalize (sqn nb W tm g t k).2.2.1 = l at *
    generalize (sqn nb W tm g t k).2.2.2 = h9 at *
    generalize (nxt nb W tm g (sqn nb W tm g t k)).1 = b0 at *
    generalize (nxt nb W tm g (sqn nb W tm g t k)).2 = h0 at *
    obtain ⟨ok, he, hmin⟩ := hN
    have hb0 := ok.1
    have b6 : b0 < 6 := by omega
    have hfit := ok.2.2.2
    have y2 : h0 * 1 ≤ h0 * tm b0 := Nat.mul_le_mul_left _ (hg.1 b0 hb0)
    have h01 := ok.2.2.1
    have bdM := wm_bd W hg m a l
    have l1 : 1 ≤ l := by omega
    have ih : bl_Wx (bl_mi 149) 90 [(0, .ref 1), (1, .int (nI p)), (2, .int (nI t)), (3, .int (nI i)), (4, .int x4), (5, .int (nI (wm nb W tm g (m ||| 2 ^ b0) b0 (l - (W a b0 + h0 * tm b0))))), (6, .int (nI (m ||| 2 ^ b0))), (7, .int (nI b0)), (8, .int (nI (l - (W a b0 + h0 * tm b0)))), (9, .int (nI h0)), (10, .int (nI (k + 1)))] [] s (fun v τ => v = some (.int R) ∧ τ = s) := ih
    have srch : ∀ d b h, 1 ≤ h → h ≤ l → b * l + h + d = b0 * l + h0 → bl_Wx (bl_mi 149) 109 [(0, .ref 1), (1, .int (nI p)), (2, .int (nI t)), (3, .int (nI i)), (4, .int x4), (5, .int (nI (wm nb W tm g m a l))), (6, .int (nI m)), (7, .int (nI a)), (8, .int (nI l)), (9, .int (nI h9)), (10, .int (nI k)), (11, .int (nI b)), (12, .int (nI h))] [] s (fun v τ => v = some (.int R) ∧ τ = s) := by
      intro d
      induction d with
      | zero =>
        intro b h z1 z2 z3
        have eb : b = b0 := by
          rcases Nat.lt_trichotomy b b0 with w | w | w
          · have : (b + 1) * l ≤ b0 * l := Nat.mul_le_mul_right _ w
            rw [Nat.succ_mul] at this
            omega
          · exact w
          · have : (b0 + 1) * l ≤ b * l := Nat.mul_le_mul_right _ w
            rw [Nat.succ_mul] at this
            omega
        subst eb
        have eh : h = h0 := by omega
        subst eh
        obtain ⟨y, hy, yy1, yy2⟩ := byM (s := s) (p := p) (h := h) hR ht hG hT (fun b' _ _ => Nat.zero_le _) q1 q2 q3 hb0 z1 (by omega)
        rw [yy1 ok, he] at hy
        have hw := wbM hR q2 hb0
        have htk := c_X11_handfulTakes s b6
        rw [(hD.2.2.2.1 b hb0).1] at htk
        have hst := stM s (m ||| 2 ^ b) b (l - (W a b + h * tm b))
        have lt2 := or_lt2 q1 hb0
        have htab := hT (m ||| 2 ^ b) b (l - (W a b + h * tm b)) (Nat.zero_le _) lt2 (Or.inl hb0) (by omega)
        refine vc_X11_best_109 _ _ _ _ _ _ _ _ _ _ _ _ _ ⟨fun z => absurd z (nI_nlt z2 (by omega)), fun _ => ⟨_, _, hy, fun _ => ⟨_, _, hw, _, _, htk, ?_⟩, fun z => absurd rfl z⟩⟩
        rw [nI_mul, nI_add, pk_sub hfit, bit_or m (by omega) b b6, nI_1]
        refine ⟨_, _, hst, vp_in_nI (by omega) (by omega), ?_⟩
        rw [nI_clamp (show ((m ||| 2 ^ b) * 7 + b) * 25 + (l - (W a b + h * tm b)) < 2 ^ 31 by omega), htab]
        exact ih
      | succ d ihd =>
        intro b h z1 z2 z3
        have hlt : b < b0 ∨ (b = b0 ∧ h < h0) := by
          rcases Nat.lt_trichotomy b b0 with w | w | w
          · exact Or.inl w
          · subst w
            exact Or.inr ⟨rfl, by omega⟩
          · have : (b0 + 1) * l ≤ b * l := Nat.mul_le_mul_right _ w
            rw [Nat.succ_mul] at this
            omega
        have hbn : b < nb := by omega
        obtain ⟨y, hy, yy1, yy2⟩ := byM (s := s) (p := p) (h := h) hR ht hG hT (fun b' _ _ => Nat.zero_le _) q1 q2 q3 hbn z1 (by omega)
        have hne : ¬ y = nI (wm nb W tm g m a l) := by
          intro e
          by_cases okh : okS nb W tm m a l b h
          · rw [yy1 okh] at e
            have w1 := wm_ge hg okh
            have := hmin b h okh ((nI_eq (by omega) (by omega)).mp e)
            omega
          · rw [yy2 okh] at e
            have := nI_pos (n := wm nb W tm g m a l) (by omega)
            rw [← e] at this
            exact absurd (by decide) this
        refine vc_X11_best_109 _ _ _ _ _ _ _ _ _ _ _ _ _ ⟨fun z => absurd z (nI_nlt z2 (by omega)), fun _ => ⟨_, _, hy, fun z => absurd z hne, fun _ v61 e61 v64 e64 => ?_⟩⟩
        by_cases c : h < l
        · rw [if_pos (nI_lt c (by omega))] at e61 e64
          rw [e61, e64, nI_1]
          exact ihd b (h + 1) (by omega) (by omega) (by omega)
        · rw [if_neg (nI_nlt (by omega) (by omega))] at e61 e64
          rw [e61, e64, nI_1]
          exact ihd (b + 1) 1 (by omega) (by omega) (by rw [Nat.succ_mul]; omega)
    have st := srch (b0 * l + h0 - 1) 0 1 (by omega) (by omega) (by omega)
    refine vc_X11_best_90 _ _ _ _ _ _ _ _ _ _ _ ⟨fun z => absurd z (nI_nlt hki hi), fun _ => ⟨fun z => absurd z (nI_ne0 hp (by omega)), fun _ => st⟩⟩
theorem pr_best {σ : bl_S} (h : Inv σ) (x1 x2 x3 x4 : Int32) : Pr 82 149 [.int x1, .int x2, .int x3, .int x4] σ := by
  obtain ⟨nb, np, nt, a, b, c, hl, hb, hp, hz, ht, hs', hm'⟩ := id h
  have hn := hl.1
  have hn2 := hl.2.1
  by_cases g1 : wi x1 0 (nI np - 1) = 0
  · exact ⟨-1000000001, σ, σ, bl_c (Nat.le_of_ble_eq_true rfl) (vc_X10_best_0 σ _ _ _ _ ⟨_, _, g71 hl _, fun _ => ⟨rfl, rfl⟩, fun q => absurd g1 q⟩), bl_c (Nat.le_of_ble_eq_true rfl) (vc_X11_best_0 σ _ _ _ _ ⟨_, _, g104 hl _, fun _ => ⟨rfl, rfl⟩, fun q => absurd g1 q⟩), h⟩
  by_cases g2 : wi x2 1 24 = 0
  · exact ⟨-1000000002, σ, σ, bl_c (Nat.le_of_ble_eq_true rfl) (vc_X10_best_0 σ _ _ _ _ ⟨_, _, g71 hl _, fun q => absurd q g1, fun _ => ⟨_, _, c_X10_within σ x2 1 24, fun _ => ⟨rfl, rfl⟩, fun q => absurd g2 q⟩⟩), bl_c (Nat.le_of_ble_eq_true rfl) (vc_X11_best_0 σ _ _ _ _ ⟨_, _, g104 hl _, fun q => absurd q g1, fun _ => ⟨_, _, c_X11_in σ x2 1 24 (by decide) (by decide), fun _ => ⟨rfl, rfl⟩, fun q => absurd g2 q⟩⟩), h⟩
  by_cases g3 : wi x4 0 1 = 0
  · exact ⟨-1000000002, σ, σ, bl_c (Nat.le_of_ble_eq_true rfl) (vc_X10_best_0 σ _ _ _ _ ⟨_, _, g71 hl _, fun q => absurd q g1, fun _ => ⟨_, _, c_X10_within σ x2 1 24, fun q => absurd q g2, fun _ => ⟨_, _, c_X10_within σ x4 0 1, fun _ => ⟨rfl, rfl⟩, fun q => absurd g3 q⟩⟩⟩), bl_c (Nat.le_of_ble_eq_true rfl) (vc_X11_best_0 σ _ _ _ _ ⟨_, _, g104 hl _, fun q => absurd q g1, fun _ => ⟨_, _, c_X11_in σ x2 1 24 (by decide) (by decide), fun q => absurd q g2, fun _ => ⟨_, _, c_X11_in σ x4 0 1 (by decide) (by decide), fun _ => ⟨rfl, rfl⟩, fun q => absurd g3 q⟩⟩⟩), h⟩
  obtain ⟨p, hpn, rfl⟩ := wi_n (n := np) (by omega) g1
  obtain ⟨t, t1, t24, rfl⟩ := wi_c (a := 1) (b := 24) (by omega) (by omega) g2
  have p4 : p < 4 := by omega
  obtain ⟨r1, y, sd, q', e, h', d1, d2, d3, d4, d5, d6, f1, f2, f3, f4, f5⟩ := hp p hpn
  have hD := WD_mk hn hb (y := y) (s := sd) (q' := q') (e := e) (h' := h') d1 d4 d5 d6
  obtain ⟨-, -, -, -, -, -, -, -, hz1, hz2⟩ := hz 0 (by omega)
  obtain ⟨W, eW⟩ : ∃ W, W = wdW σ (nI y) (nI sd) := ⟨_, rfl⟩
  obtain ⟨tm, etm⟩ : ∃ tm, tm = wdT σ := ⟨_, rfl⟩
  obtain ⟨g, eg⟩ : ∃ g, g = wdG σ q' h' e := ⟨_, rfl⟩
  rw [← eW, ← etm, ← eg] at hD
  have hg := hD.G
  have hW := hD.1
  have hu := hD.U
  have htm : ∀ b, b < nb → tm b ≤ 2 := fun b hb => (hD.2.2.2.1 b hb).2.2
  have hDc : WD nb σ (σ (20 + p) 0) (σ (20 + p) 1) (σ (20 + p) 2) (σ (20 + p) 4) (σ (20 + p) 3) W tm g := by
    rw [r1 0 (by omega), r1 1 (by omega), r1 2 (by omega), r1 3 (by omega), r1 4 (by omega)]
    show WD nb σ (σ 108 p) (σ 109 p) (σ 110 p) (σ 112 p) (σ 111 p) W tm g
    rw [f1, f2, f3, f4, f5]
    exact hD
  have hRσ : RH nb p σ W tm g := by
    refine ⟨hn, p4, hl.2.2.2.1, ?_, ⟨y, d1, f1⟩, fun b hbn => ?_⟩
    · rw [f1, f2, f3, f4, f5]
      exact hD
    · obtain ⟨-, y2, s2, kd2, rd2, rp2, sf2, k1, -, -, -, k5, -⟩ := hb b hbn
      exact ⟨y2, k1, k5⟩
  obtain ⟨τ, ⟨hCF, hCT, h30⟩, hFM⟩ := fmC (t := t) hn t24 (kdp p p4) (by omega) hl.2.2.1 (fun b k z1 z2 => (hb b z1).1 k z2) hDc hz1 hz2
  have hst := fun s => stM s 0 6 t
  have bdM := wm_bd W hg 0 6 t
  -- the reference behind any such state
  have ref : ∀ τ', CW σ τ' → (∃ υ, (Fr τ' υ ∧ RG nb t g υ ∧ RT nb t 0 W tm g υ) ∧ bl_Con (bl_mi 148) [.ref 1, .int (nI p), .int (nI t)] τ' none υ) ∧ Jl nb np τ' := by
    intro τ' f
    refine ⟨fmM (σ := τ') (p := p) ?_ t24, hl.fr (f.1 10 (by decide) (by omega) (by omega)) (f.1 11 (by decide) (by omega) (by omega)) (fun k _ => by rw [f.1 1 (by decide) (by omega) (by omega)])⟩
    unfold RH WD
    rw [f.1 1 (by decide) (by omega) (by omega), f.1 102 (by decide) (by omega) (by omega), f.1 103 (by decide) (by omega) (by omega), f.1 104 (by decide) (by omega) (by omega), f.1 106 (by decide) (by omega) (by omega), f.1 108 (by decide) (by omega) (by omega), f.1 109 (by decide) (by omega) (by omega), f.1 110 (by decide) (by omega) (by omega), f.1 111 (by decide) (by omega) (by omega), f.1 112 (by decide) (by omega) (by omega)]
    exact hRσ
  have ci : (0 * 7 + 6) * 25 + t < 2 ^ 31 := by omega
  by_cases n1 : x3 = -1
  · obtain ⟨⟨υ, ⟨u1, u2, u3⟩, hC⟩, hl2⟩ := ref τ hCF.cw
    refine ⟨nI (wm nb W tm g 0 6 t), τ, υ, bl_c (Nat.le_of_ble_eq_true rfl) (vc_X10_best_0 σ _ _ _ _ ⟨_, _, g71 hl _, fun q => absurd q g1, fun _ => ⟨_, _, c_X10_within σ _ 1 24, fun q => absurd q g2, fun _ => ⟨_, _, c_X10_within σ x4 0 1, fun q => absurd q g3, fun _ => ⟨vip p4, ?_⟩⟩⟩⟩), bl_c (Nat.le_of_ble_eq_true rfl) (vc_X11_best_0 τ _ _ _ _ ⟨_, _, g104 hl2 _, fun q => absurd q g1, fun _ => ⟨_, _, c_X11_in τ _ 1 24 (by decide) (by decide), fun q => absurd q g2, fun _ => ⟨_, _, c_X11_in τ x4 0 1 (by decide) (by decide), fun q => absurd q g3, fun _ => ⟨_, hC, _, _, hst υ, vp_in_nI (by omega) (by omega), fun _ v25 e25 => ⟨?_, rfl⟩, fun z => absurd ?_ z⟩⟩⟩⟩), (h.cw hCF.cw).fr u1⟩
    · rw [ntp p4]
      exact ⟨_, _, hFM, fun _ => ⟨rfl, rfl⟩, fun q => absurd n1 q⟩
    · rw [e25, if_pos n1, nI_clamp ci, u3 0 6 t (Nat.zero_le _) (Nat.two_pow_pos nb) (Or.inr rfl) (Nat.le_refl _)]
    · rw [n1]
      decide
  obtain ⟨K, τ', ⟨k1, k2, k3, k4, k5⟩, hST⟩ := stC hn t24 hW hg htm hu hCT h30
  have hCW : CW σ τ' := by
    refine ⟨fun d hd z1 z2 => ?_, fun a z => by rw [k4.1 71 (by omega) (by omega) (by omega)]; exact hCF.2.1 a z, fun t z => by rw [k4.1 72 (by omega) (by omega) (by omega)]; exact hCF.2.2 t z⟩
    rw [k4.1 d (fun e => by rw [e] at hd; exact absurd hd (by decide)) (fun e => by rw [e] at hd; exact absurd hd (by decide)) (fun e => by rw [e] at hd; exact absurd hd (by decide))]
    exact hCF.cw.1 d hd z1 z2
  obtain ⟨⟨υ, ⟨u1, u2, u3⟩, hC⟩, hl2⟩ := ref τ' hCW
  have hRυ : RH nb p υ W tm g := by
    have e : RH nb p τ' W tm g := by
      unfold RH WD
      rw [hCW.1 1 (by decide) (by omega) (by omega), hCW.1 102 (by decide) (by omega) (by omega), hCW.1 103 (by decide) (by omega) (by omega), hCW.1 104 (by decide) (by omega) (by omega), hCW.1 106 (by decide) (by omega) (by omega), hCW.1 108 (by decide) (by omega) (by omega), hCW.1 109 (by decide) (by omega) (by omega), hCW.1 110 (by decide) (by omega) (by omega), hCW.1 111 (by decide) (by omega) (by omega), hCW.1 112 (by decide) (by omega) (by omega)]
      exact hRσ
    exact e.fr u1
  have hwi := c_X10_within τ' x3 0 (nI K - 1)
  have t31 : τ' 3 1 = nI K := k5.1
  -- both, once the answer is known
  have both : ∀ R : Int32, ((wi x3 0 (nI K - 1) = 0 → R = -1) ∧ (¬ wi x3 0 (nI K - 1) = 0 → (vp_in x3 6) ∧ R = if x4 = 0 then τ' 69 (Int32.toNatClampNeg x3) else τ' 70 (Int32.toNatClampNeg x3))) → (x3 < 0 → R = -1) → (¬ x3 < 0 → bl_Wx (bl_mi 149) 90 [(0, .ref 1), (1, .int (nI p)), (2, .int (nI t)), (3, .int x3), (4, .int x4), (5, .int (nI (wm nb W tm g 0 6 t))), (6, .int 0), (7, .int 6), (8, .int (nI t)), (9, .int 0), (10, .int 0)] [] υ (fun v τ => v = some (.int R) ∧ τ = υ)) → Pr 82 149 [.int (nI p), .int (nI t), .int x3, .int x4] σ := by
    intro R r1 r2 r3
    refine ⟨R, τ', υ, bl_c (Nat.le_of_ble_eq_true rfl) (vc_X10_best_0 σ _ _ _ _ ⟨_, _, g71 hl _, fun q => absurd q g1, fun _ => ⟨_, _, c_X10_within σ _ 1 24, fun q => absurd q g2, fun _ => ⟨_, _, c_X10_within σ x4 0 1, fun q => absurd q g3, fun _ => ⟨vip p4, ?_⟩⟩⟩⟩), bl_c (Nat.le_of_ble_eq_true rfl) (vc_X11_best_0 τ' _ _ _ _ ⟨_, _, g104 hl2 _, fun q => absurd q g1, fun _ => ⟨_, _, c_X11_in τ' _ 1 24 (by decide) (by decide), fun q => absurd q g2, fun _ => ⟨_, _, c_X11_in τ' x4 0 1 (by decide) (by decide), fun q => absurd q g3, fun _ => ⟨_, hC, _, _, hst υ, vp_in_nI (by omega) (by omega), fun z v25 e25 => ⟨?_, rfl⟩, fun z => ?_⟩⟩⟩⟩), (h.cw hCW).fr u1⟩
    · rw [ntp p4]
      refine ⟨_, _, hFM, fun q => absurd q n1, fun _ => ⟨_, hST, ?_⟩⟩
      rw [t31]
      refine ⟨_, _, hwi, fun q => ⟨by rw [r1.1 q], rfl⟩, fun q => ⟨⟨fun _ => (r1.2 q).1, fun _ => (r1.2 q).1⟩, fun v32 e32 => ⟨?_, rfl⟩⟩⟩
      rw [e32, (r1.2 q).2]
    · rw [e25, if_neg n1, r2 z]
    · rw [nI_clamp ci, u3 0 6 t (Nat.zero_le _) (Nat.two_pow_pos nb) (Or.inr rfl) (Nat.le_refl _)]
      exact r3 z
  by_cases n0 : x3 < 0
  · have w0 : wi x3 0 (nI K - 1) = 0 := if_pos n0
    exact both (-1) ⟨fun _ => rfl, fun q => absurd w0 q⟩ (fun _ => rfl) (fun q => absurd n0 q)
  · obtain ⟨i, i31, rfl⟩ := nI_of n0
    by_cases q : i < K
    · have i6 : i < 6 := by omega
      have w1 : ¬ wi (nI i) 0 (nI K - 1) = 0 := by
        unfold wi
        obtain ⟨K', rfl⟩ : ∃ K', K = K' + 1 := ⟨K - 1, by omega⟩
        rw [if_neg n0, nI_pred, if_neg (nI_nlt (by omega) (by omega))]
        decide
      obtain ⟨j1, j2⟩ := k5.2.2.2.2.2 i q
      refine both (if x4 = 0 then nI (sqn nb W tm g t (i + 1)).2.1 else nI (sqn nb W tm g t (i + 1)).2.2.2) ⟨fun z => absurd z w1, fun _ => ⟨vib i6, ?_⟩⟩ (fun z => absurd z n0) (fun _ => ?_)
      · rw [ntb i6, j1, j2]
      · exact blM hRυ t24 u2 u3 k1 k2 k3 i31 x4 _ (fun _ => rfl) (fun z => by omega)
    · have w0 : wi (nI i) 0 (nI K - 1) = 0 := by
        unfold wi
        rw [if_neg n0, if_pos]
        rw [Int32.lt_iff_toInt_lt, nI_toInt i31, show (1 : Int32) = nI 1 from rfl, pk_sub_toInt (by omega) (by omega)]
        omega
      refine both (-1) ⟨fun _ => rfl, fun z => absurd w0 z⟩ (fun z => absurd z n0) (fun _ => ?_)
      exact blM hRυ t24 u2 u3 k1 k2 k3 i31 x4 _ (fun z => absurd z q) (fun _ => rfl)
