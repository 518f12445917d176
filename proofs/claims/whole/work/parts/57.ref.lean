/-! BEST WAY: the reference -/
def RH (nb p : Nat) (σ : bl_S) (W : Nat → Nat → Nat) (tm : Nat → Nat) (g : Nat → Nat → Nat) : Prop := nb ≤ 6 ∧ p < 4 ∧ σ 1 4 = nI nb ∧ WD nb σ (σ 108 p) (σ 109 p) (σ 110 p) (σ 112 p) (σ 111 p) W tm g ∧ (∃ x : Nat, x ≤ 99 ∧ σ 108 p = nI x) ∧ ∀ b, b < nb → ∃ y : Nat, y ≤ 99 ∧ σ 102 b = nI y
theorem RH.fr {nb p : Nat} {σ s : bl_S} {W : Nat → Nat → Nat} {tm : Nat → Nat} {g : Nat → Nat → Nat} (h : RH nb p σ W tm g) (f : Fr σ s) : RH nb p s W tm g := by
  unfold RH WD
  rw [f 1 (by decide), f 102 (by decide), f 103 (by decide), f 104 (by decide), f 106 (by decide), f 108 (by decide), f 109 (by decide), f 110 (by decide), f 111 (by decide), f 112 (by decide)]
  exact h
theorem findGainsM {σ : bl_S} {nb p t : Nat} {W : Nat → Nat → Nat} {tm : Nat → Nat} {g : Nat → Nat → Nat} (hR : RH nb p σ W tm g) (ht : t ≤ 24) : ∃ τ, (Fr σ τ ∧ ∀ b h, b < nb → h ≤ t → τ 132 (25 * b + h) = nI (g b h)) ∧ bl_Con (bl_mi 144) [.ref 1, .int (nI p), .int (nI t)] σ none τ := by
  obtain ⟨hn, p4, h4, hD, -, -⟩ := hR
  have key : ∀ s : bl_S, (TA nb σ s ∧ (∀ b, 0 ≤ b → b < nb → s 106 b = σ 106 b) ∧ ∀ b h, b < 0 → h ≤ t → s 132 (25 * b + h) = nI (g b h)) → EvN (bl_mi 144) 6 [(0, .ref 1), (1, .int (nI p)), (2, .int (nI t)), (3, .int (nI 0))] s (fun τ => Fr σ τ ∧ ∀ b h, b < nb → h ≤ t → τ 132 (25 * b + h) = nI (g b h)) := by
    refine bl_dn (N := nb) (P := fun c => ∀ s : bl_S, (TA nb σ s ∧ (∀ b, c ≤ b → b < nb → s 106 b = σ 106 b) ∧ ∀ b h, b < c → h ≤ t → s 132 (25 * b + h) = nI (g b h)) → EvN (bl_mi 144) 6 [(0, .ref 1), (1, .int (nI p)), (2, .int (nI t)), (3, .int (nI c))] s (fun τ => Fr σ τ ∧ ∀ b h, b < nb → h ≤ t → τ 132 (25 * b + h) = nI (g b h))) ?_ ?_
    · intro s ⟨hT, h1, h2⟩
      have e1 : s 1 4 = nI nb := by rw [hT.at 1 (by decide) (by omega)]; exact h4
      refine ⟨paM nb s, ⟨hT.back, fun b h z1 z2 => by rw [paM_c (by omega)]; exact h2 b h z1 z2⟩, vc_X11_findGains_6 _ _ _ _ ⟨fun z => absurd z ?_, fun _ => ⟨_, c_X11_putAllBack s hn e1, rfl, rfl⟩⟩⟩
      rw [e1]
      exact nI_nlt (Nat.le_refl _) (by omega)
    · intro c hc ih s ⟨hT, h1, h2⟩
      have c6 : c < 6 := by omega
      have hg := fun h => (hD.2.2.2.2 c h hc).1
      have row : ∀ s : bl_S, (TA nb σ s ∧ (∀ b, c + 1 ≤ b → b < nb → s 106 b = σ 106 b) ∧ s 106 c = hs (σ 110 p) (σ 112 p) (σ 104 c) (σ 106 c) 0 ∧ (∀ b h, b < c → h ≤ t → s 132 (25 * b + h) = nI (g b h)) ∧ ∀ h, h ≤ 0 → s 132 (25 * c + h) = nI (g c h)) → EvN (bl_mi 144) 27 [(0, .ref 1), (1, .int (nI p)), (2, .int (nI t)), (3, .int (nI c)), (4, .int (nI (0 + 1)))] s (fun τ => Fr σ τ ∧ ∀ b h, b < nb → h ≤ t → τ 132 (25 * b + h) = nI (g b h)) := by
        refine bl_dn (N := t) (P := fun m => ∀ s : bl_S, (TA nb σ s ∧ (∀ b, c + 1 ≤ b → b < nb → s 106 b = σ 106 b) ∧ s 106 c = hs (σ 110 p) (σ 112 p) (σ 104 c) (σ 106 c) m ∧ (∀ b h, b < c → h ≤ t → s 132 (25 * b + h) = nI (g b h)) ∧ ∀ h, h ≤ m → s 132 (25 * c + h) = nI (g c h)) → EvN (bl_mi 144) 27 [(0, .ref 1), (1, .int (nI p)), (2, .int (nI t)), (3, .int (nI c)), (4, .int (nI (m + 1)))] s (fun τ => Fr σ τ ∧ ∀ b h, b < nb → h ≤ t → τ 132 (25 * b + h) = nI (g b h))) ?_ ?_
        · intro s ⟨hT, h1, h3, h4', h5⟩
          obtain ⟨τ, hP, hW⟩ := ih s ⟨hT, h1, fun b h z1 z2 => by
            by_cases e : b = c
            · rw [e]
              exact h5 h z2
            · exact h4' b h (by omega) z2⟩
          refine ⟨τ, hP, vc_X11_findGains_27 _ _ _ _ _ ⟨fun _ => by rw [nI_1]; exact hW, fun z => absurd (nI_lt (by omega) (by omega)) z⟩⟩
        · intro m hm ihm s ⟨hT, h1, h3, h4', h5⟩
          have hh := c_X11_handful s (p := p) (b := c) p4 c6
          rw [hT.at 110 (by decide) (by omega), hT.at 112 (by decide) (by omega), hT.at 104 (by decide) (by omega), h3] at hh
          have ehs : hs (σ 110 p) (σ 112 p) (σ 104 c) (σ 106 c) m - hq (σ 110 p) (σ 112 p) (σ 104 c) (hs (σ 110 p) (σ 112 p) (σ 104 c) (σ 106 c) m) = hs (σ 110 p) (σ 112 p) (σ 104 c) (σ 106 c) (m + 1) := rfl
          rw [ehs] at hh
          obtain ⟨s1, e1⟩ : ∃ s1, s1 = bl_up s 106 c (hs (σ 110 p) (σ 112 p) (σ 104 c) (σ 106 c) (m + 1)) := ⟨_, rfl⟩
          rw [← e1] at hh
          have hT1 : TA nb σ s1 := by rw [e1]; exact hT.ripe hc
          have hr := c_X11_rest s1 (hq (σ 110 p) (σ 112 p) (σ 104 c) (hs (σ 110 p) (σ 112 p) (σ 104 c) (σ 106 c) m)) (σ 111 p)
          rw [gn_rest] at hr
          have e111 : s1 111 p = σ 111 p := by rw [hT1.at 111 (by decide) (by omega)]
          have hr' : bl_Con (bl_mi 127) [.int (hq (σ 110 p) (σ 112 p) (σ 104 c) (hs (σ 110 p) (σ 112 p) (σ 104 c) (σ 106 c) m)), .int (s1 111 p)] s1 (some (.int (gn (σ 110 p) (σ 112 p) (σ 104 c) (σ 111 p) (hs (σ 110 p) (σ 112 p) (σ 104 c) (σ 106 c) m)))) s1 := by
            rw [e111]
            exact hr
          have eg : nI (g c m) + gn (σ 110 p) (σ 112 p) (σ 104 c) (σ 111 p) (hs (σ 110 p) (σ 112 p) (σ 104 c) (σ 106 c) m) = nI (g c (m + 1)) := by
            rw [← hg m, ← hg (m + 1)]
            rfl
          have ex : 25 * nI c + nI (m + 1) = nI (25 * c + (m + 1)) := by rw [show (25 : Int32) = nI 25 from rfl, nI_mul, nI_add]
          have ex1 : nI (25 * c + (m + 1)) - 1 = nI (25 * c + m) := nI_pred (25 * c + m)
          obtain ⟨τ, hP, hW⟩ := ihm (bl_up s1 132 (25 * c + (m + 1)) (nI (g c (m + 1)))) ⟨hT1.up (by decide) (by omega), fun b z1 z2 => by rw [bl_up_c (by omega), e1, bl_up_j (by omega)]; exact h1 b z1 z2, by rw [bl_up_c (by omega), e1, bl_up_s], fun b h z1 z2 => by rw [bl_up_j (by omega), e1, bl_up_c (by omega)]; exact h4' b h z1 z2, fun h z => by
            by_cases e : h = m + 1
            · rw [e, bl_up_s]
            · rw [bl_up_j (by omega), e1, bl_up_c (by omega)]
              exact h5 h (by omega)⟩
          refine ⟨τ, hP, vc_X11_findGains_27 _ _ _ _ _ ⟨fun z => absurd z (nI_nlt (by omega) (by omega)), fun _ => ?_⟩⟩
          rw [ex, ex1, nI_clamp (show 25 * c + (m + 1) < 2 ^ 31 by omega), nI_clamp (show 25 * c + m < 2 ^ 31 by omega), ntp p4, h5 m (Nat.le_refl _)]
          refine ⟨vp_in_nI (by omega) (by omega), _, s1, hh, vip p4, _, s1, hr', vp_in_nI (by omega) (by omega), fun v17 e17 => ?_⟩
          rw [e17, eg, nI_1]
          exact hW
      have e25 : 25 * nI c = nI (25 * c) := by rw [show (25 : Int32) = nI 25 from rfl, nI_mul]
      have eg0 : nI (g c 0) = 0 := (hg 0).symm
      obtain ⟨τ, hP, hW⟩ := row (bl_up s 132 (25 * c) 0) ⟨hT.up (by decide) (by omega), fun b z1 z2 => by rw [bl_up_c (by omega)]; exact h1 b (by omega) z2, by rw [bl_up_c (by omega)]; exact h1 c (Nat.le_refl _) hc, fun b h z1 z2 => by rw [bl_up_j (by omega)]; exact h2 b h z1 z2, fun h z => by rw [show h = 0 by omega, Nat.add_zero, bl_up_s, eg0]⟩
      refine ⟨τ, hP, vc_X11_findGains_6 _ _ _ _ ⟨fun _ => ?_, fun z => absurd ?_ z⟩⟩
      · rw [e25, nI_clamp (show 25 * c < 2 ^ 31 by omega)]
        exact ⟨vp_in_nI (by omega) (by omega), hW⟩
      · rw [hT.at 1 (by decide) (by omega), h4]
        exact nI_lt hc (by omega)
  obtain ⟨τ, hP, hW⟩ := key (svM nb σ) ⟨TA.save, fun b _ _ => by rw [svM_c (by omega)], fun b h z _ => by omega⟩
  exact ⟨τ, hP, bl_c (Nat.le_of_ble_eq_true rfl) (vc_X11_findGains_0 σ _ _ ⟨_, c_X11_save σ hn h4, hW⟩)⟩
theorem wbM {s : bl_S} {nb p a b : Nat} {W : Nat → Nat → Nat} {tm : Nat → Nat} {g : Nat → Nat → Nat} (hR : RH nb p s W tm g) (ha : a < nb ∨ a = 6) (hb : b < nb) : bl_Con (bl_mi 146) [.ref 1, .int (nI p), .int (nI a), .int (nI b)] s (some (.int (nI (W a b)))) s := by
  obtain ⟨hn, p4, h4, hD, ⟨x, x1, x2⟩, hy⟩ := hR
  have b6 : b < 6 := by omega
  obtain ⟨y, y1, y2⟩ := hy b hb
  by_cases e : a = 6
  · have hw := c_X11_wayOf s p4 b6 ⟨x, y, x1, y1, x2, y2⟩
    rw [hD.2.2.1 b hb] at hw
    refine bl_c (Nat.le_of_ble_eq_true rfl) (vc_X11_wayBetween_0 s _ _ _ ⟨fun _ => ⟨_, _, hw, ?_, rfl⟩, fun z => absurd ?_ z⟩)
    · rw [e]
    · rw [e]
      rfl
  · have an : a < nb := by omega
    have a6 : a < 6 := by omega
    obtain ⟨z, z1, z2⟩ := hy a an
    have hw := c_X11_momentsOf s (s 102 a) (s 103 a) (s 102 b) (s 103 b) ⟨z, y, z1, y1, z2, y2⟩
    rw [hD.2.1 a b an hb] at hw
    refine bl_c (Nat.le_of_ble_eq_true rfl) (vc_X11_wayBetween_0 s _ _ _ ⟨fun z => absurd ((nI_eq (a := a) (b := 6) (by omega) (by omega)).mp z) e, fun _ => ⟨vib a6, vib b6, ?_⟩⟩)
    rw [ntb a6, ntb b6]
    exact ⟨_, _, hw, rfl, rfl⟩
/-- the reference's tables: gains, and the most for sets from k on -/
def RG (nb t : Nat) (g : Nat → Nat → Nat) (s : bl_S) : Prop := ∀ b h, b < nb → h ≤ t → s 132 (25 * b + h) = nI (g b h)
def RT (nb t k : Nat) (W : Nat → Nat → Nat) (tm : Nat → Nat) (g : Nat → Nat → Nat) (s : bl_S) : Prop := ∀ m a l, k ≤ m → m < 2 ^ nb → a < nb ∨ a = 6 → l ≤ t → s 133 ((m * 7 + a) * 25 + l) = nI (wm nb W tm g m a l)
theorem stM (s : bl_S) (m a l : Nat) : bl_Con (bl_mi 145) [.ref 1, .int (nI m), .int (nI a), .int (nI l)] s (some (.int (nI ((m * 7 + a) * 25 + l)))) s := by
  refine bl_c (Nat.le_of_ble_eq_true rfl) (vc_X11_stateOf_0 s _ _ _ ⟨?_, rfl⟩)
  rw [show (7 : Int32) = nI 7 from rfl, show (25 : Int32) = nI 25 from rfl, nI_mul, nI_add, nI_mul, nI_add]
theorem or_gt : ∀ m, m < 64 → ∀ b, b < 6 → m.testBit b = false → m < m ||| 2 ^ b := by decide +kernel
theorem or_lt2 {m b nb : Nat} (hm : m < 2 ^ nb) (hb : b < nb) : m ||| 2 ^ b < 2 ^ nb := Nat.or_lt_two_pow hm (Nat.pow_lt_pow_right (by omega) hb)
/-- one step more, as the reference counts it -/
theorem byM {s : bl_S} {nb p t k m a l b h : Nat} {W : Nat → Nat → Nat} {tm : Nat → Nat} {g : Nat → Nat → Nat} (hR : RH nb p s W tm g) (ht : t ≤ 24) (hG : RG nb t g s) (hT : RT nb t k W tm g s) (hk : ∀ b, b < nb → m.testBit b = false → k ≤ m ||| 2 ^ b) (hm : m < 2 ^ nb) (ha : a < nb ∨ a = 6) (hl : l ≤ t) (hb : b < nb) (h1 : 1 ≤ h) (hh : h ≤ t) : ∃ y : Int32, bl_Con (bl_mi 147) [.ref 1, .int (nI p), .int (nI m), .int (nI a), .int (nI l), .int (nI b), .int (nI h)] s (some (.int y)) s ∧ (okS nb W tm m a l b h → y = nI (wmS nb W tm g m a l b h)) ∧ (¬ okS nb W tm m a l b h → y = -1000000) := by
  have hn := hR.1
  have p64 := p2_le hn
  have b6 : b < 6 := by omega
  have hw := wbM hR ha hb
  have hD := hR.2.2.2.1
  have hWb := hD.1 a b
  obtain ⟨t1, t2, t3⟩ := hD.2.2.2.1 b hb
  have htk := c_X11_handfulTakes s b6
  rw [t1] at htk
  have z1 : h * tm b ≤ h * 2 := Nat.mul_le_mul_left _ t3
  have er : nI l - nI (W a b) - nI h * nI (tm b) = nI l - nI (W a b + h * tm b) := by rw [nI_mul, i_ss, nI_add]
  have hhas := c_X11_hasN (s := s) (m := m) (b := b) (by omega) b6
  by_cases q : W a b + h * tm b ≤ l
  · have ex : nI l - nI (W a b) - nI h * nI (tm b) = nI (l - (W a b + h * tm b)) := by rw [er, pk_sub q]
    have nn : ¬ nI l - nI (W a b) - nI h * nI (tm b) < 0 := by rw [ex]; exact nI_pos (by omega)
    by_cases tb : m.testBit b = true
    · rw [if_pos tb] at hhas
      refine ⟨-1000000, bl_c (Nat.le_of_ble_eq_true rfl) (vc_X11_byNext_0 s _ _ _ _ _ _ ⟨_, _, hw, _, _, htk, fun z => absurd z nn, fun _ => ⟨_, _, hhas, fun z => absurd z (by decide), fun _ => ⟨rfl, rfl⟩⟩⟩), fun ok => ?_, fun _ => rfl⟩
      have := ok.2.1
      rw [tb] at this
      cases this
    · have tb : m.testBit b = false := by
        cases hc : m.testBit b with
        | false => rfl
        | true => exact absurd hc tb
      rw [tb, if_neg (by decide)] at hhas
      have ok : okS nb W tm m a l b h := ⟨hb, tb, h1, q⟩
      have e25 : 25 * nI b + nI h = nI (25 * b + h) := by rw [show (25 : Int32) = nI 25 from rfl, nI_mul, nI_add]
      have lt2 := or_lt2 hm hb
      have hst := stM s (m ||| 2 ^ b) b (l - (W a b + h * tm b))
      have htab := hT (m ||| 2 ^ b) b (l - (W a b + h * tm b)) (hk b hb tb) lt2 (Or.inl hb) (by omega)
      refine ⟨nI (wmS nb W tm g m a l b h), bl_c (Nat.le_of_ble_eq_true rfl) (vc_X11_byNext_0 s _ _ _ _ _ _ ⟨_, _, hw, _, _, htk, fun z => absurd z nn, fun _ => ⟨_, _, hhas, fun _ => ?_, fun z => absurd rfl z⟩⟩), fun _ => rfl, fun z => absurd ok z⟩
      rw [e25, ex, bit_or m (by omega) b b6, nI_clamp (show 25 * b + h < 2 ^ 31 by omega), hG b h hb hh]
      refine ⟨vp_in_nI (by omega) (by omega), _, _, hst, vp_in_nI (by omega) (by omega), ?_, rfl⟩
      rw [nI_clamp (show ((m ||| 2 ^ b) * 7 + b) * 25 + (l - (W a b + h * tm b)) < 2 ^ 31 by omega), htab, nI_add]
      rfl
  · have neg : nI l - nI (W a b) - nI h * nI (tm b) < 0 := by
      rw [er]
      exact pk_sneg (by omega) (by omega)
    exact ⟨-1000000, bl_c (Nat.le_of_ble_eq_true rfl) (vc_X11_byNext_0 s _ _ _ _ _ _ ⟨_, _, hw, _, _, htk, fun _ => ⟨rfl, rfl⟩, fun z => absurd neg z⟩), fun ok => absurd ok.2.2.2 q, fun _ => rfl⟩
theorem fmM {σ : bl_S} {nb p t : Nat} {W : Nat → Nat → Nat} {tm : Nat → Nat} {g : Nat → Nat → Nat} (hR : RH nb p σ W tm g) (ht : t ≤ 24) : ∃ τ, (Fr σ τ ∧ RG nb t g τ ∧ RT nb t 0 W tm g τ) ∧ bl_Con (bl_mi 148) [.ref 1, .int (nI p), .int (nI t)] σ none τ := by
  obtain ⟨τ0, ⟨hF0, hG0⟩, hC0⟩ := findGainsM hR ht
  have hn := hR.1
  have p64 := p2_le hn
  have hg := hR.2.2.2.1.G
  have key : ∀ k, k ≤ 2 ^ nb → ∀ s : bl_S, (Fr σ s ∧ RG nb t g s ∧ RT nb t k W tm g s) → EvN (bl_mi 148) 15 [(0, .ref 1), (1, .int (nI p)), (2, .int (nI t)), (3, .int (nI k - 1))] s (fun τ => Fr σ τ ∧ RG nb t g τ ∧ RT nb t 0 W tm g τ) := by
    intro k
    induction k with
    | zero =>
      intro _ s h
      exact ⟨s, h, vc_X11_findMost_15 _ _ _ _ ⟨fun _ => ⟨rfl, rfl⟩, fun z => absurd (by decide) z⟩⟩
    | succ m ihm =>
      intro hk s ⟨hF, hG, hT⟩
      have m64 : m < 64 := by omega
      -- from everywhere
      have ats : ∀ s : bl_S, (Fr σ s ∧ RG nb t g s ∧ RT nb t (m + 1) W tm g s ∧ ∀ a l, a < nb ∨ a = 6 → a < 0 → l ≤ t → s 133 ((m * 7 + a) * 25 + l) = nI (wm nb W tm g m a l)) → EvN (bl_mi 148) 22 [(0, .ref 1), (1, .int (nI p)), (2, .int (nI t)), (3, .int (nI m)), (4, .int (nI 0))] s (fun τ => Fr σ τ ∧ RG nb t g τ ∧ RT nb t 0 W tm g τ) := by
        refine bl_dn (N := 7) (P := fun a' => ∀ s : bl_S, (Fr σ s ∧ RG nb t g s ∧ RT nb t (m + 1) W tm g s ∧ ∀ a l, a < nb ∨ a = 6 → a < a' → l ≤ t → s 133 ((m * 7 + a) * 25 + l) = nI (wm nb W tm g m a l)) → EvN (bl_mi 148) 22 [(0, .ref 1), (1, .int (nI p)), (2, .int (nI t)), (3, .int (nI m)), (4, .int (nI a'))] s (fun τ => Fr σ τ ∧ RG nb t g τ ∧ RT nb t 0 W tm g τ)) ?_ ?_
        · intro s ⟨hF, hG, hT, hA⟩
          obtain ⟨τ, hP, hW⟩ := ihm (by omega) s ⟨hF, hG, fun m' a l z1 z2 z3 z4 => by
            by_cases e : m' = m
            · rw [e]
              exact hA a l z3 (by omega) z4
            · exact hT m' a l (by omega) z2 z3 z4⟩
          refine ⟨τ, hP, vc_X11_findMost_22 _ _ _ _ _ ⟨fun _ => ?_, fun z => absurd (by decide) z⟩⟩
          rw [← Int32.sub_eq_add_neg]
          exact hW
        · intro a ha ihA s ⟨hF, hG, hT, hA⟩
          -- for every time
          have tms : ∀ s : bl_S, (Fr σ s ∧ RG nb t g s ∧ RT nb t (m + 1) W tm g s ∧ (∀ a' l, a' < nb ∨ a' = 6 → a' < a → l ≤ t → s 133 ((m * 7 + a') * 25 + l) = nI (wm nb W tm g m a' l)) ∧ (a < nb ∨ a = 6 → ∀ l, l < 0 → l ≤ t → s 133 ((m * 7 + a) * 25 + l) = nI (wm nb W tm g m a l))) → EvN (bl_mi 148) 32 [(0, .ref 1), (1, .int (nI p)), (2, .int (nI t)), (3, .int (nI m)), (4, .int (nI a)), (5, .int (nI 0))] s (fun τ => Fr σ τ ∧ RG nb t g τ ∧ RT nb t 0 W tm g τ) := by
            refine bl_dn (N := t + 1) (P := fun l' => ∀ s : bl_S, (Fr σ s ∧ RG nb t g s ∧ RT nb t (m + 1) W tm g s ∧ (∀ a' l, a' < nb ∨ a' = 6 → a' < a → l ≤ t → s 133 ((m * 7 + a') * 25 + l) = nI (wm nb W tm g m a' l)) ∧ (a < nb ∨ a = 6 → ∀ l, l < l' → l ≤ t → s 133 ((m * 7 + a) * 25 + l) = nI (wm nb W tm g m a l))) → EvN (bl_mi 148) 32 [(0, .ref 1), (1, .int (nI p)), (2, .int (nI t)), (3, .int (nI m)), (4, .int (nI a)), (5, .int (nI l'))] s (fun τ => Fr σ τ ∧ RG nb t g τ ∧ RT nb t 0 W tm g τ)) ?_ ?_
            · intro s ⟨hF, hG, hT, hA, hL⟩
              obtain ⟨τ, hP, hW⟩ := ihA s ⟨hF, hG, hT, fun a' l z1 z2 z3 => by
                by_cases e : a' = a
                · subst e
                  exact hL z1 l (by omega) z3
                · exact hA a' l z1 (by omega) z3⟩
              exact ⟨τ, hP, vc_X11_findMost_32 _ _ _ _ _ _ ⟨fun _ => by rw [nI_1]; exact hW, fun z => absurd (nI_lt (by omega) (by omega)) z⟩⟩
            · intro l hl ihL s ⟨hF, hG, hT, hA, hL⟩
              have hRs := hR.fr hF
              have h4 := hRs.2.2.1
              -- what is stored
              have fin : ∀ cur : Nat, (a < nb ∨ a = 6 → cur = wm nb W tm g m a l) → ∃ τ, (Fr σ τ ∧ RG nb t g τ ∧ RT nb t 0 W tm g τ) ∧ (∃ (y : Int32) (υ : bl_S), bl_Con (bl_mi 145) [.ref 1, .int (nI m), .int (nI a), .int (nI l)] s (some (.int y)) υ ∧ (vp_in y 11200) ∧ bl_Wx (bl_mi 148) 32 [(0, .ref 1), (1, .int (nI p)), (2, .int (nI t)), (3, .int (nI m)), (4, .int (nI a)), (5, .int (nI l + 1))] [] (bl_up υ 133 (Int32.toNatClampNeg y) (nI cur)) (fun v t => v = none ∧ t = τ)) := by
                intro cur hc
                obtain ⟨τ, hP, hW⟩ := ihL (bl_up s 133 ((m * 7 + a) * 25 + l) (nI cur)) ⟨hF.up (by decide), fun b h z1 z2 => by rw [bl_up_c (by omega)]; exact hG b h z1 z2, fun m' a' l' z1 z2 z3 z4 => by rw [bl_up_j (by omega)]; exact hT m' a' l' z1 z2 z3 z4, fun a' l' z1 z2 z3 => by rw [bl_up_j (by omega)]; exact hA a' l' z1 z2 z3, fun z1 l' z2 z3 => by
                  by_cases e : l' = l
                  · rw [e, bl_up_s, hc z1]
                  · rw [bl_up_j (by omega)]
                    exact hL z1 l' (by omega) z3⟩
                refine ⟨τ, hP, _, s, stM s m a l, vp_in_nI (by omega) (by omega), ?_⟩
                rw [nI_clamp (show (m * 7 + a) * 25 + l < 2 ^ 31 by omega), nI_1]
                exact hW
              by_cases va : a < nb ∨ a = 6
              · -- bush by bush
                have bs : ∀ cur : Nat, (cur = 0 ∨ ∃ b' h', okS nb W tm m a l b' h' ∧ cur = wmS nb W tm g m a l b' h') → (∀ b' h', okS nb W tm m a l b' h' → b' < 0 → wmS nb W tm g m a l b' h' ≤ cur) → EvN (bl_mi 148) 44 [(0, .ref 1), (1, .int (nI p)), (2, .int (nI t)), (3, .int (nI m)), (4, .int (nI a)), (5, .int (nI l)), (6, .int (nI cur)), (7, .int (nI 0))] s (fun τ => Fr σ τ ∧ RG nb t g τ ∧ RT nb t 0 W tm g τ) := by
                  refine bl_dn (N := nb) (P := fun b => ∀ cur : Nat, (cur = 0 ∨ ∃ b' h', okS nb W tm m a l b' h' ∧ cur = wmS nb W tm g m a l b' h') → (∀ b' h', okS nb W tm m a l b' h' → b' < b → wmS nb W tm g m a l b' h' ≤ cur) → EvN (bl_mi 148) 44 [(0, .ref 1), (1, .int (nI p)), (2, .int (nI t)), (3, .int (nI m)), (4, .int (nI a)), (5, .int (nI l)), (6, .int (nI cur)), (7, .int (nI b))] s (fun τ => Fr σ τ ∧ RG nb t g τ ∧ RT nb t 0 W tm g τ)) ?_ ?_
                  · intro cur c1 c2
                    obtain ⟨τ, hP, hW⟩ := fin cur (fun _ => wm_un hg c1 (fun b h ok => c2 b h ok ok.1))
                    refine ⟨τ, hP, vc_X11_findMost_44 _ _ _ _ _ _ _ _ ⟨fun z => absurd z ?_, fun _ => hW⟩⟩
                    rw [h4]
                    exact nI_nlt (Nat.le_refl _) (by omega)
                  · intro b hb ihB cur c1 c2
                    have hs' : ∀ cur : Nat, (cur = 0 ∨ ∃ b' h', okS nb W tm m a l b' h' ∧ cur = wmS nb W tm g m a l b' h') → (∀ b' h', okS nb W tm m a l b' h' → b' < b ∨ (b' = b ∧ h' < 0 + 1) → wmS nb W tm g m a l b' h' ≤ cur) → EvN (bl_mi 148) 72 [(0, .ref 1), (1, .int (nI p)), (2, .int (nI t)), (3, .int (nI m)), (4, .int (nI a)), (5, .int (nI l)), (6, .int (nI cur)), (7, .int (nI b)), (8, .int (nI (0 + 1)))] s (fun τ => Fr σ τ ∧ RG nb t g τ ∧ RT nb t 0 W tm g τ) := by
                      refine bl_dn (N := l) (P := fun h => ∀ cur : Nat, (cur = 0 ∨ ∃ b' h', okS nb W tm m a l b' h' ∧ cur = wmS nb W tm g m a l b' h') → (∀ b' h', okS nb W tm m a l b' h' → b' < b ∨ (b' = b ∧ h' < h + 1) → wmS nb W tm g m a l b' h' ≤ cur) → EvN (bl_mi 148) 72 [(0, .ref 1), (1, .int (nI p)), (2, .int (nI t)), (3, .int (nI m)), (4, .int (nI a)), (5, .int (nI l)), (6, .int (nI cur)), (7, .int (nI b)), (8, .int (nI (h + 1)))] s (fun τ => Fr σ τ ∧ RG nb t g τ ∧ RT nb t 0 W tm g τ)) ?_ ?_
                      · intro cur c1 c2
                        obtain ⟨τ, hP, hW⟩ := ihB cur c1 (fun b' h' ok z => c2 b' h' ok (by
                          by_cases e : b' = b
                          · refine Or.inr ⟨e, ?_⟩
                            have y1 := ok.2.2.2
                            have y2 : h' * 1 ≤ h' * tm b' := Nat.mul_le_mul_left _ (hg.1 b' ok.1)
                            omega
                          · exact Or.inl (by omega)))
                        exact ⟨τ, hP, vc_X11_findMost_72 _ _ _ _ _ _ _ _ _ ⟨fun _ => by rw [nI_1]; exact hW, fun z => absurd (nI_lt (by omega) (by omega)) z⟩⟩
                      · intro h hh ihH cur c1 c2
                        obtain ⟨y, hy, y1, y2⟩ := byM (s := s) (p := p) (h := h + 1) hRs ht hG hT (fun b' z1 z2 => by have := or_gt m m64 b' (by omega) z2; omega) (show m < 2 ^ nb by omega) va (show l ≤ t by omega) hb (by omega) (by omega)
                        have bdc : cur ≤ 480 := by
                          rcases c1 with z | ⟨b', h', ok, z⟩
                          · omega
                          · have w1 := wm_ge hg ok
                            have w2 := wm_bd W hg m a l
                            omega
                        obtain ⟨cur', e', c1', c2'⟩ : ∃ cur' : Nat, nI cur' = (if nI cur < y then y else nI cur) ∧ (cur' = 0 ∨ ∃ b' h', okS nb W tm m a l b' h' ∧ cur' = wmS nb W tm g m a l b' h') ∧ (∀ b' h', okS nb W tm m a l b' h' → b' < b ∨ (b' = b ∧ h' < h + 1 + 1) → wmS nb W tm g m a l b' h' ≤ cur') := by
                          by_cases ok : okS nb W tm m a l b (h + 1)
                          · have w1 := wm_ge hg ok
                            have w2 := wm_bd W hg m a l
                            rw [y1 ok]
                            by_cases z : cur < wmS nb W tm g m a l b (h + 1)
                            · refine ⟨wmS nb W tm g m a l b (h + 1), by rw [if_pos (nI_lt z (by omega))], Or.inr ⟨b, h + 1, ok, rfl⟩, fun b' h' ok' z' => ?_⟩
                              by_cases e : b' = b ∧ h' = h + 1
                              · rw [e.1, e.2]
                                exact Nat.le_refl _
                              · have := c2 b' h' ok' (by omega)
                                omega
                            · refine ⟨cur, by rw [if_neg (nI_nlt (by omega) (by omega))], c1, fun b' h' ok' z' => ?_⟩
                              by_cases e : b' = b ∧ h' = h + 1
                              · rw [e.1, e.2]
                                omega
                              · exact c2 b' h' ok' (by omega)
                          · rw [y2 ok]
                            refine ⟨cur, ?_, c1, fun b' h' ok' z' => ?_⟩
                            · rw [if_neg]
                              intro z
                              rw [Int32.lt_iff_toInt_lt, nI_toInt (by omega)] at z
                              have : (-1000000 : Int32).toInt = -1000000 := by decide
                              omega
                            · by_cases e : b' = b ∧ h' = h + 1
                              · rw [e.1, e.2] at ok'
                                exact absurd ok' ok
                              · exact c2 b' h' ok' (by omega)
                        obtain ⟨τ, hP, hW⟩ := ihH cur' c1' c2'
                        refine ⟨τ, hP, vc_X11_findMost_72 _ _ _ _ _ _ _ _ _ ⟨fun z => absurd z (nI_nlt (by omega) (by omega)), fun _ => ⟨_, _, hy, fun v24 e24 => ?_⟩⟩⟩
                        rw [← e'] at e24
                        rw [e24, nI_1]
                        exact hW
                    obtain ⟨τ, hP, hW⟩ := hs' cur c1 (fun b' h' ok z => by
                      rcases z with z | z
                      · exact c2 b' h' ok z
                      · have := ok.2.2.1
                        omega)
                    refine ⟨τ, hP, vc_X11_findMost_44 _ _ _ _ _ _ _ _ ⟨fun _ => ⟨fun _ => hW, fun z6 => ⟨fun _ => hW, fun z => absurd ?_ z⟩⟩, fun z => absurd ?_ z⟩⟩
                    · rw [h4]
                      refine nI_lt ?_ (by omega)
                      rcases va with w | w
                      · exact w
                      · rw [w] at z6
                        exact absurd rfl z6
                    · rw [h4]
                      exact nI_lt hb (by omega)
                obtain ⟨τ, hP, hW⟩ := bs 0 (Or.inl rfl) (fun b' h' _ z => by omega)
                exact ⟨τ, hP, vc_X11_findMost_32 _ _ _ _ _ _ ⟨fun z => absurd z (nI_nlt (by omega) (by omega)), fun _ => hW⟩⟩
              · -- no such place
                obtain ⟨τ, hP, hW⟩ := fin 0 (fun z => absurd z va)
                refine ⟨τ, hP, vc_X11_findMost_32 _ _ _ _ _ _ ⟨fun z => absurd z (nI_nlt (by omega) (by omega)), fun _ => ?_⟩⟩
                refine vc_X11_findMost_44 _ _ _ _ _ _ _ _ ⟨fun _ => ⟨fun z => absurd ((nI_eq (a := a) (b := 6) (by omega) (by omega)).mp z) (by omega), fun _ => ⟨fun z => absurd z ?_, fun _ => hW⟩⟩, fun _ => hW⟩
                rw [h4]
                exact nI_nlt (by omega) (by omega)
          obtain ⟨τ, hP, hW⟩ := tms s ⟨hF, hG, hT, hA, fun _ l z _ => by omega⟩
          refine ⟨τ, hP, vc_X11_findMost_22 _ _ _ _ _ ⟨fun z => absurd z ?_, fun _ => hW⟩⟩
          rw [show (6 : Int32) = nI 6 from rfl]
          exact nI_nlt (by omega) (by omega)
      obtain ⟨τ, hP, hW⟩ := ats s ⟨hF, hG, hT, fun a l _ z _ => by omega⟩
      rw [nI_pred]
      exact ⟨τ, hP, vc_X11_findMost_15 _ _ _ _ ⟨fun z => absurd z (nI_pos (by omega)), fun _ => hW⟩⟩
  obtain ⟨τ, hP, hW⟩ := key (2 ^ nb) (Nat.le_refl _) τ0 ⟨hF0, hG0, fun m a l z1 z2 => by omega⟩
  refine ⟨τ, hP, bl_c (Nat.le_of_ble_eq_true rfl) (vc_X11_findMost_0 σ _ _ ⟨τ0, hC0, ?_⟩)⟩
  rw [hF0 1 (by decide), hR.2.2.1, bit_shl nb (by omega)]
  exact hW
