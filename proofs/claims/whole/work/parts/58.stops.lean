/-! BEST WAY: the first of the best, stop by stop -/
theorem least_ex {P : Nat → Prop} : ∀ n, P n → ∃ k, P k ∧ ∀ j, j < k → ¬ P j := by
  intro n
  induction n using Nat.strongRecOn with
  | _ n ih =>
    intro h
    rcases Classical.em (∃ j, j < n ∧ P j) with ⟨j, h1, h2⟩ | q
    · exact ih j h1 h2
    · exact ⟨n, h, fun j hj hp => q ⟨j, hj, hp⟩⟩
/-- the first step of the best -/
def isN (nb : Nat) (W : Nat → Nat → Nat) (tm : Nat → Nat) (g : Nat → Nat → Nat) (m a l b h : Nat) : Prop := okS nb W tm m a l b h ∧ wmS nb W tm g m a l b h = wm nb W tm g m a l ∧ ∀ b' h', okS nb W tm m a l b' h' → wmS nb W tm g m a l b' h' = wm nb W tm g m a l → b < b' ∨ (b = b' ∧ h ≤ h')
theorem isN_ex {nb : Nat} {W : Nat → Nat → Nat} {tm : Nat → Nat} {g : Nat → Nat → Nat} (hg : wmG nb tm g) {m a l : Nat} (h0 : 0 < wm nb W tm g m a l) : ∃ r : Nat × Nat, isN nb W tm g m a l r.1 r.2 := by
  rcases wm_at W hg m a l with z | ⟨b, h, ok, e⟩
  · omega
  · obtain ⟨b0, ⟨h1, p1, p2⟩, m1⟩ := least_ex (P := fun b => ∃ h, okS nb W tm m a l b h ∧ wmS nb W tm g m a l b h = wm nb W tm g m a l) b ⟨h, ok, e.symm⟩
    obtain ⟨h0', ⟨q1, q2⟩, m2⟩ := least_ex (P := fun h => okS nb W tm m a l b0 h ∧ wmS nb W tm g m a l b0 h = wm nb W tm g m a l) h1 ⟨p1, p2⟩
    refine ⟨(b0, h0'), q1, q2, fun b' h' k1 k2 => ?_⟩
    show b0 < b' ∨ (b0 = b' ∧ h0' ≤ h')
    rcases Nat.lt_trichotomy b0 b' with w | w | w
    · exact Or.inl w
    · refine Or.inr ⟨w, ?_⟩
      rcases Nat.lt_or_ge h' h0' with y | y
      · exact absurd ⟨w ▸ k1, w ▸ k2⟩ (m2 h' y)
      · exact y
    · exact absurd ⟨h', k1, k2⟩ (m1 b' w)
noncomputable def nxt (nb : Nat) (W : Nat → Nat → Nat) (tm : Nat → Nat) (g : Nat → Nat → Nat) (q : Nat × Nat × Nat × Nat) : Nat × Nat := Classical.epsilon (fun r => isN nb W tm g q.1 q.2.1 q.2.2.1 r.1 r.2)
/-- where one is behind k stops: bushes that are shut, the last one, moments left, handfuls there -/
noncomputable def sqn (nb : Nat) (W : Nat → Nat → Nat) (tm : Nat → Nat) (g : Nat → Nat → Nat) (t : Nat) : Nat → Nat × Nat × Nat × Nat
  | 0 => (0, 6, t, 0)
  | k + 1 => ((sqn nb W tm g t k).1 ||| 2 ^ (nxt nb W tm g (sqn nb W tm g t k)).1, (nxt nb W tm g (sqn nb W tm g t k)).1, (sqn nb W tm g t k).2.2.1 - (W (sqn nb W tm g t k).2.1 (nxt nb W tm g (sqn nb W tm g t k)).1 + (nxt nb W tm g (sqn nb W tm g t k)).2 * tm (nxt nb W tm g (sqn nb W tm g t k)).1), (nxt nb W tm g (sqn nb W tm g t k)).2)
noncomputable def wmq (nb : Nat) (W : Nat → Nat → Nat) (tm : Nat → Nat) (g : Nat → Nat → Nat) (t k : Nat) : Nat := wm nb W tm g (sqn nb W tm g t k).1 (sqn nb W tm g t k).2.1 (sqn nb W tm g t k).2.2.1
theorem nxt_N {nb : Nat} {W : Nat → Nat → Nat} {tm : Nat → Nat} {g : Nat → Nat → Nat} (hg : wmG nb tm g) {t k : Nat} (h : 0 < wmq nb W tm g t k) : isN nb W tm g (sqn nb W tm g t k).1 (sqn nb W tm g t k).2.1 (sqn nb W tm g t k).2.2.1 (nxt nb W tm g (sqn nb W tm g t k)).1 (nxt nb W tm g (sqn nb W tm g t k)).2 :=
  Classical.epsilon_spec (isN_ex hg h)
theorem smS_or {m b nb : Nat} (hb : b < nb) (h : m.testBit b = false) : smS (fun _ => 1) (m ||| 2 ^ b) nb = 1 + smS (fun _ => 1) m nb := by
  have tb : (m ||| 2 ^ b).testBit b = true := by rw [tb_or, if_pos rfl]
  have ex : (m ||| 2 ^ b) ^^^ 2 ^ b = m := by
    apply Nat.eq_of_testBit_eq
    intro i
    rw [tb_xor, tb, tb_or]
    by_cases e : i = b
    · rw [if_pos e, e, h]
      rfl
    · rw [if_neg e, if_neg e]
  rw [smS_take tb nb hb, ex]
theorem smS_le1 {m : Nat} : ∀ n, smS (fun _ => 1) m n ≤ n
  | 0 => Nat.le_refl _
  | n + 1 => by
    have := smS_le1 (m := m) n
    show (if m.testBit n then smS (fun _ => 1) m n + 1 else smS (fun _ => 1) m n) ≤ n + 1
    split <;> omega
theorem sqn_ok {nb : Nat} {W : Nat → Nat → Nat} {tm : Nat → Nat} {g : Nat → Nat → Nat} (hg : wmG nb tm g) {t : Nat} : ∀ k, (∀ j, j < k → 0 < wmq nb W tm g t j) → (sqn nb W tm g t k).1 < 2 ^ nb ∧ ((sqn nb W tm g t k).2.1 < nb ∨ (sqn nb W tm g t k).2.1 = 6) ∧ (sqn nb W tm g t k).2.2.1 ≤ t ∧ smS (fun _ => 1) (sqn nb W tm g t k).1 nb = k
  | 0, _ => ⟨Nat.two_pow_pos nb, Or.inr rfl, Nat.le_refl _, smS_0 nb⟩
  | k + 1, h => by
    obtain ⟨a1, a2, a3, a4⟩ := sqn_ok hg k (fun j hj => h j (by omega))
    have hN := nxt_N hg (h k (by omega))
    refine ⟨or_lt2 a1 hN.1.1, Or.inl hN.1.1, ?_, ?_⟩
    · show (sqn nb W tm g t k).2.2.1 - _ ≤ t
      omega
    · show smS (fun _ => 1) ((sqn nb W tm g t k).1 ||| 2 ^ (nxt nb W tm g (sqn nb W tm g t k)).1) nb = k + 1
      rw [smS_or hN.1.1 hN.1.2.1, a4]
      omega
theorem sqn_end {nb : Nat} {W : Nat → Nat → Nat} {tm : Nat → Nat} {g : Nat → Nat → Nat} (hg : wmG nb tm g) {t : Nat} (h : ∀ j, j < nb → 0 < wmq nb W tm g t j) : wmq nb W tm g t nb = 0 := by
  rcases Nat.eq_zero_or_pos (wmq nb W tm g t nb) with z | z
  · exact z
  · exfalso
    obtain ⟨-, -, -, a4⟩ := sqn_ok hg nb h
    have hN := nxt_N hg z
    have h1 := smS_or hN.1.1 hN.1.2.1
    have h2 := smS_le1 (m := (sqn nb W tm g t nb).1 ||| 2 ^ (nxt nb W tm g (sqn nb W tm g t nb)).1) nb
    omega
/-- what of the class's cells stays while stops are found -/
def SF (s τ : bl_S) : Prop := (∀ d, d ≠ 3 → d ≠ 69 → d ≠ 70 → τ d = s d) ∧ τ 3 11 = s 3 11
theorem CT.sf {nb t : Nat} {W : Nat → Nat → Nat} {tm : Nat → Nat} {g : Nat → Nat → Nat} {s τ : bl_S} (h : CT nb t W tm g s) (f : SF s τ) : CT nb t W tm g τ := by
  obtain ⟨h1, h2, h3, h4⟩ := h
  refine ⟨by rw [f.2]; exact h1, fun b hb => ?_, fun a S z1 z2 => by rw [f.1 71 (by omega) (by omega) (by omega)]; exact h3 a S z1 z2, fun S t' z1 z2 => by rw [f.1 72 (by omega) (by omega) (by omega)]; exact h4 S t' z1 z2⟩
  rw [f.1 73 (by omega) (by omega) (by omega), f.1 74 (by omega) (by omega) (by omega), f.1 75 (by omega) (by omega) (by omega), f.1 76 (by omega) (by omega) (by omega)]
  exact h2 b hb
theorem fhC {s : bl_S} {nb t m a l b : Nat} {W : Nat → Nat → Nat} {tm : Nat → Nat} {g : Nat → Nat → Nat} (hn : nb ≤ 6) (ht : t ≤ 24) (hW : ∀ a b, W a b ≤ 11) (hg : wmG nb tm g) (htm : ∀ b, b < nb → tm b ≤ 2) (hu : wmU nb g (fun b => uF (g b) 24)) (hC : CT nb t W tm g s) (hm : m < 2 ^ nb) (ha : a < nb ∨ a = 6) (hl : l ≤ t) (hb : b < nb) (hbm : m.testBit b = false) (h12 : s 3 12 = nI m) (h13 : s 3 13 = nI a) (h14 : s 3 14 = nI l) (h15 : s 3 15 = nI (wm nb W tm g m a l)) : ∃ h0, bl_Con (bl_mi 12) [.ref 3, .int (nI b)] s (some (.int (nI h0))) s ∧ h0 ≤ 24 ∧ (∀ h, h < h0 ∨ h0 = 0 → okS nb W tm m a l b h → wmS nb W tm g m a l b h ≠ wm nb W tm g m a l) ∧ (0 < h0 → okS nb W tm m a l b h0 ∧ wmS nb W tm g m a l b h0 = wm nb W tm g m a l) := by
  have p64 := p2_le hn
  have b6 : b < 6 := by omega
  obtain ⟨c1, c2, c3, c4⟩ := id hC
  obtain ⟨m1, m2, m3, m4⟩ := c2 b hb
  obtain ⟨u1, u2, u3⟩ := hu b hb
  have u1 : 1 ≤ uF (g b) 24 := u1
  have u2 : uF (g b) 24 ≤ 24 := u2
  have t1 := hg.1 b hb
  have t2 := htm b hb
  have hw := m4 a ha
  have hWb := hW a b
  have bdM := wm_bd W hg m a l
  -- behind the last useful one: none, if none before
  have more : (∀ h, h ≤ uF (g b) 24 → okS nb W tm m a l b h → wmS nb W tm g m a l b h ≠ wm nb W tm g m a l) → ∀ h, okS nb W tm m a l b h → wmS nb W tm g m a l b h ≠ wm nb W tm g m a l := by
    intro hh h ok e
    rcases Nat.le_total h (uF (g b) 24) with z | z
    · exact hh h z ok e
    · have y1 := ok.2.2.2
      have y2 : h * 1 ≤ h * tm b := Nat.mul_le_mul_left _ t1
      have y3 : uF (g b) 24 * tm b ≤ h * tm b := Nat.mul_le_mul_right _ z
      have ok2 : okS nb W tm m a l b (uF (g b) 24) := ⟨hb, hbm, u1, by omega⟩
      refine hh (uF (g b) 24) (Nat.le_refl _) ok2 ?_
      have w1 := wm_ge hg ok2
      have w2 : wmS nb W tm g m a l b h ≤ wmS nb W tm g m a l b (uF (g b) 24) := by
        unfold wmS
        have e1 := u3 h z (by omega)
        have e2 := wm_mono W hg (m ||| 2 ^ b) b (l := l - (W a b + h * tm b)) (l' := l - (W a b + uF (g b) 24 * tm b)) (by omega)
        have e1 : g b h = g b (uF (g b) 24) := e1
        omega
      omega
  have key : (∀ h, h < 0 + 1 → okS nb W tm m a l b h → wmS nb W tm g m a l b h ≠ wm nb W tm g m a l) → ∃ h0, bl_Wx (bl_mi 12) 29 [(0, .ref 3), (1, .int (nI b)), (2, .int (nI l - nI (W a b + (0 + 1) * tm b))), (3, .int (nI (0 + 1)))] [] s (fun v τ => v = some (.int (nI h0)) ∧ τ = s) ∧ h0 ≤ 24 ∧ (∀ h, h < h0 ∨ h0 = 0 → okS nb W tm m a l b h → wmS nb W tm g m a l b h ≠ wm nb W tm g m a l) ∧ (0 < h0 → okS nb W tm m a l b h0 ∧ wmS nb W tm g m a l b h0 = wm nb W tm g m a l) := by
    refine bl_dn (N := uF (g b) 24) (P := fun k => (∀ h, h < k + 1 → okS nb W tm m a l b h → wmS nb W tm g m a l b h ≠ wm nb W tm g m a l) → ∃ h0, bl_Wx (bl_mi 12) 29 [(0, .ref 3), (1, .int (nI b)), (2, .int (nI l - nI (W a b + (k + 1) * tm b))), (3, .int (nI (k + 1)))] [] s (fun v τ => v = some (.int (nI h0)) ∧ τ = s) ∧ h0 ≤ 24 ∧ (∀ h, h < h0 ∨ h0 = 0 → okS nb W tm m a l b h → wmS nb W tm g m a l b h ≠ wm nb W tm g m a l) ∧ (0 < h0 → okS nb W tm m a l b h0 ∧ wmS nb W tm g m a l b h0 = wm nb W tm g m a l)) ?_ ?_
    · intro hh
      refine ⟨0, vc_X0_fewestHandfuls_29 _ _ _ _ ⟨vib b6, ?_⟩, by omega, fun h _ => more (fun h z => hh h (by omega)) h, fun z => absurd z (Nat.lt_irrefl 0)⟩
      rw [ntb b6, m2]
      exact ⟨fun _ => ⟨rfl, rfl⟩, fun z => absurd (nI_lt (by omega) (by omega)) z⟩
    · intro k hk ih hh
      have hk24 : k < 24 := Nat.lt_of_lt_of_le hk u2
      have z1 : (k + 1) * tm b ≤ (k + 1) * 2 := Nat.mul_le_mul_left _ t2
      by_cases q : W a b + (k + 1) * tm b ≤ l
      · have ok : okS nb W tm m a l b (k + 1) := ⟨hb, hbm, by omega, q⟩
        have ex : nI l - nI (W a b + (k + 1) * tm b) = nI (l - (W a b + (k + 1) * tm b)) := pk_sub q
        have hmb := mbC (s := s) (t := t) (m := m ||| 2 ^ b) (a := b) (l := l - (W a b + (k + 1) * tm b)) hn hW hg hu c1 c3 c4 (by have := or_lt2 hm hb; omega) (Or.inl hb) (by omega) ht
        have e25 : nI b * 25 + nI (k + 1) = nI (b * 25 + (k + 1)) := by rw [show (25 : Int32) = nI 25 from rfl, nI_mul, nI_add]
        have hgk := m1 (k + 1) (by omega) (by omega)
        have hws := wm_ge hg ok
        have esum : nI (g b (k + 1)) + nI (wm nb W tm g (m ||| 2 ^ b) b (l - (W a b + (k + 1) * tm b))) = nI (wmS nb W tm g m a l b (k + 1)) := by rw [nI_add]; rfl
        by_cases e : wmS nb W tm g m a l b (k + 1) = wm nb W tm g m a l
        · refine ⟨k + 1, vc_X0_fewestHandfuls_29 _ _ _ _ ⟨vib b6, ?_⟩, by omega, fun h z => hh h (by omega), fun _ => ⟨ok, e⟩⟩
          rw [ntb b6, m2]
          refine ⟨fun z => absurd z (nI_nlt (by omega) (by omega)), fun _ => ⟨fun z => absurd z (by rw [ex]; exact nI_pos (by omega)), fun _ => ?_⟩⟩
          rw [e25, h12, ex, bit_or m (by omega) b b6, nI_clamp (show b * 25 + (k + 1) < 2 ^ 31 by omega), hgk]
          refine ⟨vp_in_nI (by omega) (by omega), _, s, hmb, ?_⟩
          rw [esum, h15, e]
          exact ⟨fun _ => ⟨rfl, rfl⟩, fun z => absurd rfl z⟩
        · obtain ⟨h0, hW0, r1, r2, r3⟩ := ih (fun h z okh => by
            by_cases eh : h = k + 1
            · rw [eh]
              exact e
            · exact hh h (by omega) okh)
          refine ⟨h0, vc_X0_fewestHandfuls_29 _ _ _ _ ⟨vib b6, ?_⟩, r1, r2, r3⟩
          rw [ntb b6, m2]
          refine ⟨fun z => absurd z (nI_nlt (by omega) (by omega)), fun _ => ⟨fun z => absurd z (by rw [ex]; exact nI_pos (by omega)), fun _ => ?_⟩⟩
          have ex8 : nI l - nI (W a b + (k + 1) * tm b) - nI (tm b) = nI l - nI (W a b + (k + 1 + 1) * tm b) := by
            rw [i_ss, nI_add, show W a b + (k + 1) * tm b + tm b = W a b + (k + 1 + 1) * tm b by rw [Nat.succ_mul (k + 1)]; omega]
          rw [e25, h12, ex, bit_or m (by omega) b b6, nI_clamp (show b * 25 + (k + 1) < 2 ^ 31 by omega), hgk]
          refine ⟨vp_in_nI (by omega) (by omega), _, s, hmb, ?_⟩
          rw [esum, h15, nI_1, m3, ← ex, ex8]
          exact ⟨fun z => absurd ((nI_eq (by omega) (by omega)).mp z) e, fun _ => hW0⟩
      · refine ⟨0, vc_X0_fewestHandfuls_29 _ _ _ _ ⟨vib b6, ?_⟩, by omega, fun h _ ok => ?_, fun z => absurd z (Nat.lt_irrefl 0)⟩
        · rw [ntb b6, m2]
          exact ⟨fun _ => ⟨rfl, rfl⟩, fun _ => ⟨fun _ => ⟨rfl, rfl⟩, fun z => absurd (pk_sneg (by omega) (by omega)) z⟩⟩
        · rcases Nat.lt_or_ge h (k + 1) with y | y
          · exact hh h y ok
          · have y1 := ok.2.2.2
            have y2 : (k + 1) * tm b ≤ h * tm b := Nat.mul_le_mul_right _ y
            omega
  obtain ⟨h0, hW0, r1, r2, r3⟩ := key (fun h z ok => by have := ok.2.2.1; omega)
  refine ⟨h0, bl_c (Nat.le_of_ble_eq_true rfl) (vc_X0_fewestHandfuls_0 s _ ?_), r1, r2, r3⟩
  have e6 : nI a * 6 + nI b = nI (a * 6 + b) := by rw [show (6 : Int32) = nI 6 from rfl, nI_mul, nI_add]
  rw [h13, h14, e6, nI_clamp (show a * 6 + b < 2 ^ 31 by omega), ntb b6, hw, m3]
  refine ⟨vp_in_nI (by omega) (by omega), vib b6, fun v1 e1 => ?_⟩
  rw [e1, i_ss, nI_add]
  rw [show W a b + (0 + 1) * tm b = W a b + tm b by omega] at hW0
  exact hW0
/-- behind k stops the class has .. -/
def SI (nb t k : Nat) (W : Nat → Nat → Nat) (tm : Nat → Nat) (g : Nat → Nat → Nat) (s : bl_S) : Prop := s 3 1 = nI k ∧ s 3 12 = nI (sqn nb W tm g t k).1 ∧ s 3 13 = nI (sqn nb W tm g t k).2.1 ∧ s 3 14 = nI (sqn nb W tm g t k).2.2.1 ∧ s 3 15 = nI (wmq nb W tm g t k) ∧ ∀ j, j < k → s 69 j = nI (sqn nb W tm g t (j + 1)).2.1 ∧ s 70 j = nI (sqn nb W tm g t (j + 1)).2.2.2
theorem fnC {s : bl_S} {nb t k : Nat} {W : Nat → Nat → Nat} {tm : Nat → Nat} {g : Nat → Nat → Nat} (hn : nb ≤ 6) (ht : t ≤ 24) (hW : ∀ a b, W a b ≤ 11) (hg : wmG nb tm g) (htm : ∀ b, b < nb → tm b ≤ 2) (hu : wmU nb g (fun b => uF (g b) 24)) (hC : CT nb t W tm g s) (hS : SI nb t k W tm g s) (hk : k < nb) (hpos : ∀ j, j < k + 1 → 0 < wmq nb W tm g t j) : ∃ τ, (SF s τ ∧ SI nb t (k + 1) W tm g τ) ∧ bl_Con (bl_mi 14) [.ref 3] s none τ := by
  obtain ⟨q1, q2, q3, q4⟩ := sqn_ok hg k (fun j hj => hpos j (by omega))
  have hN := nxt_N hg (hpos k (by omega))
  obtain ⟨s1, s2, s3, s4, s5, s6⟩ := hS
  obtain ⟨c1, c2, c3, c4⟩ := id hC
  have esq : sqn nb W tm g t (k + 1) = ((sqn nb W tm g t k).1 ||| 2 ^ (nxt nb W tm g (sqn nb W tm g t k)).1, (nxt nb W tm g (sqn nb W tm g t k)).1, (sqn nb W tm g t k).2.2.1 - (W (sqn nb W tm g t k).2.1 (nxt nb W tm g (sqn nb W tm g t k)).1 + (nxt nb W tm g (sqn nb W tm g t k)).2 * tm (nxt nb W tm g (sqn nb W tm g t k)).1), (nxt nb W tm g (sqn nb W tm g t k)).2) := rfl
  have ewm : wmq nb W tm g t (k + 1) = wm nb W tm g ((sqn nb W tm g t k).1 ||| 2 ^ (nxt nb W tm g (sqn nb W tm g t k)).1) (nxt nb W tm g (sqn nb W tm g t k)).1 ((sqn nb W tm g t k).2.2.1 - (W (sqn nb W tm g t k).2.1 (nxt nb W tm g (sqn nb W tm g t k)).1 + (nxt nb W tm g (sqn nb W tm g t k)).2 * tm (nxt nb W tm g (sqn nb W tm g t k)).1)) := rfl
  have ewk : wmq nb W tm g t k = wm nb W tm g (sqn nb W tm g t k).1 (sqn nb W tm g t k).2.1 (sqn nb W tm g t k).2.2.1 := rfl
  unfold SI
  rw [ewm, esq]
  rw [ewk] at s5
  generalize (sqn nb W tm g t k).1 = m at *
  generalize (sqn nb W tm g t k).2.1 = a at *
  generalize (sqn nb W tm g t k).2.2.1 = l at *
  generalize (nxt nb W tm g (sqn nb W tm g t k)).1 = b at *
  generalize (nxt nb W tm g (sqn nb W tm g t k)).2 = h at *
  obtain ⟨ok, he, hmin⟩ := hN
  have hb := ok.1
  have b6 : b < 6 := by omega
  have p64 := p2_le hn
  have hfit := ok.2.2.2
  have y2 : h * 1 ≤ h * tm b := Nat.mul_le_mul_left _ (hg.1 b hb)
  have h24 : h ≤ 24 := by omega
  have h1 := ok.2.2.1
  have bdM := wm_bd W hg m a l
  obtain ⟨m1, m2, m3, m4⟩ := c2 b hb
  have hw := m4 a q2
  -- the stop is added
  have e6 : nI a * 6 + nI b = nI (a * 6 + b) := by rw [show (6 : Int32) = nI 6 from rfl, nI_mul, nI_add]
  have e25 : nI b * 25 + nI h = nI (b * 25 + h) := by rw [show (25 : Int32) = nI 25 from rfl, nI_mul, nI_add]
  obtain ⟨w1, ew1⟩ : ∃ w1, w1 = bl_up (bl_up (bl_up s 69 k (nI b)) 70 k (nI h)) 3 1 (nI (k + 1)) := ⟨_, rfl⟩
  obtain ⟨τ, eτ⟩ : ∃ τ, τ = bl_up (bl_up (bl_up (bl_up w1 3 14 (nI (l - (W a b + h * tm b)))) 3 15 (nI (wm nb W tm g (m ||| 2 ^ b) b (l - (W a b + h * tm b))))) 3 12 (nI (m ||| 2 ^ b))) 3 13 (nI b) := ⟨_, rfl⟩
  have w1c : ∀ d, d ≠ 3 → d ≠ 69 → d ≠ 70 → w1 d = s d := fun d z1 z2 z3 => by rw [ew1, bl_up_ne z1, bl_up_ne z3, bl_up_ne z2]
  have w13 : ∀ j, j ≠ 1 → w1 3 j = s 3 j := fun j z => by rw [ew1, bl_up_j z, bl_up_c (by omega), bl_up_c (by omega)]
  have tc : ∀ d, d ≠ 3 → τ d = w1 d := fun d z => by rw [eτ, bl_up_ne z, bl_up_ne z, bl_up_ne z, bl_up_ne z]
  have hadd : bl_Con (bl_mi 13) [.ref 3, .int (nI b), .int (nI h)] s none τ := by
    refine bl_c (Nat.le_of_ble_eq_true rfl) (vc_X0_addStop_0 s _ _ ⟨fun _ => ?_, fun σ3 e3 => ?_⟩)
    · rw [s1]
      exact vp_in_nI (by omega) (by omega)
    · rw [s1, if_pos (show nI k < (6 : Int32) from nI_lt (b := 6) (by omega) (by omega)), nI_clamp (show k < 2 ^ 31 by omega), nI_1, ← ew1] at e3
      rw [e3, w13 13 (by omega), s3, e6, nI_clamp (show a * 6 + b < 2 ^ 31 by omega), ntb b6, w1c 76 (by omega) (by omega) (by omega), w1c 75 (by omega) (by omega) (by omega), hw, m3, w13 14 (by omega), s4, e25, nI_clamp (show b * 25 + h < 2 ^ 31 by omega), w1c 73 (by omega) (by omega) (by omega), m1 h h1 h24, w13 15 (by omega), s5, w13 12 (by omega), s2, bit_or m (by omega) b b6]
      refine ⟨vp_in_nI (by omega) (by omega), vib b6, fun v5 e5 => ⟨vp_in_nI (by omega) (by omega), fun v7 e7 v9 e9 => ⟨rfl, ?_⟩⟩⟩
      rw [nI_mul, nI_add, pk_sub hfit] at e5
      have e7' : v7 = nI (wm nb W tm g (m ||| 2 ^ b) b (l - (W a b + h * tm b))) := by
        rw [e7, ← he]
        unfold wmS
        rw [pk_sub (by omega)]
        congr 1
        omega
      rw [e5, e7', e9, eτ]
  have hSF : SF s τ := by
    refine ⟨fun d z1 z2 z3 => by rw [tc d z1, w1c d z1 z2 z3], ?_⟩
    rw [eτ, bl_up_j (by omega), bl_up_j (by omega), bl_up_j (by omega), bl_up_j (by omega), w13 11 (by omega)]
  have hSI : τ 3 1 = nI (k + 1) ∧ τ 3 12 = nI (m ||| 2 ^ b) ∧ τ 3 13 = nI b ∧ τ 3 14 = nI (l - (W a b + h * tm b)) ∧ τ 3 15 = nI (wm nb W tm g (m ||| 2 ^ b) b (l - (W a b + h * tm b))) := by
    refine ⟨?_, ?_, ?_, ?_, ?_⟩
    · rw [eτ, bl_up_j (by omega), bl_up_j (by omega), bl_up_j (by omega), bl_up_j (by omega), ew1, bl_up_s]
    · rw [eτ, bl_up_j (by omega), bl_up_s]
    · rw [eτ, bl_up_s]
    · rw [eτ, bl_up_j (by omega), bl_up_j (by omega), bl_up_j (by omega), bl_up_s]
    · rw [eτ, bl_up_j (by omega), bl_up_j (by omega), bl_up_s]
  refine ⟨τ, ⟨hSF, hSI.1, hSI.2.1, hSI.2.2.1, hSI.2.2.2.1, hSI.2.2.2.2, fun j hj => ?_⟩, bl_c (Nat.le_of_ble_eq_true rfl) (vc_X0_findNextStop_0 s ?_)⟩
  · have t69 : τ 69 j = bl_up s 69 k (nI b) 69 j := by rw [tc 69 (by omega), ew1, bl_up_c (by omega), bl_up_c (by omega)]
    have t70 : τ 70 j = bl_up (bl_up s 69 k (nI b)) 70 k (nI h) 70 j := by rw [tc 70 (by omega), ew1, bl_up_c (by omega)]
    rw [t69, t70]
    by_cases e : j = k
    · subst e
      rw [bl_up_s, bl_up_s, esq]
      exact ⟨rfl, rfl⟩
    · rw [bl_up_j e, bl_up_j e, bl_up_c (by omega)]
      exact s6 j (by omega)
  -- the search for it
  · refine bl_dn (N := b) (P := fun c => bl_Wx (bl_mi 14) 2 [(0, .ref 3), (1, .int (nI c))] [] s (fun v u => v = none ∧ u = τ)) ?_ ?_
    · obtain ⟨h0, hf, r1, r2, r3⟩ := fhC hn ht hW hg htm hu hC q1 q2 q3 hb ok.2.1 s2 s3 s4 s5
      have h0p : 0 < h0 := by
        rcases Nat.eq_zero_or_pos h0 with z | z
        · exact absurd he (r2 h (Or.inr z) ok)
        · exact z
      have heq : h0 = h := by
        have r3 := r3 h0p
        have := hmin b h0 r3.1 r3.2
        rcases Nat.lt_or_ge h h0 with z | z
        · exact absurd he (r2 h (Or.inl z) ok)
        · omega
      rw [heq] at hf
      have hbit : ((nI m >>> (nI b &&& 31)) &&& 1) = 0 := by
        have z : ¬ ((nI m >>> (nI b &&& 31)) &&& 1 = 1) := fun z => by
          have := (bit_tst (by omega) b6).mp z
          rw [ok.2.1] at this
          cases this
        obtain ⟨j, j1, j2⟩ := pk_andE (nI m >>> (nI b &&& 31)) (m := 1) 1 (by decide)
        rw [j2] at z ⊢
        rcases (show j = 0 ∨ j = 1 by omega) with e | e
        · rw [e]
          rfl
        · rw [e] at z
          exact absurd rfl z
      refine vc_X0_findNextStop_2 _ _ ⟨fun _ => ⟨fun _ => ⟨_, _, hf, fun _ => ⟨_, hadd, rfl, rfl⟩, fun z => absurd ?_ z⟩, fun z => absurd ?_ z⟩, fun z => absurd ?_ z⟩
      · rw [show (0 : Int32) = nI 0 from rfl]
        exact nI_lt (by omega) (by omega)
      · rw [s2]
        exact hbit
      · rw [c1]
        exact nI_lt hb (by omega)
    · intro c hc ih
      have c6 : c < 6 := by omega
      have lt : nI c < s 3 11 := by
        rw [c1]
        exact nI_lt (by omega) (by omega)
      by_cases tb : m.testBit c = true
      · have hb1 := (bit_tst (m := m) (b := c) (by omega) c6).mpr tb
        refine vc_X0_findNextStop_2 _ _ ⟨fun _ => ⟨fun z => ?_, fun _ => by rw [nI_1]; exact ih⟩, fun z => absurd lt z⟩
        rw [s2, hb1] at z
        exact absurd z (by decide)
      · have tbf : m.testBit c = false := by
          cases hc2 : m.testBit c with
          | false => rfl
          | true => exact absurd hc2 tb
        obtain ⟨h0, hf, r1, r2, r3⟩ := fhC hn ht hW hg htm hu hC q1 q2 q3 (show c < nb by omega) tbf s2 s3 s4 s5
        have h00 : h0 = 0 := by
          rcases Nat.eq_zero_or_pos h0 with z | z
          · exact z
          · have r3 := r3 z
            have := hmin c h0 r3.1 r3.2
            omega
        rw [h00] at hf
        exact vc_X0_findNextStop_2 _ _ ⟨fun _ => ⟨fun _ => ⟨_, _, hf, fun z => absurd z (by decide), fun _ => by rw [nI_1]; exact ih⟩, fun _ => by rw [nI_1]; exact ih⟩, fun z => absurd lt z⟩
theorem stC {s : bl_S} {nb t : Nat} {W : Nat → Nat → Nat} {tm : Nat → Nat} {g : Nat → Nat → Nat} (hn : nb ≤ 6) (ht : t ≤ 24) (hW : ∀ a b, W a b ≤ 11) (hg : wmG nb tm g) (htm : ∀ b, b < nb → tm b ≤ 2) (hu : wmU nb g (fun b => uF (g b) 24)) (hC : CT nb t W tm g s) (h0 : s 3 0 = nI (wm nb W tm g 0 6 t)) : ∃ K τ, (K ≤ nb ∧ wmq nb W tm g t K = 0 ∧ (∀ j, j < K → 0 < wmq nb W tm g t j) ∧ SF s τ ∧ SI nb t K W tm g τ) ∧ bl_Con (bl_mi 15) [.ref 3, .int (nI t)] s none τ := by
  have key : ∀ s', SF s s' → SI nb t 0 W tm g s' → (∀ j, j < 0 → 0 < wmq nb W tm g t j) → ∃ K τ, (K ≤ nb ∧ wmq nb W tm g t K = 0 ∧ (∀ j, j < K → 0 < wmq nb W tm g t j) ∧ SF s τ ∧ SI nb t K W tm g τ) ∧ bl_Wx (bl_mi 15) 31 [(0, .ref 3), (1, .int (nI t)), (2, .int (nI 0))] [] s' (fun v u => v = none ∧ u = τ) := by
    refine bl_dn (N := nb) (P := fun k => ∀ s', SF s s' → SI nb t k W tm g s' → (∀ j, j < k → 0 < wmq nb W tm g t j) → ∃ K τ, (K ≤ nb ∧ wmq nb W tm g t K = 0 ∧ (∀ j, j < K → 0 < wmq nb W tm g t j) ∧ SF s τ ∧ SI nb t K W tm g τ) ∧ bl_Wx (bl_mi 15) 31 [(0, .ref 3), (1, .int (nI t)), (2, .int (nI k))] [] s' (fun v u => v = none ∧ u = τ)) ?_ ?_
    · intro s' hF hS hp
      refine ⟨nb, s', ⟨Nat.le_refl _, sqn_end hg hp, hp, hF, hS⟩, vc_X0_findStops_31 _ _ _ ⟨fun z => absurd z ?_, fun _ => ⟨rfl, rfl⟩⟩⟩
      rw [hF.2, hC.1]
      exact nI_nlt (Nat.le_refl _) (by omega)
    · intro k hk ih s' hF hS hp
      have lt : nI k < s' 3 11 := by
        rw [hF.2, hC.1]
        exact nI_lt hk (by omega)
      have bd : wmq nb W tm g t k ≤ 480 := by
        have h1 := wm_bd W hg (sqn nb W tm g t k).1 (sqn nb W tm g t k).2.1 (sqn nb W tm g t k).2.2.1
        have h2 := (sqn_ok hg k hp).2.2.1
        have h3 : wmq nb W tm g t k = wm nb W tm g (sqn nb W tm g t k).1 (sqn nb W tm g t k).2.1 (sqn nb W tm g t k).2.2.1 := rfl
        omega
      rcases Nat.eq_zero_or_pos (wmq nb W tm g t k) with z | z
      · refine ⟨k, s', ⟨by omega, z, hp, hF, hS⟩, vc_X0_findStops_31 _ _ _ ⟨fun _ => ⟨fun w => ?_, fun _ => ⟨rfl, rfl⟩⟩, fun w => absurd lt w⟩⟩
        rw [hS.2.2.2.2.1, z] at w
        exact absurd w (by decide)
      · have hp' : ∀ j, j < k + 1 → 0 < wmq nb W tm g t j := fun j hj => by
          by_cases e : j = k
          · rw [e]
            exact z
          · exact hp j (by omega)
        obtain ⟨τ1, ⟨f1, f2⟩, hC1⟩ := fnC hn ht hW hg htm hu (hC.sf hF) hS hk hp'
        obtain ⟨K, τ, hP, hW'⟩ := ih τ1 ⟨fun d z1 z2 z3 => by rw [f1.1 d z1 z2 z3]; exact hF.1 d z1 z2 z3, by rw [f1.2]; exact hF.2⟩ f2 hp'
        refine ⟨K, τ, hP, vc_X0_findStops_31 _ _ _ ⟨fun _ => ⟨fun _ => ⟨_, hC1, by rw [nI_1]; exact hW'⟩, fun w => absurd ?_ w⟩, fun w => absurd lt w⟩⟩
        rw [hS.2.2.2.2.1, show (0 : Int32) = nI 0 from rfl]
        exact nI_lt z (by omega)
  obtain ⟨K, τ, hP, hW'⟩ := key (bl_up (bl_up (bl_up (bl_up (bl_up s 3 1 0) 3 12 0) 3 13 6) 3 14 (nI t)) 3 15 (s 3 0)) ⟨fun d z1 _ _ => by rw [bl_up_ne z1, bl_up_ne z1, bl_up_ne z1, bl_up_ne z1, bl_up_ne z1], by rw [bl_up_j (by omega), bl_up_j (by omega), bl_up_j (by omega), bl_up_j (by omega), bl_up_j (by omega)]⟩ ⟨by rw [bl_up_j (by omega), bl_up_j (by omega), bl_up_j (by omega), bl_up_j (by omega), bl_up_s]; rfl, by rw [bl_up_j (by omega), bl_up_j (by omega), bl_up_j (by omega), bl_up_s]; rfl, by rw [bl_up_j (by omega), bl_up_j (by omega), bl_up_s]; rfl, by rw [bl_up_j (by omega), bl_up_s]; rfl, by rw [bl_up_s, h0]; rfl, fun j hj => by omega⟩ (fun j hj => by omega)
  exact ⟨K, τ, hP, bl_c (Nat.le_of_ble_eq_true rfl) (vc_X0_findStops_0 s _ hW')⟩
