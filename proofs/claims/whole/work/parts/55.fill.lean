/-! BEST WAY: the class's tables -/
theorem bit_xor : ∀ m, m < 64 → ∀ b, b < 6 → nI m ^^^ ((1 : Int32) <<< (nI b &&& 31)) = nI (m ^^^ 2 ^ b) := by decide +kernel
theorem bit_shl : ∀ b, b < 7 → ((1 : Int32) <<< (nI b &&& 31)) = nI (2 ^ b) := by decide +kernel
theorem xor_64 : ∀ m, m < 64 → ∀ b, b < 6 → m ^^^ 2 ^ b < 64 := by decide +kernel
theorem or_add : ∀ b, b < 6 → ∀ m, m < 64 → m < 2 ^ b → m ||| 2 ^ b = m + 2 ^ b := by decide +kernel
theorem p2_le {n : Nat} (h : n ≤ 6) : 2 ^ n ≤ 64 := Nat.pow_le_pow_right (n := 2) (by omega) h
theorem iv_p {u : Nat} (h : 0 < u) : iv u = nI (u - 1) := if_neg (by omega)
theorem iv_0 : iv 0 = -1 := rfl
theorem iv_m1 {u : Nat} (hu : u < 2 ^ 30) : iv u = -1 ↔ u = 0 := by
  unfold iv
  by_cases h : u = 0
  · rw [if_pos h]
    exact ⟨fun _ => h, fun _ => rfl⟩
  · rw [if_neg h]
    refine ⟨fun e => ?_, fun e => absurd e h⟩
    have := nI_pos (n := u - 1) (by omega)
    rw [e] at this
    exact absurd (by decide) this
/-- the tables below k: of a set the shortest way from a -/
def TSh (nb k : Nat) (W : Nat → Nat → Nat) (s : bl_S) : Prop := ∀ a S, a < nb ∨ a = 6 → S < k → s 71 (a * 64 + S) = nI (sh nb W a S)
def TWy (nb : Nat) (W : Nat → Nat → Nat) (s : bl_S) : Prop := ∀ a b, a < nb ∨ a = 6 → b < nb → s 76 (a * 6 + b) = nI (W a b)
theorem sh_bd {nb : Nat} {W : Nat → Nat → Nat} (hW : ∀ a b, W a b ≤ 11) (a S : Nat) : sh nb W a S ≤ 704 := shF_bd hW 64 a S
def FSh (nb S : Nat) (W : Nat → Nat → Nat) (s τ : bl_S) : Prop := (∀ d, d ≠ 71 → τ d = s d) ∧ (∀ a S', S' < 64 → S' ≠ S → τ 71 (a * 64 + S') = s 71 (a * 64 + S')) ∧ ∀ a, a < nb ∨ a = 6 → τ 71 (a * 64 + S) = nI (sh nb W a S)
theorem mnF_bd {f : Nat → Nat} {S B : Nat} (n : Nat) (h : ∀ b, b < n → f b ≤ B) : mnF f S n ≤ B + 1 := by
  rcases Nat.eq_zero_or_pos (mnF f S n) with z | z
  · omega
  · obtain ⟨b, h1, -, e⟩ := mnF_at n z
    have := h b h1
    omega
theorem fsC {s0 : bl_S} {nb S : Nat} {W : Nat → Nat → Nat} (hn : nb ≤ 6) (hW : ∀ a b, W a b ≤ 11) (hS : S < 2 ^ nb) (hS0 : S ≠ 0) (h11 : s0 3 11 = nI nb) (hw : TWy nb W s0) (ht : TSh nb S W s0) : ∃ τ, FSh nb S W s0 τ ∧ bl_Con (bl_mi 8) [.ref 3, .int (nI S)] s0 none τ := by
  have S64 : S < 64 := by have := p2_le hn; omega
  obtain ⟨c0, hc0⟩ := tb_ex hS0
  have hcn : c0 < nb := by
    rcases Nat.lt_or_ge c0 nb with z | z
    · exact z
    · have h2 : S < 2 ^ c0 := Nat.lt_of_lt_of_le hS (Nat.pow_le_pow_right (n := 2) (by omega) z)
      rw [Nat.testBit_lt_two_pow h2] at hc0
      cases hc0
  have key : ∀ s : bl_S, ((∀ d, d ≠ 71 → s d = s0 d) ∧ (∀ a S', S' < 64 → S' ≠ S → s 71 (a * 64 + S') = s0 71 (a * 64 + S')) ∧ ∀ a, a < nb ∨ a = 6 → a < 0 → s 71 (a * 64 + S) = nI (sh nb W a S)) → EvN (bl_mi 8) 2 [(0, .ref 3), (1, .int (nI S)), (2, .int (nI 0))] s (FSh nb S W s0) := by
    refine bl_dn (N := 7) (P := fun m => ∀ s : bl_S, ((∀ d, d ≠ 71 → s d = s0 d) ∧ (∀ a S', S' < 64 → S' ≠ S → s 71 (a * 64 + S') = s0 71 (a * 64 + S')) ∧ ∀ a, a < nb ∨ a = 6 → a < m → s 71 (a * 64 + S) = nI (sh nb W a S)) → EvN (bl_mi 8) 2 [(0, .ref 3), (1, .int (nI S)), (2, .int (nI m))] s (FSh nb S W s0)) ?_ ?_
    · intro s ⟨h1, h2, h3⟩
      exact ⟨s, ⟨h1, h2, fun a ha => h3 a ha (by omega)⟩, vc_X0_fillShortest_2 _ _ _ ⟨fun _ => ⟨rfl, rfl⟩, fun z => absurd (by decide) z⟩⟩
    · intro m hm ih s ⟨h1, h2, h3⟩
      have inner : ∀ x3 : Int32, (m < nb ∨ m = 6 → x3 = iv (mnF (fun b => W m b + sh nb W b (S ^^^ 2 ^ b)) S 0)) → EvN (bl_mi 8) 13 [(0, .ref 3), (1, .int (nI S)), (2, .int (nI m)), (3, .int x3), (4, .int (nI 0))] s (FSh nb S W s0) := by
        refine bl_dn (N := nb) (P := fun k => ∀ x3 : Int32, (m < nb ∨ m = 6 → x3 = iv (mnF (fun b => W m b + sh nb W b (S ^^^ 2 ^ b)) S k)) → EvN (bl_mi 8) 13 [(0, .ref 3), (1, .int (nI S)), (2, .int (nI m)), (3, .int x3), (4, .int (nI k))] s (FSh nb S W s0)) ?_ ?_
        · intro x3 hx
          have ex : nI m * 64 + nI S = nI (m * 64 + S) := by rw [show (64 : Int32) = nI 64 from rfl, nI_mul, nI_add]
          obtain ⟨τ, hP, hW'⟩ := ih (bl_up s 71 (m * 64 + S) x3) ⟨fun d hd => by rw [bl_up_ne hd, h1 d hd], fun a S' z1 z2 => by rw [bl_up_j (by omega)]; exact h2 a S' z1 z2, fun a ha z => by
            by_cases e : a = m
            · subst e
              rw [bl_up_s, hx ha, sh_eq hn S64, iv_p (mnF_le hc0 nb hcn).2]
            · rw [bl_up_j (by omega)]
              exact h3 a ha (by omega)⟩
          refine ⟨τ, hP, vc_X0_fillShortest_13 _ _ _ _ _ ⟨fun z => absurd z ?_, fun _ => ⟨?_, ?_⟩⟩⟩
          · rw [h1 3 (by omega), h11]
            exact nI_nlt (Nat.le_refl _) (by omega)
          · rw [ex]
            exact vp_in_nI (by omega) (by omega)
          · rw [ex, nI_clamp (show m * 64 + S < 2 ^ 31 by omega), nI_1]
            exact hW'
        · intro k hk ihk x3 hx
          have k6 : k < 6 := by omega
          have x64 := xor_64 S S64 k k6
          have ex1 : nI m * 6 + nI k = nI (m * 6 + k) := by rw [show (6 : Int32) = nI 6 from rfl, nI_mul, nI_add]
          have ex2 : nI k * 64 + (nI S ^^^ ((1 : Int32) <<< (nI k &&& 31))) = nI (k * 64 + (S ^^^ 2 ^ k)) := by rw [bit_xor S S64 k k6, show (64 : Int32) = nI 64 from rfl, nI_mul, nI_add]
          have lt : nI k < s 3 11 := by
            rw [h1 3 (by omega), h11]
            exact nI_lt hk (by omega)
          by_cases tb : S.testBit k = true
          · have xl := xor_lt S S64 k k6 tb
            have hv : m < nb ∨ m = 6 → s 76 (m * 6 + k) + s 71 (k * 64 + (S ^^^ 2 ^ k)) = nI (W m k + sh nb W k (S ^^^ 2 ^ k)) := fun hm' => by
              rw [h1 76 (by omega), hw m k hm' hk, h2 k _ x64 (by omega), ht k (S ^^^ 2 ^ k) (Or.inl hk) xl, nI_add]
            obtain ⟨v, ev⟩ : ∃ v, v = (if x3 = -1 then s 76 (m * 6 + k) + s 71 (k * 64 + (S ^^^ 2 ^ k)) else if s 76 (m * 6 + k) + s 71 (k * 64 + (S ^^^ 2 ^ k)) < x3 then s 76 (m * 6 + k) + s 71 (k * 64 + (S ^^^ 2 ^ k)) else x3) := ⟨_, rfl⟩
            obtain ⟨τ, hP, hW'⟩ := ihk v (fun hm' => by
              rw [ev, hv hm', hx hm']
              have bd1 : W m k + sh nb W k (S ^^^ 2 ^ k) ≤ 715 := by have := hW m k; have := sh_bd (nb := nb) hW k (S ^^^ 2 ^ k); omega
              have bd2 := mnF_bd (f := fun b => W m b + sh nb W b (S ^^^ 2 ^ b)) (S := S) (B := 715) k (fun b _ => by have := hW m b; have := sh_bd (nb := nb) hW b (S ^^^ 2 ^ b); show W m b + sh nb W b (S ^^^ 2 ^ b) ≤ 715; omega)
              have em : mnF (fun b => W m b + sh nb W b (S ^^^ 2 ^ b)) S (k + 1) = (if mnF (fun b => W m b + sh nb W b (S ^^^ 2 ^ b)) S k = 0 then W m k + sh nb W k (S ^^^ 2 ^ k) + 1 else if W m k + sh nb W k (S ^^^ 2 ^ k) + 1 < mnF (fun b => W m b + sh nb W b (S ^^^ 2 ^ b)) S k then W m k + sh nb W k (S ^^^ 2 ^ k) + 1 else mnF (fun b => W m b + sh nb W b (S ^^^ 2 ^ b)) S k) := if_pos tb
              rw [em]
              generalize mnF (fun b => W m b + sh nb W b (S ^^^ 2 ^ b)) S k = u at *
              generalize W m k + sh nb W k (S ^^^ 2 ^ k) = w at *
              by_cases z : u = 0
              · rw [if_pos ((iv_m1 (by omega)).mpr z), if_pos z, iv_p (by omega)]
                rfl
              · rw [if_neg (fun e => z ((iv_m1 (by omega)).mp e)), if_neg z]
                have e1 : nI w = iv (w + 1) := by rw [iv_p (by omega)]; rfl
                rw [e1]
                by_cases y : w + 1 < u
                · rw [if_pos ((iv_lt (by omega) (by omega)).mpr y), if_pos y]
                · rw [if_neg (fun e => y ((iv_lt (by omega) (by omega)).mp e)), if_neg y])
            refine ⟨τ, hP, vc_X0_fillShortest_13 _ _ _ _ _ ⟨fun _ => ⟨fun _ => ⟨?_, ?_⟩, fun v7 e7 => ?_⟩, fun z => absurd lt z⟩⟩
            · rw [ex1]
              exact vp_in_nI (by omega) (by omega)
            · rw [ex2]
              exact vp_in_nI (by omega) (by omega)
            · rw [if_pos ((bit_tst S64 k6).mpr tb), ex1, ex2, nI_clamp (show m * 6 + k < 2 ^ 31 by omega), nI_clamp (show k * 64 + (S ^^^ 2 ^ k) < 2 ^ 31 by omega), ← ev] at e7
              rw [e7, nI_1]
              exact hW'
          · obtain ⟨τ, hP, hW'⟩ := ihk x3 (fun hm' => by
              rw [hx hm']
              have em : mnF (fun b => W m b + sh nb W b (S ^^^ 2 ^ b)) S (k + 1) = mnF (fun b => W m b + sh nb W b (S ^^^ 2 ^ b)) S k := if_neg tb
              rw [em])
            refine ⟨τ, hP, vc_X0_fillShortest_13 _ _ _ _ _ ⟨fun _ => ⟨fun z => absurd ((bit_tst S64 k6).mp z) tb, fun v7 e7 => ?_⟩, fun z => absurd lt z⟩⟩
            rw [if_neg (fun z => tb ((bit_tst S64 k6).mp z))] at e7
            rw [e7, nI_1]
            exact hW'
      obtain ⟨τ, hP, hW'⟩ := inner (-1) (fun _ => rfl)
      refine ⟨τ, hP, vc_X0_fillShortest_2 _ _ _ ⟨fun z => absurd z ?_, fun _ => hW'⟩⟩
      rw [show (6 : Int32) = nI 6 from rfl]
      exact nI_nlt (by omega) (by omega)
  obtain ⟨τ, hP, hW'⟩ := key s0 ⟨fun _ _ => rfl, fun _ _ _ _ => rfl, fun a _ z => by omega⟩
  exact ⟨τ, hP, bl_c (Nat.le_of_ble_eq_true rfl) (vc_X0_fillShortest_0 s0 _ hW')⟩
/-! what is gathered -/
theorem gaF_low {tm u : Nat → Nat} {g : Nat → Nat → Nat} {S b : Nat} (h : S < 2 ^ b) : ∀ n t, b ≤ n → gaF tm u g S n t = gaF tm u g S b t
  | 0, t, hb => by rw [show b = 0 by omega]
  | n + 1, t, hb => by
    by_cases e : b = n + 1
    · rw [e]
    · have h2 : S < 2 ^ n := Nat.lt_of_lt_of_le h (Nat.pow_le_pow_right (n := 2) (by omega) (by omega))
      show (if S.testBit n then _ else gaF tm u g S n t) = _
      rw [Nat.testBit_lt_two_pow h2, if_neg (by decide)]
      exact gaF_low h n t (by omega)
theorem gaF_top {tm u : Nat → Nat} {g : Nat → Nat → Nat} {L b nb t : Nat} (h : L < 2 ^ b) (hb : b < nb) : gaF tm u g (L ||| 2 ^ b) nb t = gx (fun t => gaF tm u g L nb t) (tm b) (g b) t (u b) := by
  have h1 : L ||| 2 ^ b < 2 ^ (b + 1) := Nat.or_lt_two_pow (Nat.lt_of_lt_of_le h (Nat.pow_le_pow_right (n := 2) (by omega) (by omega))) (Nat.pow_lt_pow_right (by omega) (by omega))
  rw [gaF_low h1 nb t (by omega)]
  show (if (L ||| 2 ^ b).testBit b then gx (gaF tm u g (L ||| 2 ^ b) b) (tm b) (g b) t (u b) else _) = _
  rw [tb_or, if_pos rfl, if_pos rfl]
  have e : gaF tm u g (L ||| 2 ^ b) b = fun t => gaF tm u g L nb t := by
    rw [gaF_congr (S' := L) b (fun k hk => by rw [tb_or, if_neg (by omega)])]
    funext t
    rw [gaF_low h nb t (by omega)]
  rw [e]
theorem gx_bd {F : Nat → Nat} {tm t B : Nat} {gb : Nat → Nat} (ht1 : 1 ≤ tm) (ht : t ≤ 24) (hgb : ∀ h, gb h ≤ 20 * h) (hF : ∀ t', F t' ≤ B) (k : Nat) : gx F tm gb t k ≤ 480 + B := by
  rcases Nat.eq_zero_or_pos (gx F tm gb t k) with z | z
  · omega
  · obtain ⟨h, h1, h2, h3, h4, h5⟩ := gx_at k z
    have a1 := hgb h
    have a2 := hF (t - h * tm)
    have a3 : h * 1 ≤ h * tm := Nat.mul_le_mul_left _ ht1
    omega
theorem gx_0 {F : Nat → Nat} {tm t : Nat} {gb : Nat → Nat} : gx F tm gb t 0 = 0 := rfl
theorem gaF_z {tm u : Nat → Nat} {g : Nat → Nat → Nat} : ∀ n t, gaF tm u g 0 n t = 1
  | 0, _ => rfl
  | n + 1, t => by
    show (if (0 : Nat).testBit n then _ else gaF tm u g 0 n t) = 1
    rw [Nat.zero_testBit, if_neg (by decide)]
    exact gaF_z n t
theorem gaF_bd {nb : Nat} {tm u : Nat → Nat} {g : Nat → Nat → Nat} (hg : wmG nb tm g) {S : Nat} : ∀ n t, n ≤ nb → t ≤ 24 → gaF tm u g S n t ≤ 1 + 480 * n
  | 0, _, _, _ => Nat.le_refl _
  | n + 1, t, hn, ht => by
    have ih := gaF_bd (u := u) hg (S := S) n
    show (if S.testBit n then gx (gaF tm u g S n) (tm n) (g n) t (u n) else gaF tm u g S n t) ≤ _
    split
    · rcases Nat.eq_zero_or_pos (gx (gaF tm u g S n) (tm n) (g n) t (u n)) with z | z
      · omega
      · obtain ⟨h, h1, h2, h3, h4, h5⟩ := gx_at _ z
        have a1 := hg.2 n h (by omega)
        have a2 := ih (t - h * tm n) (by omega) (by omega)
        have a3 : h * 1 ≤ h * tm n := Nat.mul_le_mul_left _ (hg.1 n (by omega))
        omega
    · have := ih t (by omega) ht
      omega
def TGa (nb k t : Nat) (tm u : Nat → Nat) (g : Nat → Nat → Nat) (s : bl_S) : Prop := ∀ S t', S < k → t' ≤ t → s 72 (S * 25 + t') = iv (gaF tm u g S nb t')
def FGa (nb S t : Nat) (tm u : Nat → Nat) (g : Nat → Nat → Nat) (s τ : bl_S) : Prop := (∀ d, d ≠ 72 → τ d = s d) ∧ (∀ j, ¬ (S * 25 ≤ j ∧ j ≤ S * 25 + 24) → τ 72 j = s 72 j) ∧ ∀ t', t' ≤ t → τ 72 (S * 25 + t') = iv (gaF tm u g S nb t')
theorem i_ss (a b c : Int32) : a - b - c = a - (b + c) := by grind
theorem fgC {s0 : bl_S} {nb L b t : Nat} {tm u : Nat → Nat} {g : Nat → Nat → Nat} (hn : nb ≤ 6) (hb : b < nb) (hL : L < 2 ^ b) (ht : t ≤ 24) (hg : wmG nb tm g) (hu : u b ≤ 24) (htm : tm b ≤ 2) (h74 : s0 74 b = nI (u b)) (h75 : s0 75 b = nI (tm b)) (h73 : ∀ h, 1 ≤ h → h ≤ 24 → s0 73 (b * 25 + h) = nI (g b h)) (hT : ∀ t', t' ≤ t → s0 72 (L * 25 + t') = iv (gaF tm u g L nb t')) : ∃ τ, FGa nb (L ||| 2 ^ b) t tm u g s0 τ ∧ bl_Con (bl_mi 9) [.ref 3, .int (nI L), .int (nI b), .int (nI t)] s0 none τ := by
  have b6 : b < 6 := by omega
  have pb : 2 ^ b ≤ 2 ^ 5 := Nat.pow_le_pow_right (n := 2) (by omega) (by omega)
  have pb : 2 ^ b ≤ 32 := pb
  have L64 : L < 64 := by omega
  have eS := or_add b b6 L L64 hL
  obtain ⟨S, hSe⟩ : ∃ S, S = L ||| 2 ^ b := ⟨_, rfl⟩
  rw [← hSe] at eS ⊢
  have S64 : S < 64 := by omega
  have LS : L < S := by omega
  have htb := hg.1 b hb
  have eg : ∀ t', gaF tm u g S nb t' = gx (fun t => gaF tm u g L nb t) (tm b) (g b) t' (u b) := fun t' => by rw [hSe]; exact gaF_top hL hb
  have bdL : ∀ t', t' ≤ 24 → gaF tm u g L nb t' ≤ 2881 := fun t' z => by have := gaF_bd (u := u) hg (S := L) nb t' (Nat.le_refl _) z; omega
  have key : ∀ s : bl_S, ((∀ d, d ≠ 72 → s d = s0 d) ∧ (∀ j, ¬ (S * 25 ≤ j ∧ j ≤ S * 25 + 24) → s 72 j = s0 72 j) ∧ ∀ t', t' < 0 → s 72 (S * 25 + t') = iv (gaF tm u g S nb t')) → EvN (bl_mi 9) 10 [(0, .ref 3), (1, .int (nI L)), (2, .int (nI b)), (3, .int (nI t)), (4, .int (nI S)), (5, .int (nI 0))] s (FGa nb S t tm u g s0) := by
    refine bl_dn (N := t + 1) (P := fun m => ∀ s : bl_S, ((∀ d, d ≠ 72 → s d = s0 d) ∧ (∀ j, ¬ (S * 25 ≤ j ∧ j ≤ S * 25 + 24) → s 72 j = s0 72 j) ∧ ∀ t', t' < m → s 72 (S * 25 + t') = iv (gaF tm u g S nb t')) → EvN (bl_mi 9) 10 [(0, .ref 3), (1, .int (nI L)), (2, .int (nI b)), (3, .int (nI t)), (4, .int (nI S)), (5, .int (nI m))] s (FGa nb S t tm u g s0)) ?_ ?_
    · intro s ⟨h1, h2, h3⟩
      exact ⟨s, ⟨h1, h2, fun t' z => h3 t' (by omega)⟩, vc_X0_fillGathered_10 _ _ _ _ _ _ ⟨fun _ => ⟨rfl, rfl⟩, fun z => absurd (nI_lt (by omega) (by omega)) z⟩⟩
    · intro m hm ih s ⟨h1, h2, h3⟩
      have ex4 : nI S * 25 + nI m = nI (S * 25 + m) := by rw [show (25 : Int32) = nI 25 from rfl, nI_mul, nI_add]
      have e74 : s 74 (Int32.toNatClampNeg (nI b)) = nI (u b) := by rw [ntb b6, h1 74 (by omega), h74]
      have e75 : s 75 (Int32.toNatClampNeg (nI b)) = nI (tm b) := by rw [ntb b6, h1 75 (by omega), h75]
      -- what is stored at the end
      have fin : ∀ x6 : Int32, x6 = iv (gaF tm u g S nb m) → ∃ τ, FGa nb S t tm u g s0 τ ∧ (vp_in (nI S * 25 + nI m) 1600) ∧ bl_Wx (bl_mi 9) 10 [(0, .ref 3), (1, .int (nI L)), (2, .int (nI b)), (3, .int (nI t)), (4, .int (nI S)), (5, .int (nI m + 1))] [] (bl_up s 72 (Int32.toNatClampNeg (nI S * 25 + nI m)) x6) (fun v t => v = none ∧ t = τ) := by
        intro x6 hx
        rw [ex4, nI_clamp (show S * 25 + m < 2 ^ 31 by omega), nI_1]
        obtain ⟨τ, hP, hW⟩ := ih (bl_up s 72 (S * 25 + m) x6) ⟨fun d hd => by rw [bl_up_ne hd, h1 d hd], fun j hj => by rw [bl_up_j (by omega)]; exact h2 j hj, fun t' z => by
          by_cases e : t' = m
          · rw [e, bl_up_s, hx]
          · rw [bl_up_j (by omega)]
            exact h3 t' (by omega)⟩
        exact ⟨τ, hP, vp_in_nI (by omega) (by omega), hW⟩
      have inner : EvN (bl_mi 9) 33 [(0, .ref 3), (1, .int (nI L)), (2, .int (nI b)), (3, .int (nI t)), (4, .int (nI S)), (5, .int (nI m)), (6, .int (iv (gx (fun t => gaF tm u g L nb t) (tm b) (g b) m 0))), (7, .int (nI m - nI ((0 + 1) * tm b))), (8, .int (nI (0 + 1)))] s (FGa nb S t tm u g s0) := by
        refine bl_dn (N := u b) (P := fun k => EvN (bl_mi 9) 33 [(0, .ref 3), (1, .int (nI L)), (2, .int (nI b)), (3, .int (nI t)), (4, .int (nI S)), (5, .int (nI m)), (6, .int (iv (gx (fun t => gaF tm u g L nb t) (tm b) (g b) m k))), (7, .int (nI m - nI ((k + 1) * tm b))), (8, .int (nI (k + 1)))] s (FGa nb S t tm u g s0)) ?_ ?_
        · obtain ⟨τ, hP, f1, f2⟩ := fin _ (by rw [eg m])
          refine ⟨τ, hP, vc_X0_fillGathered_33 _ _ _ _ _ _ _ _ _ ⟨vib b6, ?_⟩⟩
          rw [e74]
          exact ⟨fun _ => ⟨f1, f2⟩, fun z => absurd (nI_lt (by omega) (by omega)) z⟩
        · intro k hk ihk
          have z1 : (k + 1) * tm b ≤ (k + 1) * 2 := Nat.mul_le_mul_left _ htm
          by_cases q : (k + 1) * tm b ≤ m
          · -- one more handful
            have ex7 : nI m - nI ((k + 1) * tm b) = nI (m - (k + 1) * tm b) := pk_sub q
            have ex1 : nI L * 25 + nI (m - (k + 1) * tm b) = nI (L * 25 + (m - (k + 1) * tm b)) := by rw [show (25 : Int32) = nI 25 from rfl, nI_mul, nI_add]
            have ex2 : nI b * 25 + nI (k + 1) = nI (b * 25 + (k + 1)) := by rw [show (25 : Int32) = nI 25 from rfl, nI_mul, nI_add]
            have hv : s 72 (L * 25 + (m - (k + 1) * tm b)) = iv (gaF tm u g L nb (m - (k + 1) * tm b)) := by
              rw [h2 _ (by omega)]
              exact hT _ (by omega)
            have hgk : s 73 (b * 25 + (k + 1)) = nI (g b (k + 1)) := by rw [h1 73 (by omega)]; exact h73 _ (by omega) (by omega)
            have e8 : nI m - nI ((k + 1) * tm b) - nI (tm b) = nI m - nI ((k + 1 + 1) * tm b) := by
              rw [i_ss, nI_add, ← Nat.succ_mul]
            obtain ⟨τ, hP, hW⟩ := ihk
            refine ⟨τ, hP, vc_X0_fillGathered_33 _ _ _ _ _ _ _ _ _ ⟨vib b6, ?_⟩⟩
            rw [e74, e75, e8]
            refine ⟨fun z => absurd z (nI_nlt (by omega) (by omega)), fun _ => ⟨fun z => absurd z ?_, fun _ => ⟨?_, fun v4 e4 => ⟨fun _ => ?_, fun v8 e8' => ?_⟩⟩⟩⟩
            · rw [ex7]
              exact nI_pos (by omega)
            · rw [ex7, ex1]
              exact vp_in_nI (by omega) (by omega)
            · rw [ex2]
              exact vp_in_nI (by omega) (by omega)
            · rw [ex7, ex1, nI_clamp (show L * 25 + (m - (k + 1) * tm b) < 2 ^ 31 by omega), hv] at e4
              rw [ex2, nI_clamp (show b * 25 + (k + 1) < 2 ^ 31 by omega), hgk, e4] at e8'
              have e9 : v8 = iv (gx (fun t => gaF tm u g L nb t) (tm b) (g b) m (k + 1)) := by
                rw [e8']
                have bd1 := bdL (m - (k + 1) * tm b) (by omega)
                have bd2 := hg.2 b (k + 1) hb
                have bd3 : gx (fun t => gaF tm u g L nb t) (tm b) (g b) m k ≤ 480 + 2881 := by
                  rcases Nat.eq_zero_or_pos (gx (fun t => gaF tm u g L nb t) (tm b) (g b) m k) with z | z
                  · omega
                  · obtain ⟨h, y1, y2, y3, y4, y5⟩ := gx_at k z
                    have a1 := hg.2 b h hb
                    have a2 := bdL (m - h * tm b) (by omega)
                    have a3 : h * 1 ≤ h * tm b := Nat.mul_le_mul_left _ htb
                    rw [y5]
                    show g b h + gaF tm u g L nb (m - h * tm b) ≤ _
                    omega
                show _ = iv (if (k + 1) * tm b ≤ m then (if gaF tm u g L nb (m - (k + 1) * tm b) = 0 then gx (fun t => gaF tm u g L nb t) (tm b) (g b) m k else if gx (fun t => gaF tm u g L nb t) (tm b) (g b) m k < g b (k + 1) + gaF tm u g L nb (m - (k + 1) * tm b) then g b (k + 1) + gaF tm u g L nb (m - (k + 1) * tm b) else gx (fun t => gaF tm u g L nb t) (tm b) (g b) m k) else gx (fun t => gaF tm u g L nb t) (tm b) (g b) m k)
                rw [if_pos q]
                generalize gaF tm u g L nb (m - (k + 1) * tm b) = F at *
                generalize gx (fun t => gaF tm u g L nb t) (tm b) (g b) m k = X at *
                by_cases z : F = 0
                · rw [if_pos ((iv_m1 (by omega)).mpr z), if_pos z]
                · rw [if_neg (fun e => z ((iv_m1 (by omega)).mp e)), if_neg z]
                  have e1 : nI (g b (k + 1)) + iv F = iv (g b (k + 1) + F) := by
                    rw [iv_p (by omega), iv_p (by omega), nI_add, show g b (k + 1) + (F - 1) = g b (k + 1) + F - 1 by omega]
                  rw [e1]
                  by_cases y : X < g b (k + 1) + F
                  · rw [if_pos ((iv_lt (by omega) (by omega)).mpr y), if_pos y]
                  · rw [if_neg (fun e => y ((iv_lt (by omega) (by omega)).mp e)), if_neg y]
              rw [e9, nI_1]
              exact hW
          · -- too late
            obtain ⟨τ, hP, f1, f2⟩ := fin (iv (gx (fun t => gaF tm u g L nb t) (tm b) (g b) m k)) (by rw [eg m, gx_stop (h := k) (by omega) (u b) (by omega)])
            refine ⟨τ, hP, vc_X0_fillGathered_33 _ _ _ _ _ _ _ _ _ ⟨vib b6, ?_⟩⟩
            rw [e74]
            exact ⟨fun _ => ⟨f1, f2⟩, fun _ => ⟨fun _ => ⟨f1, f2⟩, fun z => absurd (pk_sneg (by omega) (by omega)) z⟩⟩
      obtain ⟨τ, hP, hW⟩ := inner
      refine ⟨τ, hP, vc_X0_fillGathered_10 _ _ _ _ _ _ ⟨fun z => absurd z (nI_nlt (by omega) (by omega)), fun _ => ⟨vib b6, ?_⟩⟩⟩
      rw [e75]
      rw [show (0 + 1) * tm b = tm b by omega] at hW
      exact hW
  obtain ⟨τ, hP, hW⟩ := key s0 ⟨fun _ _ => rfl, fun _ _ => rfl, fun t' z => by omega⟩
  refine ⟨τ, hP, bl_c (Nat.le_of_ble_eq_true rfl) (vc_X0_fillGathered_0 s0 _ _ _ ?_)⟩
  rw [bit_or L L64 b b6, ← hSe]
  exact hW
