/-! BEST WAY: the most, as the class finds it -/
theorem and_64 : ∀ x, x < 64 → ∀ o, o < 64 → nI x &&& nI o = nI (x &&& o) := by decide +kernel
theorem fre_lt {nb m S : Nat} (h : fre nb m S) : S < 2 ^ nb := by
  rcases Nat.lt_or_ge S (2 ^ nb) with z | z
  · exact z
  · obtain ⟨i, i1, i2⟩ := Nat.exists_ge_and_testBit_of_ge_two_pow z
    have := (h.2 i i2).1
    omega
theorem and_fre {nb m S : Nat} (hn : nb ≤ 6) (hS : S < 2 ^ nb) : S &&& m = 0 ↔ fre nb m S := by
  constructor
  · intro h
    refine ⟨by have := p2_le hn; omega, fun b hb => ⟨?_, ?_⟩⟩
    · rcases Nat.lt_or_ge b nb with z | z
      · exact z
      · have hlt : S < 2 ^ b := Nat.lt_of_lt_of_le hS (Nat.pow_le_pow_right (n := 2) (by omega) z)
        rw [Nat.testBit_lt_two_pow hlt] at hb
        cases hb
    · have e : (S &&& m).testBit b = false := by rw [h, Nat.zero_testBit]
      rw [Nat.testBit_and, hb, Bool.true_and] at e
      exact e
  · intro h
    apply Nat.eq_of_testBit_eq
    intro i
    rw [Nat.testBit_and, Nat.zero_testBit]
    cases hi : S.testBit i with
    | false => rfl
    | true => rw [(h.2 i hi).2]; rfl
theorem mbC {s : bl_S} {nb t m a l : Nat} {W : Nat → Nat → Nat} {tm u : Nat → Nat} {g : Nat → Nat → Nat} (hn : nb ≤ 6) (hW : ∀ a b, W a b ≤ 11) (hg : wmG nb tm g) (hu : wmU nb g u) (h11 : s 3 11 = nI nb) (hS : TSh nb (2 ^ nb) W s) (hG : TGa nb (2 ^ nb) t tm u g s) (hm : m < 64) (ha : a < nb ∨ a = 6) (hl : l ≤ t) (ht : t ≤ 24) : bl_Con (bl_mi 10) [.ref 3, .int (nI m), .int (nI a), .int (nI l)] s (some (.int (nI (wm nb W tm g m a l)))) s := by
  obtain ⟨M, eM⟩ : ∃ M, M = wm nb W tm g m a l := ⟨_, rfl⟩
  have bdM := wm_bd W hg m a l
  have p6 := p2_le hn
  have pp : 0 < 2 ^ nb := Nat.two_pow_pos nb
  have fin : ∀ top, top ≤ M → (∀ S, fre nb m S → 0 < S → sh nb W a S ≤ l → gaF tm u g S nb (l - sh nb W a S) ≤ top + 1) → bl_Wx (bl_mi 10) 6 [(0, .ref 3), (1, .int (nI m)), (2, .int (nI a)), (3, .int (nI l)), (4, .int (nI top)), (5, .int (nI (2 ^ nb)))] [] s (fun v τ => v = some (.int (nI M)) ∧ τ = s) := by
    intro top htop hall
    refine vc_X0_mostBeyond_6 _ _ _ _ _ _ ⟨fun z => absurd z ?_, fun _ => ⟨?_, rfl⟩⟩
    · rw [h11, bit_shl nb (by omega)]
      exact nI_nlt (Nat.le_refl _) (by omega)
    · obtain ⟨S, f1, f2, f3⟩ := cls_ge (W := W) (tm := tm) (u := u) hn hg hu (m := m) (a := a) (l := l) (by omega)
      have : M ≤ top := by
        by_cases e : S = 0
        · rw [e, gaF_z] at f3
          omega
        · have := hall S f1 (by omega) f2
          omega
      rw [show top = M by omega]
  have key : ∀ N x top, 2 ^ nb - x ≤ N → 1 ≤ x → x ≤ 2 ^ nb → top ≤ M → (∀ S, fre nb m S → 0 < S → S < x → sh nb W a S ≤ l → gaF tm u g S nb (l - sh nb W a S) ≤ top + 1) → bl_Wx (bl_mi 10) 6 [(0, .ref 3), (1, .int (nI m)), (2, .int (nI a)), (3, .int (nI l)), (4, .int (nI top)), (5, .int (nI x))] [] s (fun v τ => v = some (.int (nI M)) ∧ τ = s) := by
    intro N
    induction N with
    | zero =>
      intro x top hx h1 h2 htop hall
      rw [show x = 2 ^ nb by omega]
      exact fin top htop (fun S z1 z2 z3 => hall S z1 z2 (by have := fre_lt z1; omega) z3)
    | succ N ih =>
      intro x top hx h1 h2 htop hall
      by_cases e0 : x = 2 ^ nb
      · rw [e0]
        exact fin top htop (fun S z1 z2 z3 => hall S z1 z2 (by have := fre_lt z1; omega) z3)
      · have xlt : x < 2 ^ nb := by omega
        have x64 : x < 64 := by omega
        have ex1 : nI a * 64 + nI x = nI (a * 64 + x) := by rw [show (64 : Int32) = nI 64 from rfl, nI_mul, nI_add]
        have hsb := sh_bd (nb := nb) hW a x
        have hsx : s 71 (a * 64 + x) = nI (sh nb W a x) := hS a x ha xlt
        have exm := and_64 x x64 m hm
        have hle : x &&& m ≤ x := Nat.and_le_left
        have i1 : vp_in (nI a * 64 + nI x) 448 := by
          rw [ex1]
          exact vp_in_nI (by omega) (by omega)
        have c1 : nI x < ((1 : Int32) <<< ((s 3 11) &&& 31)) := by
          rw [h11, bit_shl nb (by omega)]
          exact nI_lt xlt (by omega)
        by_cases hz : x &&& m = 0
        · have fx := (and_fre hn xlt).mp hz
          have hc : nI x &&& nI m = 0 := by
            rw [exm, hz]
            rfl
          by_cases q : sh nb W a x ≤ l
          · have ex2 : nI x * 25 + nI (l - sh nb W a x) = nI (x * 25 + (l - sh nb W a x)) := by rw [show (25 : Int32) = nI 25 from rfl, nI_mul, nI_add]
            have hgx : s 72 (x * 25 + (l - sh nb W a x)) = iv (gaF tm u g x nb (l - sh nb W a x)) := hG x _ xlt (by omega)
            have hle2 := cls_le (W := W) (u := u) hn hg fx q
            rw [← eM] at hle2
            obtain ⟨top', ht1, ht2, ht3⟩ : ∃ top', nI top' = (if nI top < iv (gaF tm u g x nb (l - sh nb W a x)) then iv (gaF tm u g x nb (l - sh nb W a x)) else nI top) ∧ top' ≤ M ∧ (top ≤ top' ∧ gaF tm u g x nb (l - sh nb W a x) ≤ top' + 1) := by
              generalize gaF tm u g x nb (l - sh nb W a x) = G at *
              have e1 : nI top = iv (top + 1) := by rw [iv_p (by omega)]; rfl
              by_cases z : top + 1 < G
              · refine ⟨G - 1, ?_, by omega, by omega, by omega⟩
                rw [e1, if_pos ((iv_lt (by omega) (by omega)).mpr z), iv_p (by omega)]
              · refine ⟨top, ?_, htop, by omega, by omega⟩
                rw [e1, if_neg (fun y => z ((iv_lt (by omega) (by omega)).mp y))]
            have hrec := ih (x + 1) top' (by omega) (by omega) (by omega) ht2 (fun S z1 z2 z3 z4 => by
              by_cases w : S = x
              · rw [w]
                exact ht3.2
              · have := hall S z1 z2 (by omega) z4
                omega)
            refine vc_X0_mostBeyond_6 _ _ _ _ _ _ ⟨fun _ => ⟨i1, fun v2 e2 => ⟨fun _ _ => ?_, fun v7 e7 => ?_⟩⟩, fun z => absurd c1 z⟩
            · rw [ex1, nI_clamp (show a * 64 + x < 2 ^ 31 by omega), hsx, pk_sub q] at e2
              rw [e2, ex2]
              exact vp_in_nI (by omega) (by omega)
            · rw [ex1, nI_clamp (show a * 64 + x < 2 ^ 31 by omega), hsx, pk_sub q] at e2
              rw [if_pos hc, e2, if_neg (nI_pos (by omega)), ex2, nI_clamp (show x * 25 + (l - sh nb W a x) < 2 ^ 31 by omega), hgx, ← ht1] at e7
              rw [e7, nI_1]
              exact hrec
          · have hrec := ih (x + 1) top (by omega) (by omega) (by omega) htop (fun S z1 z2 z3 z4 => by
              by_cases w : S = x
              · rw [w] at z4
                exact absurd z4 q
              · exact hall S z1 z2 (by omega) z4)
            have neg : nI l - nI (sh nb W a x) < 0 := pk_sneg (by omega) (by omega)
            refine vc_X0_mostBeyond_6 _ _ _ _ _ _ ⟨fun _ => ⟨i1, fun v2 e2 => ⟨fun _ z => absurd ?_ z, fun v7 e7 => ?_⟩⟩, fun z => absurd c1 z⟩
            · rw [ex1, nI_clamp (show a * 64 + x < 2 ^ 31 by omega), hsx] at e2
              rw [e2]
              exact neg
            · rw [ex1, nI_clamp (show a * 64 + x < 2 ^ 31 by omega), hsx] at e2
              rw [if_pos hc, e2, if_pos neg] at e7
              rw [e7, nI_1]
              exact hrec
        · have hc : ¬ nI x &&& nI m = 0 := by
            rw [exm]
            exact nI_ne0 (by omega) (by omega)
          have hrec := ih (x + 1) top (by omega) (by omega) (by omega) htop (fun S z1 z2 z3 z4 => by
            by_cases w : S = x
            · rw [w] at z1
              exact absurd ((and_fre hn xlt).mpr z1) hz
            · exact hall S z1 z2 (by omega) z4)
          refine vc_X0_mostBeyond_6 _ _ _ _ _ _ ⟨fun _ => ⟨i1, fun v2 e2 => ⟨fun z => absurd z hc, fun v7 e7 => ?_⟩⟩, fun z => absurd c1 z⟩
          rw [if_neg hc] at e7
          rw [e7, nI_1]
          exact hrec
  rw [← eM]
  exact bl_c (Nat.le_of_ble_eq_true rfl) (vc_X0_mostBeyond_0 s _ _ _ (key (2 ^ nb) 1 0 (by omega) (by omega) (by omega) (Nat.zero_le _) (fun S z1 z2 z3 _ => by omega)))
/-- nothing but the best way's own cells differs, and its empty rows are empty -/
def CF (σ τ : bl_S) : Prop := (∀ d, d ≠ 3 → ¬ (69 ≤ d ∧ d ≤ 77) → τ d = σ d) ∧ (∀ a, a ≤ 6 → τ 71 (a * 64) = 0) ∧ ∀ t, t ≤ 24 → τ 72 t = 0
def Ms (nb c : Nat) (W : Nat → Nat → Nat) (tm : Nat → Nat) (g : Nat → Nat → Nat) (s : bl_S) : Prop := ∀ b, b < c → (∀ h, 1 ≤ h → h ≤ 24 → s 73 (b * 25 + h) = nI (g b h)) ∧ s 74 b = nI (uF (g b) 24) ∧ s 75 b = nI (tm b) ∧ ∀ a, a < nb ∨ a = 6 → s 76 (a * 6 + b) = nI (W a b)
/-- all tables stand -/
def CT (nb t : Nat) (W : Nat → Nat → Nat) (tm : Nat → Nat) (g : Nat → Nat → Nat) (s : bl_S) : Prop := s 3 11 = nI nb ∧ Ms nb nb W tm g s ∧ TSh nb (2 ^ nb) W s ∧ TGa nb (2 ^ nb) t tm (fun b => uF (g b) 24) g s
theorem fmC {σ : bl_S} {nb t r : Nat} {W : Nat → Nat → Nat} {tm : Nat → Nat} {g : Nat → Nat → Nat} (hn : nb ≤ 6) (ht : t ≤ 24) (hr : bl_kd r = 5) (hr2 : r ≠ 3 ∧ (r < 69 ∨ 77 < r)) (h103 : σ 10 3 = nI nb) (hb : ∀ b k, b < nb → k < 6 → σ (14 + b) k = σ (102 + k) b) (hD : WD nb σ (σ r 0) (σ r 1) (σ r 2) (σ r 4) (σ r 3) W tm g) (hz1 : ∀ a, a ≤ 6 → σ 71 (a * 64) = 0) (hz2 : ∀ t, t ≤ 24 → σ 72 t = 0) : ∃ τ, (CF σ τ ∧ CT nb t W tm g τ ∧ τ 3 0 = nI (wm nb W tm g 0 6 t)) ∧ bl_Con (bl_mi 11) [.ref 3, .ref 10, .ref r, .int (nI t)] σ (some (.int (nI (wm nb W tm g 0 6 t)))) τ := by
  obtain ⟨M, eM⟩ : ∃ M, M = wm nb W tm g 0 6 t := ⟨_, rfl⟩
  rw [← eM]
  have hW := hD.1
  have hg := hD.G
  have hu := hD.U
  -- the sets, one behind the other
  have sets : ∀ s : bl_S, (CF σ s ∧ s 3 11 = nI nb ∧ Ms nb nb W tm g s ∧ TSh nb (2 ^ 0) W s ∧ TGa nb (2 ^ 0) t tm (fun b => uF (g b) 24) g s) → ∃ τ, (CF σ τ ∧ CT nb t W tm g τ ∧ τ 3 0 = nI M) ∧ bl_Wx (bl_mi 11) 51 [(0, .ref 3), (1, .ref 10), (2, .ref r), (3, .int (nI t)), (4, .int (nI 0))] [] s (fun v u => v = some (.int (nI M)) ∧ u = τ) := by
    refine bl_dn (N := nb) (P := fun b => ∀ s : bl_S, (CF σ s ∧ s 3 11 = nI nb ∧ Ms nb nb W tm g s ∧ TSh nb (2 ^ b) W s ∧ TGa nb (2 ^ b) t tm (fun b => uF (g b) 24) g s) → ∃ τ, (CF σ τ ∧ CT nb t W tm g τ ∧ τ 3 0 = nI M) ∧ bl_Wx (bl_mi 11) 51 [(0, .ref 3), (1, .ref 10), (2, .ref r), (3, .int (nI t)), (4, .int (nI b))] [] s (fun v u => v = some (.int (nI M)) ∧ u = τ)) ?_ ?_
    · intro s ⟨h1, h2, h3, h4, h5⟩
      have hmb := mbC (m := 0) (a := 6) (l := t) hn hW hg hu h2 h4 h5 (by omega) (Or.inr rfl) (Nat.le_refl _) ht
      rw [← eM] at hmb
      refine ⟨bl_up s 3 0 (nI M), ⟨⟨fun d z1 z2 => by rw [bl_up_ne z1]; exact h1.1 d z1 z2, fun a z => by rw [bl_up_c (by omega)]; exact h1.2.1 a z, fun t z => by rw [bl_up_c (by omega)]; exact h1.2.2 t z⟩, ⟨by rw [bl_up_j (by omega)]; exact h2, fun b z => ?_, fun a S z1 z2 => by rw [bl_up_c (by omega)]; exact h4 a S z1 z2, fun S t' z1 z2 => by rw [bl_up_c (by omega)]; exact h5 S t' z1 z2⟩, by rw [bl_up_s]⟩, vc_X0_findMost_51 _ _ _ _ _ rfl hr ⟨fun z => absurd z ?_, fun _ => ⟨_, _, hmb, rfl, rfl⟩⟩⟩
      · have := h3 b z
        rw [bl_up_ne (by omega), bl_up_ne (by omega), bl_up_ne (by omega), bl_up_ne (by omega)]
        exact this
      · rw [h2]
        exact nI_nlt (Nat.le_refl _) (by omega)
    · intro b hb' ihb s hI
      have b6 : b < 6 := by omega
      have p6 : 2 ^ (b + 1) ≤ 2 ^ nb := Nat.pow_le_pow_right (n := 2) (by omega) (by omega)
      have p7 := p2_le hn
      have p8 : 2 ^ (b + 1) = 2 ^ b + 2 ^ b := by rw [Nat.pow_succ]; omega
      have row : ∀ s : bl_S, (CF σ s ∧ s 3 11 = nI nb ∧ Ms nb nb W tm g s ∧ TSh nb (2 ^ b + 0) W s ∧ TGa nb (2 ^ b + 0) t tm (fun b => uF (g b) 24) g s) → ∃ τ, (CF σ τ ∧ CT nb t W tm g τ ∧ τ 3 0 = nI M) ∧ bl_Wx (bl_mi 11) 63 [(0, .ref 3), (1, .ref 10), (2, .ref r), (3, .int (nI t)), (4, .int (nI b)), (5, .int (nI 0))] [] s (fun v u => v = some (.int (nI M)) ∧ u = τ) := by
        refine bl_dn (N := 2 ^ b) (P := fun L => ∀ s : bl_S, (CF σ s ∧ s 3 11 = nI nb ∧ Ms nb nb W tm g s ∧ TSh nb (2 ^ b + L) W s ∧ TGa nb (2 ^ b + L) t tm (fun b => uF (g b) 24) g s) → ∃ τ, (CF σ τ ∧ CT nb t W tm g τ ∧ τ 3 0 = nI M) ∧ bl_Wx (bl_mi 11) 63 [(0, .ref 3), (1, .ref 10), (2, .ref r), (3, .int (nI t)), (4, .int (nI b)), (5, .int (nI L))] [] s (fun v u => v = some (.int (nI M)) ∧ u = τ)) ?_ ?_
        · intro s hI
          rw [← p8] at hI
          obtain ⟨τ, hP, hW'⟩ := ihb s hI
          refine ⟨τ, hP, vc_X0_findMost_63 _ _ _ _ _ _ rfl hr ⟨fun z => absurd z ?_, fun _ => by rw [nI_1]; exact hW'⟩⟩
          rw [bit_shl b (by omega)]
          exact nI_nlt (Nat.le_refl _) (by omega)
        · intro L hL ihL s ⟨h1, h2, h3, h4, h5⟩
          have L64 : L < 64 := by omega
          have eS := or_add b b6 L L64 hL
          obtain ⟨S, hSe⟩ : ∃ S, S = L ||| 2 ^ b := ⟨_, rfl⟩
          have pp : 0 < 2 ^ b := Nat.two_pow_pos b
          have eS2 : S = 2 ^ b + L := by rw [hSe, eS]; omega
          obtain ⟨τ1, ⟨f1, f2, f3⟩, hC1⟩ := fsC (s0 := s) (nb := nb) (S := S) hn hW (by omega) (by omega) h2 (fun a b z1 z2 => (h3 b z2).2.2.2 a z1) (by rw [eS2]; exact h4)
          obtain ⟨m1, m2, m3, m4⟩ := h3 b hb'
          have hub := hu b hb'
          have htm := hD.2.2.2.1 b hb'
          obtain ⟨τ2, ⟨k1, k2, k3⟩, hC2⟩ := fgC (s0 := τ1) (nb := nb) (L := L) (b := b) (t := t) (tm := tm) (u := fun b => uF (g b) 24) (g := g) hn hb' hL ht hg hub.2.1 htm.2.2 (by rw [f1 74 (by omega)]; exact m2) (by rw [f1 75 (by omega)]; exact m3) (by rw [f1 73 (by omega)]; exact m1) (fun t' z => by rw [f1 72 (by omega)]; exact h5 L t' (by omega) z)
          rw [← hSe] at k2 k3
          have c2 : ∀ d, d ≠ 71 → d ≠ 72 → τ2 d = s d := fun d z1 z2 => by rw [k1 d z2, f1 d z1]
          obtain ⟨τ, hP, hW'⟩ := ihL τ2 ⟨⟨fun d z1 z2 => by rw [c2 d (by omega) (by omega)]; exact h1.1 d z1 z2, fun a z => by
            rw [k1 71 (by omega)]
            have := f2 a 0 (by omega) (by omega)
            rw [Nat.add_zero] at this
            rw [this]
            exact h1.2.1 a z, fun t' z => by
            rw [k2 t' (by omega), f1 72 (by omega)]
            exact h1.2.2 t' z⟩, by rw [c2 3 (by omega) (by omega)]; exact h2, fun b z => by
            rw [c2 73 (by omega) (by omega), c2 74 (by omega) (by omega), c2 75 (by omega) (by omega), c2 76 (by omega) (by omega)]
            exact h3 b z, fun a S' z1 z2 => by
            rw [k1 71 (by omega)]
            by_cases e : S' = S
            · rw [e]
              exact f3 a z1
            · rw [f2 a S' (by omega) e]
              exact h4 a S' z1 (by omega), fun S' t' z1 z2 => by
            by_cases e : S' = S
            · rw [e]
              exact k3 t' z2
            · rw [k2 _ (by omega), f1 72 (by omega)]
              exact h5 S' t' (by omega) z2⟩
          rw [hSe] at hC1
          refine ⟨τ, hP, vc_X0_findMost_63 _ _ _ _ _ _ rfl hr ⟨fun _ => ⟨τ1, ?_, τ2, hC2, ?_⟩, fun z => absurd ?_ z⟩⟩
          · rw [bit_or L L64 b b6]
            exact hC1
          · rw [nI_1]
            exact hW'
          · rw [bit_shl b (by omega)]
            exact nI_lt hL (by omega)
      obtain ⟨τ, hP, hW'⟩ := row s hI
      refine ⟨τ, hP, vc_X0_findMost_51 _ _ _ _ _ rfl hr ⟨fun _ => hW', fun z => absurd ?_ z⟩⟩
      rw [hI.2.1]
      exact nI_lt hb' (by omega)
  -- bush by bush
  have meas : ∀ s : bl_S, (CF σ s ∧ s 3 11 = nI nb ∧ Ms nb 0 W tm g s) → ∃ τ, (CF σ τ ∧ CT nb t W tm g τ ∧ τ 3 0 = nI M) ∧ bl_Wx (bl_mi 11) 11 [(0, .ref 3), (1, .ref 10), (2, .ref r), (3, .int (nI t)), (4, .int (nI 0))] [] s (fun v u => v = some (.int (nI M)) ∧ u = τ) := by
    refine bl_dn (N := nb) (P := fun c => ∀ s : bl_S, (CF σ s ∧ s 3 11 = nI nb ∧ Ms nb c W tm g s) → ∃ τ, (CF σ τ ∧ CT nb t W tm g τ ∧ τ 3 0 = nI M) ∧ bl_Wx (bl_mi 11) 11 [(0, .ref 3), (1, .ref 10), (2, .ref r), (3, .int (nI t)), (4, .int (nI c))] [] s (fun v u => v = some (.int (nI M)) ∧ u = τ)) ?_ ?_
    · intro s ⟨h1, h2, h3⟩
      obtain ⟨τ, hP, hW'⟩ := sets s ⟨h1, h2, h3, fun a S _ z => by
        rw [show S = 0 by omega, sh_0, Nat.add_zero]
        rcases Nat.lt_or_ge 6 a with w | w
        · omega
        · exact h1.2.1 a w, fun S t' z1 z2 => by
        rw [show S = 0 by omega, gaF_z, show 0 * 25 + t' = t' by omega]
        exact h1.2.2 t' (by omega)⟩
      refine ⟨τ, hP, vc_X0_findMost_11 _ _ _ _ _ rfl hr ⟨fun z => absurd z ?_, fun _ => hW'⟩⟩
      rw [h2]
      exact nI_nlt (Nat.le_refl _) (by omega)
    · intro c hc ih s ⟨h1, h2, h3⟩
      have c6 : c < 6 := by omega
      have sr : s r = σ r := h1.1 r hr2.1 (by omega)
      have sb : ∀ b k, b < nb → k < 6 → s (14 + b) k = σ (102 + k) b := fun b k z1 z2 => by
        rw [h1.1 (14 + b) (by omega) (by omega)]
        exact hb b k z1 z2
      obtain ⟨τ1, ⟨g1, g2, g3, g4, g5, g6, g7⟩, hC1⟩ := mgC (s0 := s) hD hn hc hr hr2 (by rw [sr]) (by rw [sr]) (by rw [sr]) (sb c 2 hc (by omega)) (sb c 4 hc (by omega))
      have t1r : τ1 r = σ r := by rw [g1 r (by omega) (by omega) (by omega) (by omega), sr]
      obtain ⟨τ2, ⟨w1, w2, w3⟩, hC2⟩ := mwC (s0 := τ1) hD hn hc hr (by omega) (by rw [t1r]) (by rw [t1r]) (fun a z => by rw [g1 (14 + a) (by omega) (by omega) (by omega) (by omega)]; exact sb a 0 z (by omega)) (fun a z => by rw [g1 (14 + a) (by omega) (by omega) (by omega) (by omega)]; exact sb a 1 z (by omega)) (by rw [g1 3 (by omega) (by omega) (by omega) (by omega)]; exact h2)
      have cc : ∀ d, ¬ (73 ≤ d ∧ d ≤ 77) → τ2 d = s d := fun d z => by rw [w1 d (by omega), g1 d (by omega) (by omega) (by omega) (by omega)]
      obtain ⟨τ, hP, hW'⟩ := ih τ2 ⟨⟨fun d z1 z2 => by rw [cc d (by omega)]; exact h1.1 d z1 z2, fun a z => by rw [cc 71 (by omega)]; exact h1.2.1 a z, fun t z => by rw [cc 72 (by omega)]; exact h1.2.2 t z⟩, by rw [cc 3 (by omega)]; exact h2, fun b z => by
        by_cases e : b = c
        · subst e
          exact ⟨fun h y1 y2 => by rw [w1 73 (by omega)]; exact g3 h y1 y2, by rw [w1 74 (by omega)]; exact g4, by rw [w1 75 (by omega)]; exact g6, w2⟩
        · obtain ⟨m1, m2, m3, m4⟩ := h3 b (by omega)
          exact ⟨fun h y1 y2 => by rw [w1 73 (by omega), g2 _ (by omega)]; exact m1 h y1 y2, by rw [w1 74 (by omega), g5 b e]; exact m2, by rw [w1 75 (by omega), g7 b e]; exact m3, fun a z => by rw [w3 a b (by omega) e, g1 76 (by omega) (by omega) (by omega) (by omega)]; exact m4 a z⟩⟩
      refine ⟨τ, hP, vc_X0_findMost_11 _ _ _ _ _ rfl hr ⟨fun _ => ⟨rfl, vib c6, ?_⟩, fun z => absurd ?_ z⟩⟩
      · rw [ntb c6, nI_1]
        exact ⟨τ1, hC1, τ2, hC2, hW'⟩
      · rw [h2]
        exact nI_lt hc (by omega)
  obtain ⟨τ, hP, hW'⟩ := meas (bl_up σ 3 11 (σ 10 3)) ⟨⟨fun d z1 _ => bl_up_ne z1, fun a z => by rw [bl_up_c (by omega)]; exact hz1 a z, fun t z => by rw [bl_up_c (by omega)]; exact hz2 t z⟩, by rw [bl_up_s, h103], fun b z => by omega⟩
  exact ⟨τ, hP, bl_c (Nat.le_of_ble_eq_true rfl) (vc_X0_findMost_0 σ 10 r _ rfl hr hW')⟩
