/-! BEST WAY: what the class measures -/
/-- what is measured: ways, moments, gains of a picker -/
def WD (nb : Nat) (σ : bl_S) (py ps q hi ap : Int32) (W : Nat → Nat → Nat) (tm : Nat → Nat) (g : Nat → Nat → Nat) : Prop :=
  (∀ a b, W a b ≤ 11) ∧ (∀ a b, a < nb → b < nb → wy (σ 102 a) (σ 103 a) (σ 102 b) (σ 103 b) = nI (W a b)) ∧ (∀ b, b < nb → wy py ps (σ 102 b) (σ 103 b) = nI (W 6 b)) ∧
  (∀ b, b < nb → hm (σ 104 b) = nI (tm b) ∧ 1 ≤ tm b ∧ tm b ≤ 2) ∧ ∀ b h, b < nb → gs q hi (σ 104 b) ap (σ 106 b) h = nI (g b h) ∧ g b h ≤ 20 * h ∧ g b h ≤ g b (h + 1)
theorem WD.G {nb : Nat} {σ : bl_S} {py ps q hi ap : Int32} {W : Nat → Nat → Nat} {tm : Nat → Nat} {g : Nat → Nat → Nat} (h : WD nb σ py ps q hi ap W tm g) : wmG nb tm g := ⟨fun b hb => (h.2.2.2.1 b hb).2.1, fun b k hb => (h.2.2.2.2 b k hb).2.1⟩
/-- the last useful one of k handfuls -/
def uF (gb : Nat → Nat) : Nat → Nat
  | 0 => 1
  | k + 1 => if gb k < gb (k + 1) then k + 1 else uF gb k
theorem uF_bd (gb : Nat → Nat) : ∀ k, 1 ≤ uF gb k ∧ (uF gb k ≤ k ∨ uF gb k = 1)
  | 0 => ⟨Nat.le_refl _, Or.inr rfl⟩
  | k + 1 => by
    have ih := uF_bd gb k
    unfold uF
    split <;> omega
theorem uF_no {gb : Nat → Nat} (hm : ∀ k, gb k ≤ gb (k + 1)) : ∀ k h, uF gb k ≤ h → h ≤ k → gb h = gb (uF gb k)
  | 0, h, h1, h2 => by
    have : uF gb 0 = 1 := rfl
    omega
  | k + 1, h, h1, h2 => by
    have ih := uF_no hm k
    have hb := uF_bd gb k
    unfold uF at h1 ⊢
    by_cases q : gb k < gb (k + 1)
    · rw [if_pos q] at h1 ⊢
      rw [show h = k + 1 by omega]
    · rw [if_neg q] at h1 ⊢
      by_cases e : h = k + 1
      · by_cases z : uF gb k ≤ k
        · have := hm k
          have := ih k z (Nat.le_refl _)
          rw [e]
          omega
        · rw [show h = uF gb k by omega]
      · exact ih h h1 (by omega)
theorem WD.U {nb : Nat} {σ : bl_S} {py ps q hi ap : Int32} {W : Nat → Nat → Nat} {tm : Nat → Nat} {g : Nat → Nat → Nat} (h : WD nb σ py ps q hi ap W tm g) : wmU nb g (fun b => uF (g b) 24) := fun b hb => by
  have := uF_bd (g b) 24
  exact ⟨this.1, by show uF (g b) 24 ≤ 24; omega, fun k h1 h2 => uF_no (fun k => (h.2.2.2.2 b k hb).2.2) 24 k h1 h2⟩
def MG (b : Nat) (tm : Nat → Nat) (g : Nat → Nat → Nat) (s τ : bl_S) : Prop := (∀ d, d ≠ 73 → d ≠ 74 → d ≠ 75 → d ≠ 77 → τ d = s d) ∧ (∀ j, ¬ (b * 25 + 1 ≤ j ∧ j ≤ b * 25 + 24) → τ 73 j = s 73 j) ∧ (∀ h, 1 ≤ h → h ≤ 24 → τ 73 (b * 25 + h) = nI (g b h)) ∧ τ 74 b = nI (uF (g b) 24) ∧ (∀ j, j ≠ b → τ 74 j = s 74 j) ∧ τ 75 b = nI (tm b) ∧ ∀ j, j ≠ b → τ 75 j = s 75 j
theorem i_sub {x y z : Int32} (h : x + y = z) : y = z - x := by grind
theorem mgC {σ s0 : bl_S} {nb b r : Nat} {W : Nat → Nat → Nat} {tm : Nat → Nat} {g : Nat → Nat → Nat} {py ps q hi ap : Int32} (hD : WD nb σ py ps q hi ap W tm g) (hn : nb ≤ 6) (hb : b < nb) (hr : bl_kd r = 5) (hr2 : r ≠ 3 ∧ (r < 69 ∨ 77 < r)) (q2 : s0 r 2 = q) (q4 : s0 r 4 = hi) (q3 : s0 r 3 = ap) (k2 : s0 (14 + b) 2 = σ 104 b) (k4 : s0 (14 + b) 4 = σ 106 b) : ∃ τ, MG b tm g s0 τ ∧ bl_Con (bl_mi 4) [.ref 3, .ref r, .ref (14 + b), .int (nI b)] s0 none τ := by
  have b6 : b < 6 := by omega
  obtain ⟨ht, -, -⟩ := hD.2.2.2.1 b hb
  have hg := fun h => (hD.2.2.2.2 b h hb).1
  have hgl := fun h => (hD.2.2.2.2 b h hb).2.1
  have hgm := fun h => (hD.2.2.2.2 b h hb).2.2
  have hcp := c_X1_copyFrom s0 (a := 77) (b := 14 + b) rfl (kdb b b6)
  obtain ⟨s1, e1⟩ : ∃ s1, s1 = bl_cp 6 s0 77 (14 + b) := ⟨_, rfl⟩
  rw [← e1] at hcp
  have s1c : ∀ d, d ≠ 77 → s1 d = s0 d := fun d hd => by rw [e1, bl_cp_c hd]
  have hmo := c_X1_handfulMoments s1 (r := 14 + b) (kdb b b6)
  rw [s1c (14 + b) (by omega), k2, ht] at hmo
  obtain ⟨s2, e2⟩ : ∃ s2, s2 = bl_up (bl_up s1 75 b (nI (tm b))) 74 b 1 := ⟨_, rfl⟩
  have s2c : ∀ d, d ≠ 74 → d ≠ 75 → d ≠ 77 → s2 d = s0 d := fun d h1 h2 h3 => by rw [e2, bl_up_ne h1, bl_up_ne h2, s1c d h3]
  have key : ∀ s : bl_S, ((∀ d, d ≠ 73 → d ≠ 74 → d ≠ 77 → s d = s2 d) ∧ (∀ j, ¬ (b * 25 + 1 ≤ j ∧ j ≤ b * 25 + 0) → s 73 j = s2 73 j) ∧ (∀ h, 1 ≤ h → h ≤ 0 → s 73 (b * 25 + h) = nI (g b h)) ∧ s 74 b = nI (uF (g b) 0) ∧ (∀ j, j ≠ b → s 74 j = s2 74 j) ∧ s 77 2 = σ 104 b ∧ s 77 4 = hs q hi (σ 104 b) (σ 106 b) 0) → EvN (bl_mi 4) 31 [(0, .ref 3), (1, .ref r), (2, .ref (14 + b)), (3, .int (nI b)), (4, .int (nI (g b 0))), (5, .int (nI (0 + 1)))] s (MG b tm g s0) := by
    refine bl_dn (N := 24) (P := fun m => ∀ s : bl_S, ((∀ d, d ≠ 73 → d ≠ 74 → d ≠ 77 → s d = s2 d) ∧ (∀ j, ¬ (b * 25 + 1 ≤ j ∧ j ≤ b * 25 + m) → s 73 j = s2 73 j) ∧ (∀ h, 1 ≤ h → h ≤ m → s 73 (b * 25 + h) = nI (g b h)) ∧ s 74 b = nI (uF (g b) m) ∧ (∀ j, j ≠ b → s 74 j = s2 74 j) ∧ s 77 2 = σ 104 b ∧ s 77 4 = hs q hi (σ 104 b) (σ 106 b) m) → EvN (bl_mi 4) 31 [(0, .ref 3), (1, .ref r), (2, .ref (14 + b)), (3, .int (nI b)), (4, .int (nI (g b m))), (5, .int (nI (m + 1)))] s (MG b tm g s0)) ?_ ?_
    · intro s ⟨h1, h2, h3, h4, h5, h6, h7⟩
      refine ⟨s, ⟨fun d z1 z2 z3 z4 => ?_, fun j hj => ?_, h3, h4, fun j hj => ?_, ?_, fun j hj => ?_⟩, vc_X0_measureGains_31 _ _ _ _ _ _ hr (kdb b b6) ⟨fun z => absurd z (by decide), fun _ => ⟨rfl, rfl⟩⟩⟩
      · rw [h1 d z1 z2 z4, s2c d z2 z3 z4]
      · rw [h2 j hj, s2c 73 (by omega) (by omega) (by omega)]
      · rw [h5 j hj, e2, bl_up_j hj, bl_up_c (by omega), s1c 74 (by omega)]
      · rw [h1 75 (by omega) (by omega) (by omega), e2, bl_up_c (by omega), bl_up_s]
      · rw [h1 75 (by omega) (by omega) (by omega), e2, bl_up_c (by omega), bl_up_j hj, s1c 75 (by omega)]
    · intro m hm ih s ⟨h1, h2, h3, h4, h5, h6, h7⟩
      have hs74 : ∀ d, d ≠ 3 ∧ (d < 69 ∨ 77 < d) → s d = s0 d := fun d z => by rw [h1 d (by omega) (by omega) (by omega), s2c d (by omega) (by omega) (by omega)]
      have htry := c_X5_tryHandful s (r := r) (b := 77) hr rfl
      rw [hs74 r hr2, q2, q4, q3, h6, h7] at htry
      have eg : nI (g b m) + gn q hi (σ 104 b) ap (hs q hi (σ 104 b) (σ 106 b) m) = nI (g b (m + 1)) := by
        rw [← hg m, ← hg (m + 1)]
        rfl
      have ey := i_sub eg
      rw [pk_sub (hgm m)] at ey
      have ehs : hs q hi (σ 104 b) (σ 106 b) m - hq q hi (σ 104 b) (hs q hi (σ 104 b) (σ 106 b) m) = hs q hi (σ 104 b) (σ 106 b) (m + 1) := rfl
      rw [ehs] at htry
      have hgl1 := hgl (m + 1)
      have ex : nI b * 25 + nI (m + 1) = nI (b * 25 + (m + 1)) := by rw [show (25 : Int32) = nI 25 from rfl, nI_mul, nI_add]
      obtain ⟨s3, e3⟩ : ∃ s3, s3 = bl_up s 77 4 (hs q hi (σ 104 b) (σ 106 b) (m + 1)) := ⟨_, rfl⟩
      rw [← e3] at htry
      obtain ⟨s4, e4⟩ : ∃ s4, s4 = (if 0 < gn q hi (σ 104 b) ap (hs q hi (σ 104 b) (σ 106 b) m) then bl_up (bl_up s3 73 (b * 25 + (m + 1)) (nI (g b (m + 1)))) 74 b (nI (m + 1)) else bl_up s3 73 (b * 25 + (m + 1)) (nI (g b (m + 1)))) := ⟨_, rfl⟩
      have hpos : 0 < gn q hi (σ 104 b) ap (hs q hi (σ 104 b) (σ 106 b) m) ↔ g b m < g b (m + 1) := by
        rw [ey, show (0 : Int32) = nI 0 from rfl, nI_ltI (by omega) (by omega)]
        omega
      have s4c : ∀ d, d ≠ 73 → d ≠ 74 → d ≠ 77 → s4 d = s d := fun d z1 z2 z3 => by
        rw [e4]
        split
        · rw [bl_up_ne z2, bl_up_ne z1, e3, bl_up_ne z3]
        · rw [bl_up_ne z1, e3, bl_up_ne z3]
      have s473 : s4 73 = (bl_up s3 73 (b * 25 + (m + 1)) (nI (g b (m + 1)))) 73 := by
        rw [e4]
        split
        · rw [bl_up_ne (by omega)]
        · rfl
      have s474 : ∀ j, j ≠ b → s4 74 j = s 74 j := fun j hj => by
        rw [e4]
        split
        · rw [bl_up_j hj, bl_up_c (by omega), e3, bl_up_c (by omega)]
        · rw [bl_up_c (by omega), e3, bl_up_c (by omega)]
      have s477 : s4 77 = s3 77 := by
        rw [e4]
        split
        · rw [bl_up_ne (by omega), bl_up_ne (by omega)]
        · rw [bl_up_ne (by omega)]
      obtain ⟨τ, hP, hW⟩ := ih s4 ⟨fun d z1 z2 z3 => by rw [s4c d z1 z2 z3, h1 d z1 z2 z3], fun j hj => by rw [s473, bl_up_j (by omega), e3, bl_up_c (by omega)]; exact h2 j (by omega), fun h z1 z2 => by
        rw [s473]
        by_cases e : h = m + 1
        · rw [e, bl_up_s]
        · rw [bl_up_j (by omega), e3, bl_up_c (by omega)]
          exact h3 h z1 (by omega), by
        unfold uF
        rw [e4]
        by_cases z : g b m < g b (m + 1)
        · rw [if_pos (hpos.mpr z), if_pos z, bl_up_s]
        · rw [if_neg (fun w => z (hpos.mp w)), if_neg z, bl_up_c (by omega), e3, bl_up_c (by omega)]
          exact h4, fun j hj => by rw [s474 j hj]; exact h5 j hj, by rw [s477, e3, bl_up_j (by omega)]; exact h6, by rw [s477, e3, bl_up_s]⟩
      refine ⟨τ, hP, vc_X0_measureGains_31 _ _ _ _ _ _ hr (kdb b b6) ⟨fun _ => ⟨_, _, htry, ?_, fun _ => vib b6, fun s' e' => ?_⟩, fun z => absurd ?_ z⟩⟩
      · rw [ex]
        exact vp_in_nI (by omega) (by omega)
      · rw [ex, nI_clamp (show b * 25 + (m + 1) < 2 ^ 31 by omega), ntb b6, eg, ← e4] at e'
        rw [e', eg, nI_1]
        exact hW
      · rw [show (25 : Int32) = nI 25 from rfl]
        exact nI_lt (by omega) (by omega)
  have eg0 : nI (g b 0) = 0 := (hg 0).symm
  obtain ⟨τ, hP, hW⟩ := key s2 ⟨fun _ _ _ _ => rfl, fun _ _ => rfl, fun h z1 z2 => by omega, by rw [e2, bl_up_s]; rfl, fun _ _ => rfl, by rw [e2, bl_up_c (by omega), bl_up_c (by omega), e1, bl_cp_s (by omega), k2], by rw [e2, bl_up_c (by omega), bl_up_c (by omega), e1, bl_cp_s (by omega), k4]; rfl⟩
  rw [eg0] at hW
  refine ⟨τ, hP, bl_c (Nat.le_of_ble_eq_true rfl) (vc_X0_measureGains_0 s0 r (14 + b) _ hr (kdb b b6) ⟨_, hcp, _, _, hmo, vib b6, ?_⟩)⟩
  rw [ntb b6, ← e2]
  exact hW
def MW (nb b : Nat) (W : Nat → Nat → Nat) (s τ : bl_S) : Prop := (∀ d, d ≠ 76 → τ d = s d) ∧ (∀ a, a < nb ∨ a = 6 → τ 76 (a * 6 + b) = nI (W a b)) ∧ ∀ a c, c < 6 → c ≠ b → τ 76 (a * 6 + c) = s 76 (a * 6 + c)
theorem mwC {σ s0 : bl_S} {nb b r : Nat} {W : Nat → Nat → Nat} {tm : Nat → Nat} {g : Nat → Nat → Nat} {py ps q hi ap : Int32} (hD : WD nb σ py ps q hi ap W tm g) (hn : nb ≤ 6) (hb : b < nb) (hr : bl_kd r = 5) (hr2 : r ≠ 76) (q0 : s0 r 0 = py) (q1 : s0 r 1 = ps) (k0 : ∀ a, a < nb → s0 (14 + a) 0 = σ 102 a) (k1 : ∀ a, a < nb → s0 (14 + a) 1 = σ 103 a) (h11 : s0 3 11 = nI nb) : ∃ τ, MW nb b W s0 τ ∧ bl_Con (bl_mi 7) [.ref 3, .ref 10, .ref r, .int (nI b)] s0 none τ := by
  have b6 : b < 6 := by omega
  have key : ∀ s : bl_S, ((∀ d, d ≠ 76 → s d = s0 d) ∧ (∀ a, a < 0 → s 76 (a * 6 + b) = nI (W a b)) ∧ ∀ a c, c < 6 → c ≠ b → s 76 (a * 6 + c) = s0 76 (a * 6 + c)) → EvN (bl_mi 7) 11 [(0, .ref 3), (1, .ref 10), (2, .ref r), (3, .int (nI b)), (4, .ref (14 + b)), (5, .int (nI 0))] s (MW nb b W s0) := by
    refine bl_dn (N := nb) (P := fun m => ∀ s : bl_S, ((∀ d, d ≠ 76 → s d = s0 d) ∧ (∀ a, a < m → s 76 (a * 6 + b) = nI (W a b)) ∧ ∀ a c, c < 6 → c ≠ b → s 76 (a * 6 + c) = s0 76 (a * 6 + c)) → EvN (bl_mi 7) 11 [(0, .ref 3), (1, .ref 10), (2, .ref r), (3, .int (nI b)), (4, .ref (14 + b)), (5, .int (nI m))] s (MW nb b W s0)) ?_ ?_
    · intro s ⟨h1, h2, h3⟩
      have hw := c_X5_momentsTo s (r := r) (b := 14 + b) hr (kdb b b6)
      rw [h1 r hr2, h1 (14 + b) (by omega), q0, q1, k0 b hb, k1 b hb, hD.2.2.1 b hb] at hw
      refine ⟨bl_up s 76 (36 + b) (nI (W 6 b)), ⟨fun d hd => by rw [bl_up_ne hd, h1 d hd], fun a ha => ?_, fun a c z1 z2 => ?_⟩, vc_X0_measureWays_11 _ _ _ _ _ _ rfl hr ⟨fun z => absurd z ?_, fun _ => ⟨_, _, hw, ?_, ?_⟩⟩⟩
      · by_cases e : a = 6
        · rw [e, show 6 * 6 + b = 36 + b by omega, bl_up_s]
        · rw [bl_up_j (by omega)]
          exact h2 a (by omega)
      · rw [bl_up_j (by omega)]
        exact h3 a c z1 z2
      · rw [h1 3 (by omega), h11]
        exact nI_nlt (Nat.le_refl _) (by omega)
      · rw [show (36 : Int32) = nI 36 from rfl, nI_add]
        exact vp_in_nI (by omega) (by omega)
      · rw [show (36 : Int32) = nI 36 from rfl, nI_add, nI_clamp (by omega)]
        exact ⟨rfl, rfl⟩
    · intro m hm ih s ⟨h1, h2, h3⟩
      have m6 : m < 6 := by omega
      have hw := c_X1_momentsFrom s (r := 14 + b) (s (14 + m) 0) (s (14 + m) 1) (kdb b b6)
      rw [h1 (14 + m) (by omega), h1 (14 + b) (by omega), k0 m hm, k1 m hm, k0 b hb, k1 b hb, hD.2.1 m b hm hb] at hw
      have ex : nI m * 6 + nI b = nI (m * 6 + b) := by rw [show (6 : Int32) = nI 6 from rfl, nI_mul, nI_add]
      obtain ⟨τ, hP, hW⟩ := ih (bl_up s 76 (m * 6 + b) (nI (W m b))) ⟨fun d hd => by rw [bl_up_ne hd, h1 d hd], fun a ha => by
        by_cases e : a = m
        · rw [e, bl_up_s]
        · rw [bl_up_j (by omega)]
          exact h2 a (by omega), fun a c z1 z2 => by
        rw [bl_up_j (by omega)]
        exact h3 a c z1 z2⟩
      refine ⟨τ, hP, vc_X0_measureWays_11 _ _ _ _ _ _ rfl hr ⟨fun _ => ⟨rfl, vib m6, ?_⟩, fun z => absurd ?_ z⟩⟩
      · rw [ntb m6, ex, nI_clamp (show m * 6 + b < 2 ^ 31 by omega), nI_1]
        refine ⟨kdb m m6, kdb b b6, nI (W m b), s, ?_, vp_in_nI (by omega) (by omega), hW⟩
        have e0 : s (14 + m) 0 = σ 102 m := by rw [h1 (14 + m) (by omega), k0 m hm]
        have e1 : s (14 + m) 1 = σ 103 m := by rw [h1 (14 + m) (by omega), k1 m hm]
        show bl_Con (bl_mi 5) [.ref (14 + b), .int (s (14 + m) 0), .int (s (14 + m) 1)] s (some (.int (nI (W m b)))) s
        rw [e0, e1]
        exact hw
      · rw [h1 3 (by omega), h11]
        exact nI_lt hm (by omega)
  obtain ⟨τ, hP, hW⟩ := key s0 ⟨fun _ _ => rfl, fun a ha => by omega, fun _ _ _ _ => rfl⟩
  refine ⟨τ, hP, bl_c (Nat.le_of_ble_eq_true rfl) (vc_X0_measureWays_0 s0 10 r _ rfl hr ⟨rfl, vib b6, ?_⟩)⟩
  rw [ntb b6]
  exact hW
