/-! WHERE: contracts -/
theorem bit_or : ∀ m, m < 64 → ∀ b, b < 6 → nI m ||| ((1 : Int32) <<< (nI b &&& 31)) = nI (m ||| 2 ^ b) := by decide +kernel
theorem bit_ts : ∀ m, m < 64 → ∀ b, b < 6 → decide ((nI m >>> (nI b &&& 31)) &&& 1 = 1) = m.testBit b := by decide +kernel
theorem bit_tst {m b : Nat} (hm : m < 64) (hb : b < 6) : ((nI m >>> (nI b &&& 31)) &&& 1 = 1) ↔ m.testBit b = true := by
  rw [← bit_ts m hm b hb, decide_eq_true_iff]
theorem rmk_lt {nb : Nat} {r : Nat → Nat} (hn : nb ≤ 6) : ∀ n, rmk nb r n < 64
  | 0 => by show 0 < 64; omega
  | n + 1 => by
    have ih := rmk_lt (r := r) hn n
    unfold rmk
    by_cases q : r n < nb
    · rw [if_pos q]
      have h2 : 2 ^ r n < 2 ^ 6 := Nat.pow_lt_pow_right (by omega) (by omega)
      exact Nat.or_lt_two_pow (n := 6) ih h2
    · rw [if_neg q]
      exact ih
theorem nI_mul (a b : Nat) : nI a * nI b = nI (a * b) := (Int32.ofNat_mul a b).symm
/-- a value or none -/
def iv (u : Nat) : Int32 := if u = 0 then -1 else nI (u - 1)
theorem iv_lt {a b : Nat} (ha : a < 2 ^ 30) (hb : b < 2 ^ 30) : iv a < iv b ↔ a < b := by
  unfold iv
  by_cases h1 : a = 0
  · rw [if_pos h1]
    by_cases h2 : b = 0
    · rw [if_pos h2]
      exact ⟨fun h => absurd h (by decide), fun h => by omega⟩
    · rw [if_neg h2]
      exact ⟨fun _ => by omega, fun _ => neg1_lt (by omega)⟩
  · rw [if_neg h1]
    by_cases h2 : b = 0
    · rw [if_pos h2]
      refine ⟨fun h => ?_, fun h => by omega⟩
      rw [Int32.lt_iff_toInt_lt, nI_toInt (by omega)] at h
      have : (-1 : Int32).toInt = -1 := by decide
      omega
    · rw [if_neg h2, nI_ltI (by omega) (by omega)]
      omega
theorem c_fill (s : bl_S) : ∃ τ, ((∀ d, d ≠ 79 → τ d = s d) ∧ ∀ k, k < 4 → τ 79 k = 0) ∧ bl_Con (bl_mi 36) [.ref 79, .int 0] s none τ := by
  have key : ∀ t : bl_S, ((∀ d, d ≠ 79 → t d = s d) ∧ ∀ k, k < 0 → t 79 k = 0) → EvN (bl_mi 36) 5 [(0, .ref 79), (1, .int 0), (2, .int (nI 0)), (3, .int (Int32.ofNat (bl_ln 79)))] t (fun τ => (∀ d, d ≠ 79 → τ d = s d) ∧ ∀ k, k < 4 → τ 79 k = 0) := by
    refine bl_dn (N := 4) (P := fun m => ∀ t : bl_S, ((∀ d, d ≠ 79 → t d = s d) ∧ ∀ k, k < m → t 79 k = 0) → EvN (bl_mi 36) 5 [(0, .ref 79), (1, .int 0), (2, .int (nI m)), (3, .int (Int32.ofNat (bl_ln 79)))] t (fun τ => (∀ d, d ≠ 79 → τ d = s d) ∧ ∀ k, k < 4 → τ 79 k = 0)) ?_ ?_
    · intro t h
      exact ⟨t, h, vc_J7_fill_53178_5 _ _ _ _ _ rfl ⟨fun q => absurd q (by decide), fun _ => ⟨rfl, rfl⟩⟩⟩
    · intro m hm ih t h
      obtain ⟨τ, hP, hW⟩ := ih (bl_up t 79 m 0) ⟨fun d hd => by rw [bl_up_ne hd]; exact h.1 d hd, fun k hk => by
        by_cases e : k = m
        · rw [e, bl_up_s]
        · rw [bl_up_j e]; exact h.2 k (by omega)⟩
      refine ⟨τ, hP, vc_J7_fill_53178_5 _ _ _ _ _ rfl ⟨fun _ => ⟨vip hm, ?_⟩, fun q => absurd ?_ q⟩⟩
      · rw [ntp hm, nI_1]
        exact hW
      · show nI m < nI 4
        exact nI_lt hm (by omega)
  obtain ⟨τ, hP, hW⟩ := key s ⟨fun _ _ => rfl, fun k hk => by omega⟩
  exact ⟨τ, hP, bl_c (Nat.le_of_ble_eq_true rfl) (vc_J7_fill_53178_0 s _ _ rfl hW)⟩
theorem c_X6_countRows (s : bl_S) {nb np : Nat} (hn2 : np ≤ 4) (h5 : s 4 5 = nI nb) (h6 : s 4 6 = nI np) : bl_Con (bl_mi 37) [.ref 4] s (some (.int (nI ((nb + 1) ^ np)))) s := by
  refine bl_c (Nat.le_of_ble_eq_true rfl) (vc_X6_countRows_0 s ?_)
  refine bl_dn (N := np) (P := fun m => bl_Wx (bl_mi 37) 4 [(0, .ref 4), (1, .int (nI ((nb + 1) ^ m))), (2, .int (nI m))] [] s (fun v τ => v = some (.int (nI ((nb + 1) ^ np))) ∧ τ = s)) ?_ ?_
  · refine vc_X6_countRows_4 _ _ _ ⟨fun q => absurd q ?_, fun _ => ⟨rfl, rfl⟩⟩
    rw [h6]
    exact nI_nlt (Nat.le_refl _) (by omega)
  · intro m hm ih
    refine vc_X6_countRows_4 _ _ _ ⟨fun _ => ?_, fun q => absurd ?_ q⟩
    · rw [h5, nI_1, nI_1, nI_mul]
      exact ih
    · rw [h6]
      exact nI_lt hm (by omega)
/-- what class and reference hold of gains -/
def PG (nb np : Nat) (G : Nat → Nat → Nat) (s : bl_S) : Prop := s 4 5 = nI nb ∧ s 4 6 = nI np ∧ ∀ p b, p < np → b < nb → s 78 (p * 6 + b) = nI (G p b)
theorem c_X6_sumOfRow (s : bl_S) {nb np : Nat} {G : Nat → Nat → Nat} {r : Nat → Nat} (hn : nb ≤ 6) (hn2 : np ≤ 4) (hG : PG nb np G s) (hr : ∀ k, k < np → s 79 k = nI (r k)) (hle : ∀ k, r k ≤ nb) : bl_Con (bl_mi 38) [.ref 4] s (some (.int (iv (if rok nb r np then rsm G nb r np + 1 else 0)))) s := by
  obtain ⟨h5, h6, hg⟩ := hG
  refine bl_c (Nat.le_of_ble_eq_true rfl) (vc_X6_sumOfRow_0 s ?_)
  have key : rok nb r 0 = true → bl_Wx (bl_mi 38) 6 [(0, .ref 4), (1, .int (nI (rmk nb r 0))), (2, .int (nI (rsm G nb r 0))), (3, .int (nI 0))] [] s (fun v τ => v = some (.int (iv (if rok nb r np then rsm G nb r np + 1 else 0))) ∧ τ = s) := by
    refine bl_dn (N := np) (P := fun n => rok nb r n = true → bl_Wx (bl_mi 38) 6 [(0, .ref 4), (1, .int (nI (rmk nb r n))), (2, .int (nI (rsm G nb r n))), (3, .int (nI n))] [] s (fun v τ => v = some (.int (iv (if rok nb r np then rsm G nb r np + 1 else 0))) ∧ τ = s)) ?_ ?_
    · intro hk
      refine vc_X6_sumOfRow_6 _ _ _ _ ⟨fun q => absurd q ?_, fun _ => ⟨?_, rfl⟩⟩
      · rw [h6]
        exact nI_nlt (Nat.le_refl _) (by omega)
      · rw [hk]
        rfl
    · intro n hnp ih hk
      have n4 : n < 4 := by omega
      have hlt : nI n < s 4 6 := by
        rw [h6]
        exact nI_lt hnp (by omega)
      have hrn := hle n
      by_cases q : r n < nb
      · have b6 : r n < 6 := by omega
        have hmk := rmk_lt (r := r) hn n
        have e6 : nI n * 6 + nI (r n) = nI (n * 6 + r n) := by
          rw [show (6 : Int32) = nI 6 from rfl, nI_mul, nI_add]
        by_cases tb : (rmk nb r n).testBit (r n) = true
        · have hbad : rok nb r np = false := by
            cases hc : rok nb r np with
            | false => rfl
            | true =>
              rw [rok_iff] at hc
              obtain ⟨z1, k, z2, z3⟩ := (rmk_bit (r n) n).mp tb
              exact absurd z3 (hc k n z2 hnp (by omega))
          rw [hbad]
          refine vc_X6_sumOfRow_6 _ _ _ _ ⟨fun _ => ⟨vip n4, ?_⟩, fun z => absurd hlt z⟩
          rw [ntp n4, hr n hnp, h5]
          exact ⟨fun _ => ⟨fun _ => ⟨rfl, rfl⟩, fun z => absurd ((bit_tst hmk b6).mpr tb) z⟩, fun z => absurd (nI_lt q (by omega)) z⟩
        · have hk1 : rok nb r (n + 1) = true := by
            unfold rok
            rw [hk, Bool.true_and, Bool.or_eq_true]
            exact Or.inr (by simp [tb])
          have ih := ih hk1
          have e1 : rmk nb r (n + 1) = rmk nb r n ||| 2 ^ r n := by
            show (if r n < nb then _ else _) = _
            rw [if_pos q]
          have e2 : rsm G nb r (n + 1) = rsm G nb r n + G n (r n) := by
            show (if r n < nb then _ else _) = _
            rw [if_pos q]
          rw [e1, e2] at ih
          refine vc_X6_sumOfRow_6 _ _ _ _ ⟨fun _ => ⟨vip n4, ?_⟩, fun z => absurd hlt z⟩
          rw [ntp n4, hr n hnp, h5]
          refine ⟨fun _ => ⟨fun z => absurd ((bit_tst hmk b6).mp z) tb, fun _ v4 e4 => ?_⟩, fun z => absurd (nI_lt q (by omega)) z⟩
          rw [e6, nI_clamp (show n * 6 + r n < 2 ^ 31 by omega), hg n (r n) hnp q]
          refine ⟨vp_in_nI (by omega) (by omega), fun v6 e6' => ?_⟩
          rw [e4, e6', bit_or _ hmk _ b6, nI_add, nI_1]
          exact ih
      · have hk1 : rok nb r (n + 1) = true := by
          unfold rok
          rw [hk, Bool.true_and, Bool.or_eq_true]
          exact Or.inl (decide_eq_true (by omega))
        have ih := ih hk1
        have e1 : rmk nb r (n + 1) = rmk nb r n := by
          show (if r n < nb then _ else _) = _
          rw [if_neg q]
        have e2 : rsm G nb r (n + 1) = rsm G nb r n := by
          show (if r n < nb then _ else _) = _
          rw [if_neg q]
        rw [e1, e2] at ih
        refine vc_X6_sumOfRow_6 _ _ _ _ ⟨fun _ => ⟨vip n4, ?_⟩, fun z => absurd hlt z⟩
        rw [ntp n4, hr n hnp, h5, nI_1]
        exact ⟨fun z => absurd z (nI_nlt (by omega) (by omega)), fun _ => ih⟩
  exact key rfl
theorem c_X6_stepRow (s : bl_S) {nb np : Nat} {r : Nat → Nat} (hn : nb ≤ 6) (hn2 : np ≤ 4) (h5 : s 4 5 = nI nb) (h6 : s 4 6 = nI np) (hr : ∀ k, k < np → s 79 k = nI (r k)) (hle : ∀ k, r k ≤ nb) : ∃ τ, ((∀ d, d ≠ 79 → τ d = s d) ∧ ∀ k, k < np → τ 79 k = nI (stp nb np r k)) ∧ bl_Con (bl_mi 39) [.ref 4] s none τ := by
  have key : ∀ n, n ≤ np → ∀ (r' : Nat → Nat) (t : bl_S), (∀ d, d ≠ 79 → t d = s d) → (∀ k, k < np → t 79 k = nI (r' k)) → (∀ k, r' k ≤ nb) → EvN (bl_mi 39) 7 [(0, .ref 4), (1, .int (nI n - 1))] t (fun τ => (∀ d, d ≠ 79 → τ d = s d) ∧ ∀ k, k < np → τ 79 k = nI (stp nb n r' k)) := by
    intro n
    induction n with
    | zero =>
      intro _ r' t h1 h2 _
      exact ⟨t, ⟨h1, h2⟩, vc_X6_stepRow_7 _ _ ⟨fun _ => ⟨rfl, rfl⟩, fun q => absurd (by decide) q⟩⟩
    | succ n ih =>
      intro hnp r' t h1 h2 h3
      have n4 : n < 4 := by omega
      have hneg : ¬ nI n < 0 := nI_pos (by omega)
      rw [nI_pred]
      by_cases q : r' n < nb
      · refine ⟨bl_up t 79 n (nI (r' n + 1)), ⟨fun d hd => by rw [bl_up_ne hd]; exact h1 d hd, fun k hk => ?_⟩, vc_X6_stepRow_7 _ _ ⟨fun z => absurd z hneg, fun _ => ⟨vip n4, ?_⟩⟩⟩
        · unfold stp
          rw [if_pos q]
          by_cases e : k = n
          · rw [e, bl_up_s, rst_s]
          · rw [bl_up_j e, rst_n e]; exact h2 k hk
        · rw [ntp n4, h2 n (by omega), h1 4 (by omega), h5]
          exact ⟨fun _ v e => ⟨rfl, by rw [e, nI_1]⟩, fun z => absurd (nI_lt q (by omega)) z⟩
      · obtain ⟨τ, hP, hW⟩ := ih (by omega) (rst r' n 0) (bl_up t 79 n 0) (fun d hd => by rw [bl_up_ne hd]; exact h1 d hd) (fun k hk => by
          by_cases e : k = n
          · rw [e, bl_up_s, rst_s]; rfl
          · rw [bl_up_j e, rst_n e]; exact h2 k hk) (fun k => by
          by_cases e : k = n
          · rw [e, rst_s]; omega
          · rw [rst_n e]; exact h3 k)
        refine ⟨τ, ⟨hP.1, fun k hk => ?_⟩, vc_X6_stepRow_7 _ _ ⟨fun z => absurd z hneg, fun _ => ⟨vip n4, ?_⟩⟩⟩
        · unfold stp
          rw [if_neg q]
          exact hP.2 k hk
        · have := h3 n
          rw [ntp n4, h2 n (by omega), h1 4 (by omega), h5]
          refine ⟨fun z => absurd z (nI_nlt (by omega) (by omega)), fun _ => ?_⟩
          rw [show nI n + (-1 : Int32) = nI n - 1 from by rw [Int32.sub_eq_add_neg]]
          exact hW
  obtain ⟨τ, hP, hW⟩ := key np (Nat.le_refl _) r s (fun _ _ => rfl) hr hle
  refine ⟨τ, hP, bl_c (Nat.le_of_ble_eq_true rfl) (vc_X6_stepRow_0 s ?_)⟩
  rw [h6]
  exact hW
/-- gains, as both find them -/
def GG (σ : bl_S) (nb np h : Nat) (G : Nat → Nat → Nat) : Prop := ∀ p b, p < np → b < nb → gs (σ 110 p) (σ 112 p) (σ 104 b) (σ 111 p) (σ 106 b) h = nI (G p b) ∧ G p b ≤ 20 * h
theorem GG_ex {σ : bl_S} {nb np : Nat} (hb : Jb nb σ) (hp : Jp np σ) {h : Nat} (hh : h ≤ 60) : ∃ G, GG σ nb np h G := by
  refine ⟨fun p b => Int32.toNatClampNeg (gs (σ 110 p) (σ 112 p) (σ 104 b) (σ 111 p) (σ 106 b) h), fun p b hpn hbn => ?_⟩
  obtain ⟨-, y, s, kd, rd, rp, sf, -, -, a3, a4, -, -, b3, -, b5, -⟩ := hb b hbn
  obtain ⟨-, y1, s1, q1, e1, i1, -, -, c3, c4, c5, c6, -, -, d3, d4, d5⟩ := hp p hpn
  show gs (σ 110 p) (σ 112 p) (σ 104 b) (σ 111 p) (σ 106 b) h = nI (Int32.toNatClampNeg (gs (σ 110 p) (σ 112 p) (σ 104 b) (σ 111 p) (σ 106 b) h)) ∧ Int32.toNatClampNeg (gs (σ 110 p) (σ 112 p) (σ 104 b) (σ 111 p) (σ 106 b) h) ≤ 20 * h
  rw [b3, b5, d3, d4, d5, gsN_eq (by omega) (by omega) (by omega) (by omega) (by omega)]
  have m1 := gsN_le q1 i1 kd e1 rp h
  have m3 : q1 * h ≤ 20 * h := Nat.mul_le_mul_right _ c4
  rw [nI_clamp (by omega)]
  exact ⟨rfl, by omega⟩
