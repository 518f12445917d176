/-! ROWS, in natural numbers: who stands where. nb is the number behind the last bush. -/
def rcod (nb : Nat) (r : Nat → Nat) : Nat → Nat
  | 0 => 0
  | n + 1 => rcod nb r n * (nb + 1) + r n
def rst (r : Nat → Nat) (p b : Nat) : Nat → Nat := fun k => if k = p then b else r k
theorem rst_s (r : Nat → Nat) (p b : Nat) : rst r p b p = b := if_pos rfl
theorem rst_n {r : Nat → Nat} {p b k : Nat} (h : k ≠ p) : rst r p b k = r k := if_neg h
/-- the next row: figures before n -/
def stp (nb : Nat) : Nat → (Nat → Nat) → (Nat → Nat)
  | 0, r => r
  | n + 1, r => if r n < nb then rst r n (r n + 1) else stp nb n (rst r n 0)
theorem rcod_ext {nb : Nat} {r s : Nat → Nat} : ∀ n, (∀ k, k < n → r k = s k) → rcod nb r n = rcod nb s n
  | 0, _ => rfl
  | n + 1, h => by
    show rcod nb r n * (nb + 1) + r n = rcod nb s n * (nb + 1) + s n
    rw [rcod_ext n (fun k hk => h k (by omega)), h n (by omega)]
theorem rcod_lt {nb : Nat} {r : Nat → Nat} : ∀ n, (∀ k, k < n → r k ≤ nb) → rcod nb r n < (nb + 1) ^ n
  | 0, _ => Nat.one_pos
  | n + 1, h => by
    have h1 := rcod_lt n (fun k hk => h k (by omega))
    have h2 := h n (by omega)
    show rcod nb r n * (nb + 1) + r n < (nb + 1) ^ n * (nb + 1)
    have h3 : (rcod nb r n + 1) * (nb + 1) ≤ (nb + 1) ^ n * (nb + 1) := Nat.mul_le_mul_right _ h1
    rw [Nat.add_mul] at h3
    omega
theorem stp_n {nb : Nat} : ∀ n (r : Nat → Nat) k, n ≤ k → stp nb n r k = r k
  | 0, _, _, _ => rfl
  | n + 1, r, k, h => by
    unfold stp
    split
    · exact rst_n (by omega)
    · rw [stp_n n _ k (by omega)]
      exact rst_n (by omega)
theorem stp_le {nb : Nat} : ∀ n (r : Nat → Nat), (∀ k, r k ≤ nb) → ∀ k, stp nb n r k ≤ nb
  | 0, _, h, k => h k
  | n + 1, r, h, k => by
    unfold stp
    split
    · next q =>
      by_cases e : k = n
      · rw [e, rst_s]; omega
      · rw [rst_n e]; exact h k
    · refine stp_le n _ (fun k => ?_) k
      by_cases e : k = n
      · rw [e, rst_s]; omega
      · rw [rst_n e]; exact h k
theorem stp_cod {nb : Nat} : ∀ n (r : Nat → Nat), (∀ k, r k ≤ nb) → rcod nb r n + 1 < (nb + 1) ^ n → rcod nb (stp nb n r) n = rcod nb r n + 1
  | 0, _, _, h => absurd h (by show ¬ (0 + 1 < 1); omega)
  | n + 1, r, hr, h => by
    have h : rcod nb r n * (nb + 1) + r n + 1 < (nb + 1) ^ n * (nb + 1) := h
    unfold stp
    split
    · next q =>
      show rcod nb (rst r n (r n + 1)) n * (nb + 1) + rst r n (r n + 1) n = rcod nb r n * (nb + 1) + r n + 1
      rw [rst_s, rcod_ext n (r := rst r n (r n + 1)) (s := r) (fun k hk => rst_n (by omega))]
      omega
    · next q =>
      have hq : r n = nb := by have := hr n; omega
      have e1 : rcod nb (rst r n 0) n = rcod nb r n := rcod_ext n (fun k hk => rst_n (by omega))
      have h1 : rcod nb r n + 1 < (nb + 1) ^ n := by
        have : (rcod nb r n + 1) * (nb + 1) < (nb + 1) ^ n * (nb + 1) := by
          rw [Nat.add_mul]
          omega
        exact Nat.lt_of_mul_lt_mul_right this
      have ih := stp_cod n (rst r n 0) (fun k => by
        by_cases e : k = n
        · rw [e, rst_s]; omega
        · rw [rst_n e]; exact hr k) (by rw [e1]; exact h1)
      show rcod nb (stp nb n (rst r n 0)) n * (nb + 1) + stp nb n (rst r n 0) n = rcod nb r n * (nb + 1) + r n + 1
      rw [ih, e1, stp_n n _ n (Nat.le_refl _), rst_s, Nat.add_mul]
      omega
theorem rcod_div {nb : Nat} {r : Nat → Nat} {n : Nat} (h : r n ≤ nb) : rcod nb r (n + 1) / (nb + 1) = rcod nb r n ∧ rcod nb r (n + 1) % (nb + 1) = r n := by
  have e : rcod nb r (n + 1) = r n + (nb + 1) * rcod nb r n := by
    show rcod nb r n * (nb + 1) + r n = _
    rw [Nat.mul_comm, Nat.add_comm]
  rw [e, Nat.add_mul_div_left _ _ (by omega), Nat.add_mul_mod_self_left, Nat.div_eq_of_lt (by omega), Nat.mod_eq_of_lt (by omega)]
  omega
theorem rcod_inj {nb : Nat} {r s : Nat → Nat} : ∀ n, (∀ k, k < n → r k ≤ nb) → (∀ k, k < n → s k ≤ nb) → rcod nb r n = rcod nb s n → ∀ k, k < n → r k = s k
  | 0, _, _, _, k, hk => by omega
  | n + 1, hr, hs, e, k, hk => by
    have d1 := rcod_div (hr n (by omega))
    have d2 := rcod_div (hs n (by omega))
    rw [e] at d1
    by_cases q : k = n
    · rw [q, ← d1.2, ← d2.2]
    · exact rcod_inj n (fun k hk => hr k (by omega)) (fun k hk => hs k (by omega)) (by rw [← d1.1, ← d2.1]) k (by omega)
/-- the rows in their order -/
def rows (nb np : Nat) : Nat → Nat → Nat
  | 0 => fun _ => 0
  | i + 1 => stp nb np (rows nb np i)
theorem rows_le {nb np : Nat} : ∀ i k, rows nb np i k ≤ nb
  | 0, _ => Nat.zero_le _
  | i + 1, k => stp_le np _ (rows_le i) k
theorem rcod_0 {nb : Nat} : ∀ n, rcod nb (fun _ => 0) n = 0
  | 0 => rfl
  | n + 1 => by
    show rcod nb (fun _ => 0) n * (nb + 1) + 0 = 0
    rw [rcod_0 n]
    omega
theorem rows_cod {nb np : Nat} : ∀ i, i < (nb + 1) ^ np → rcod nb (rows nb np i) np = i
  | 0, _ => rcod_0 np
  | i + 1, h => by
    have ih := rows_cod (nb := nb) (np := np) i (by omega)
    show rcod nb (stp nb np (rows nb np i)) np = i + 1
    rw [stp_cod np _ (rows_le i) (by rw [ih]; exact h), ih]
/-- bushes taken, as a set; no two at one; how many at none; what all have -/
def rmk (nb : Nat) (r : Nat → Nat) : Nat → Nat
  | 0 => 0
  | n + 1 => if r n < nb then rmk nb r n ||| 2 ^ r n else rmk nb r n
def rok (nb : Nat) (r : Nat → Nat) : Nat → Bool
  | 0 => true
  | n + 1 => rok nb r n && (decide (nb ≤ r n) || !(rmk nb r n).testBit (r n))
def rwo (nb : Nat) (r : Nat → Nat) : Nat → Nat
  | 0 => 0
  | n + 1 => if r n < nb then rwo nb r n else rwo nb r n + 1
def rsm (G : Nat → Nat → Nat) (nb : Nat) (r : Nat → Nat) : Nat → Nat
  | 0 => 0
  | n + 1 => if r n < nb then rsm G nb r n + G n (r n) else rsm G nb r n
theorem rmk_bit {nb : Nat} {r : Nat → Nat} (b : Nat) : ∀ n, (rmk nb r n).testBit b = true ↔ b < nb ∧ ∃ k, k < n ∧ r k = b
  | 0 => by
    show (0 : Nat).testBit b = true ↔ _
    rw [Nat.zero_testBit]
    exact ⟨fun h => absurd h (by decide), fun ⟨_, k, hk, _⟩ => absurd hk (Nat.not_lt_zero k)⟩
  | n + 1 => by
    have ih := rmk_bit (nb := nb) (r := r) b n
    unfold rmk
    by_cases q : r n < nb
    · rw [if_pos q, Nat.testBit_or, Bool.or_eq_true, ih, Nat.testBit_two_pow, decide_eq_true_iff]
      refine ⟨fun h => ?_, fun ⟨h1, k, hk, e⟩ => ?_⟩
      · rcases h with ⟨h1, k, hk, e⟩ | e
        · exact ⟨h1, k, by omega, e⟩
        · exact ⟨by omega, n, by omega, e⟩
      · by_cases z : k = n
        · exact Or.inr (by rw [← e, z])
        · exact Or.inl ⟨h1, k, by omega, e⟩
    · rw [if_neg q, ih]
      refine ⟨fun ⟨h1, k, hk, e⟩ => ⟨h1, k, by omega, e⟩, fun ⟨h1, k, hk, e⟩ => ⟨h1, k, ?_, e⟩⟩
      have : k ≠ n := fun z => by rw [z] at e; omega
      omega
theorem rok_iff {nb : Nat} {r : Nat → Nat} : ∀ n, rok nb r n = true ↔ ∀ i j, i < j → j < n → r i < nb → r i ≠ r j
  | 0 => ⟨fun _ i j _ h => absurd h (Nat.not_lt_zero j), fun _ => rfl⟩
  | n + 1 => by
    have ih := rok_iff (nb := nb) (r := r) n
    have hb := rmk_bit (nb := nb) (r := r) (r n) n
    unfold rok
    rw [Bool.and_eq_true, ih, Bool.or_eq_true, decide_eq_true_iff, Bool.not_eq_true']
    constructor
    · rintro ⟨h1, h2⟩ i j hij hj hi e
      by_cases z : j = n
      · subst z
        rcases h2 with h2 | h2
        · omega
        · have := hb.mpr ⟨by omega, i, hij, e⟩
          rw [h2] at this
          cases this
      · exact h1 i j hij (by omega) hi e
    · intro h
      refine ⟨fun i j hij hj hi => h i j hij (by omega) hi, ?_⟩
      by_cases z : nb ≤ r n
      · exact Or.inl z
      · refine Or.inr ?_
        cases hc : (rmk nb r n).testBit (r n) with
        | false => rfl
        | true =>
          obtain ⟨h1, k, hk, e⟩ := hb.mp hc
          exact absurd e (h k n hk (by omega) (by omega))
theorem rmk_ext {nb : Nat} {r s : Nat → Nat} : ∀ n, (∀ k, k < n → r k = s k) → rmk nb r n = rmk nb s n
  | 0, _ => rfl
  | n + 1, h => by
    unfold rmk
    rw [h n (by omega), rmk_ext n (fun k hk => h k (by omega))]
theorem rok_ext {nb : Nat} {r s : Nat → Nat} : ∀ n, (∀ k, k < n → r k = s k) → rok nb r n = rok nb s n
  | 0, _ => rfl
  | n + 1, h => by
    unfold rok
    rw [h n (by omega), rok_ext n (fun k hk => h k (by omega)), rmk_ext n (fun k hk => h k (by omega))]
theorem rwo_ext {nb : Nat} {r s : Nat → Nat} : ∀ n, (∀ k, k < n → r k = s k) → rwo nb r n = rwo nb s n
  | 0, _ => rfl
  | n + 1, h => by
    unfold rwo
    rw [h n (by omega), rwo_ext n (fun k hk => h k (by omega))]
theorem rsm_ext {G : Nat → Nat → Nat} {nb : Nat} {r s : Nat → Nat} : ∀ n, (∀ k, k < n → r k = s k) → rsm G nb r n = rsm G nb s n
  | 0, _ => rfl
  | n + 1, h => by
    unfold rsm
    rw [h n (by omega), rsm_ext n (fun k hk => h k (by omega))]
/-- bits before m -/
def bct (M : Nat) : Nat → Nat
  | 0 => 0
  | m + 1 => if M.testBit m then bct M m + 1 else bct M m
theorem bct_or (M a : Nat) : ∀ m, bct (M ||| 2 ^ a) m ≤ bct M m + (if a < m then 1 else 0)
  | 0 => Nat.zero_le _
  | m + 1 => by
    have ih := bct_or M a m
    unfold bct
    rw [Nat.testBit_or, Nat.testBit_two_pow]
    by_cases q : a = m
    · subst q
      rw [if_neg (Nat.lt_irrefl _)] at ih
      rw [if_pos (show a < a + 1 by omega)]
      (repeat' split) <;> omega
    · have e : decide (a = m) = false := decide_eq_false q
      rw [e, Bool.or_false]
      by_cases q2 : a < m
      · rw [if_pos q2] at ih
        rw [if_pos (show a < m + 1 by omega)]
        split <;> omega
      · rw [if_neg q2] at ih
        rw [if_neg (show ¬ a < m + 1 by omega)]
        split <;> omega
theorem bct_0 : ∀ m, bct 0 m = 0
  | 0 => rfl
  | m + 1 => by
    unfold bct
    rw [Nat.zero_testBit, bct_0 m]
    rfl
theorem rmk_bct {nb : Nat} {r : Nat → Nat} (m : Nat) : ∀ n, bct (rmk nb r n) m + rwo nb r n ≤ n
  | 0 => by
    show bct 0 m + 0 ≤ 0
    rw [bct_0]
    exact Nat.le_refl _
  | n + 1 => by
    have ih := rmk_bct (nb := nb) (r := r) m n
    unfold rmk rwo
    by_cases q : r n < nb
    · rw [if_pos q, if_pos q]
      have := bct_or (rmk nb r n) (r n) m
      split at this <;> omega
    · rw [if_neg q, if_neg q]
      omega
theorem bct_all {M : Nat} : ∀ m, (∀ b, b < m → M.testBit b = true) → bct M m = m
  | 0, _ => rfl
  | m + 1, h => by
    unfold bct
    rw [h m (by omega), bct_all m (fun b hb => h b (by omega))]
    rfl
theorem rwo_pos {nb : Nat} {r : Nat → Nat} : ∀ n, 0 < rwo nb r n → ∃ p, p < n ∧ nb ≤ r p
  | 0, h => absurd h (Nat.lt_irrefl 0)
  | n + 1, h => by
    unfold rwo at h
    by_cases q : r n < nb
    · rw [if_pos q] at h
      obtain ⟨p, h1, h2⟩ := rwo_pos n h
      exact ⟨p, by omega, h2⟩
    · exact ⟨n, by omega, by omega⟩
theorem free_bush {nb np : Nat} {r : Nat → Nat} (h : np - nb < rwo nb r np) : ∃ b, b < nb ∧ ∀ k, k < np → r k ≠ b := by
  apply Classical.byContradiction
  intro hc
  have hall : ∀ b, b < nb → (rmk nb r np).testBit b = true := by
    intro b hb
    rw [rmk_bit b np]
    refine ⟨hb, ?_⟩
    apply Classical.byContradiction
    intro h2
    exact hc ⟨b, hb, fun k hk e => h2 ⟨k, hk, e⟩⟩
  have h1 := rmk_bct (nb := nb) (r := r) nb np
  rw [bct_all nb hall] at h1
  omega
theorem rcod_set {nb p b : Nat} {r : Nat → Nat} (hb : b < r p) : ∀ n, p < n → rcod nb (rst r p b) n < rcod nb r n
  | 0, h => absurd h (Nat.not_lt_zero p)
  | n + 1, h => by
    show rcod nb (rst r p b) n * (nb + 1) + rst r p b n < rcod nb r n * (nb + 1) + r n
    by_cases e : p = n
    · subst e
      rw [rst_s, rcod_ext p (r := rst r p b) (s := r) (fun k hk => rst_n (by omega))]
      omega
    · rw [rst_n (Ne.symm e)]
      have ih := rcod_set (nb := nb) hb n (by omega)
      have : rcod nb (rst r p b) n * (nb + 1) < rcod nb r n * (nb + 1) := Nat.mul_lt_mul_of_pos_right ih (by omega)
      omega
theorem rsm_set {G : Nat → Nat → Nat} {nb p b : Nat} {r : Nat → Nat} (hp : nb ≤ r p) (hb : b < nb) : ∀ n, rsm G nb r n ≤ rsm G nb (rst r p b) n
  | 0 => Nat.le_refl _
  | n + 1 => by
    have ih := rsm_set (G := G) hp hb n
    unfold rsm
    by_cases e : n = p
    · subst e
      rw [rst_s, if_neg (by omega), if_pos hb]
      omega
    · rw [rst_n e]
      split <;> omega
theorem rok_set {nb p b np : Nat} {r : Nat → Nat} (hp : nb ≤ r p) (hfree : ∀ k, k < np → r k ≠ b) (h : rok nb r np = true) : rok nb (rst r p b) np = true := by
  rw [rok_iff] at h ⊢
  intro i j hij hj hi
  by_cases ei : i = p
  · subst ei
    rw [rst_s, rst_n (by omega)]
    exact fun e => hfree j hj e.symm
  · rw [rst_n ei] at hi ⊢
    by_cases ej : j = p
    · subst ej
      rw [rst_s]
      exact hfree i (by omega)
    · rw [rst_n ej]
      exact h i j hij hj hi
/-- the first of the largest: index, value -/
def fN (u : Nat → Nat) : Nat → Nat × Nat
  | 0 => (0, 0)
  | i + 1 => if (fN u i).2 < u i then (i, u i) else fN u i
theorem fN_le {u : Nat → Nat} : ∀ N i, i < N → u i ≤ (fN u N).2
  | 0, i, h => absurd h (Nat.not_lt_zero i)
  | N + 1, i, h => by
    unfold fN
    by_cases q : (fN u N).2 < u N
    · rw [if_pos q]
      by_cases e : i = N
      · rw [e]; exact Nat.le_refl _
      · have := fN_le (u := u) N i (by omega)
        show u i ≤ u N
        omega
    · rw [if_neg q]
      by_cases e : i = N
      · rw [e]; omega
      · exact fN_le N i (by omega)
theorem fN_at {u : Nat → Nat} : ∀ N, 0 < (fN u N).2 → (fN u N).1 < N ∧ u (fN u N).1 = (fN u N).2 ∧ ∀ i, i < (fN u N).1 → u i < (fN u N).2
  | 0, h => absurd h (Nat.lt_irrefl 0)
  | N + 1, h => by
    unfold fN at h ⊢
    by_cases q : (fN u N).2 < u N
    · rw [if_pos q]
      exact ⟨Nat.lt_succ_self N, rfl, fun i hi => Nat.lt_of_le_of_lt (fN_le N i hi) q⟩
    · rw [if_neg q] at h ⊢
      obtain ⟨h1, h2, h3⟩ := fN_at N h
      exact ⟨by omega, h2, h3⟩
theorem fN_eq {u : Nat → Nat} {N i0 : Nat} (h1 : i0 < N) (h2 : 0 < u i0) (h3 : ∀ i, i < N → u i ≤ u i0) (h4 : ∀ i, i < i0 → u i < u i0) : fN u N = (i0, u i0) := by
  have a := fN_le (u := u) N i0 h1
  obtain ⟨b1, b2, b3⟩ := fN_at (u := u) N (by omega)
  have c := h3 _ b1
  have d : (fN u N).1 = i0 := by
    rcases Nat.lt_trichotomy (fN u N).1 i0 with q | q | q
    · have := h4 _ q
      omega
    · exact q
    · have := b3 i0 q
      omega
  have e : (fN u N).2 = u i0 := by rw [← b2, d]
  exact Prod.ext d e
/-- class and reference choose the same row -/
theorem rows_same {G : Nat → Nat → Nat} {nb np : Nat} {uC uR : Nat → Nat} (hC : ∀ i, uC i = if rok nb (rows nb np i) np then rsm G nb (rows nb np i) np + 1 else 0) (hR : ∀ i, uR i = if rok nb (rows nb np i) np then (if rwo nb (rows nb np i) np = np - nb then rsm G nb (rows nb np i) np + 1 else 0) else 0) : fN uC ((nb + 1) ^ np) = fN uR ((nb + 1) ^ np) ∧ 0 < (fN uC ((nb + 1) ^ np)).2 := by
  have hle : ∀ i, uR i ≤ uC i := by
    intro i
    rw [hC, hR]
    (repeat' split) <;> omega
  -- the row of all at none
  have hall : ∀ n, rcod nb (fun _ => nb) n + 1 = (nb + 1) ^ n := by
    intro n
    induction n with
    | zero => rfl
    | succ n ih =>
      show rcod nb (fun _ => nb) n * (nb + 1) + nb + 1 = (nb + 1) ^ n * (nb + 1)
      rw [← ih, Nat.add_mul]
      omega
  have hlast : (nb + 1) ^ np - 1 < (nb + 1) ^ np := by
    have := hall np
    omega
  have hcod := rows_cod (nb := nb) (np := np) _ hlast
  have hrow : ∀ k, k < np → rows nb np ((nb + 1) ^ np - 1) k = nb := by
    refine rcod_inj (s := fun _ => nb) np (fun k _ => rows_le _ k) (fun _ _ => Nat.le_refl _) ?_
    rw [hcod]
    have := hall np
    omega
  have hpos : 0 < uC ((nb + 1) ^ np - 1) := by
    rw [hC, if_pos]
    · omega
    · rw [rok_iff]
      intro i j hij hj hi
      rw [hrow i (by omega)] at hi
      omega
  have hmax : 0 < (fN uC ((nb + 1) ^ np)).2 := Nat.lt_of_lt_of_le hpos (fN_le _ _ hlast)
  obtain ⟨b1, b2, b3⟩ := fN_at (u := uC) _ hmax
  obtain ⟨i0, ei⟩ : ∃ i0, i0 = (fN uC ((nb + 1) ^ np)).1 := ⟨_, rfl⟩
  rw [← ei] at b1 b2 b3
  have hok : rok nb (rows nb np i0) np = true := by
    cases q : rok nb (rows nb np i0) np with
    | true => rfl
    | false =>
      have := hC i0
      rw [q] at this
      have : uC i0 = 0 := this
      omega
  have hge : np - nb ≤ rwo nb (rows nb np i0) np := by
    -- bushes taken are distinct: at most nb are placed
    have key : ∀ n, rok nb (rows nb np i0) n = true → n ≤ bct (rmk nb (rows nb np i0) n) nb + rwo nb (rows nb np i0) n := by
      intro n
      induction n with
      | zero => intro _; exact Nat.zero_le _
      | succ n ih =>
        intro hk
        unfold rok at hk
        rw [Bool.and_eq_true, Bool.or_eq_true, decide_eq_true_iff, Bool.not_eq_true'] at hk
        have ih := ih hk.1
        unfold rmk rwo
        by_cases q : rows nb np i0 n < nb
        · rw [if_pos q, if_pos q]
          rcases hk.2 with z | z
          · omega
          · have : ∀ m, bct (rmk nb (rows nb np i0) n ||| 2 ^ rows nb np i0 n) m = bct (rmk nb (rows nb np i0) n) m + (if rows nb np i0 n < m then 1 else 0) := by
              intro m
              induction m with
              | zero => rfl
              | succ m ihm =>
                unfold bct
                rw [Nat.testBit_or, Nat.testBit_two_pow, ihm]
                by_cases e : rows nb np i0 n = m
                · rw [← e, z, if_neg (Nat.lt_irrefl _), if_pos (Nat.lt_succ_self _)]
                  simp
                · rw [decide_eq_false e, Bool.or_false]
                  by_cases q2 : rows nb np i0 n < m
                  · rw [if_pos q2, if_pos (show rows nb np i0 n < m + 1 by omega)]
                    split <;> omega
                  · rw [if_neg q2, if_neg (show ¬ rows nb np i0 n < m + 1 by omega)]
                    split <;> omega
            rw [this nb, if_pos q]
            omega
        · rw [if_neg q, if_neg q]
          omega
    have h1 := key np hok
    have h2 : ∀ M m, bct M m ≤ m := by
      intro M m
      induction m with
      | zero => exact Nat.le_refl _
      | succ m ih =>
        unfold bct
        split <;> omega
    have h3 := h2 (rmk nb (rows nb np i0) np) nb
    omega
  have hdue : rwo nb (rows nb np i0) np = np - nb := by
    rcases Nat.lt_or_ge (np - nb) (rwo nb (rows nb np i0) np) with q | q
    · exfalso
      obtain ⟨b, hb, hfree⟩ := free_bush q
      obtain ⟨p, hp, hpn⟩ := rwo_pos np (show 0 < rwo nb (rows nb np i0) np by omega)
      obtain ⟨r', er⟩ : ∃ r', r' = rst (rows nb np i0) p b := ⟨_, rfl⟩
      have r'le : ∀ k, r' k ≤ nb := by
        intro k
        rw [er]
        by_cases e : k = p
        · rw [e, rst_s]; omega
        · rw [rst_n e]; exact rows_le i0 k
      have hc := rcod_set (nb := nb) (p := p) (b := b) (r := rows nb np i0) (by omega) np hp
      rw [rows_cod i0 b1, ← er] at hc
      obtain ⟨i', ei'⟩ : ∃ i', i' = rcod nb r' np := ⟨_, rfl⟩
      rw [← ei'] at hc
      have hrows : ∀ k, k < np → rows nb np i' k = r' k := rcod_inj np (fun k _ => rows_le i' k) (fun k _ => r'le k) (by rw [rows_cod i' (by omega), ei'])
      have hu : uC i0 ≤ uC i' := by
        have e1 : rok nb (rows nb np i') np = true := by
          rw [rok_ext np hrows, er]
          exact rok_set hpn hfree hok
        rw [hC i0, hC i', if_pos hok, if_pos e1, rsm_ext np hrows, er]
        have := rsm_set (G := G) (p := p) (b := b) (r := rows nb np i0) hpn hb np
        omega
      have := b3 i' hc
      omega
    · omega
  have hRi : uR i0 = uC i0 := by rw [hC, hR, if_pos hok, if_pos hok, if_pos hdue]
  have hCe : fN uC ((nb + 1) ^ np) = (i0, uC i0) := Prod.ext ei.symm b2.symm
  refine ⟨?_, hmax⟩
  rw [hCe, ← hRi]
  refine (fN_eq b1 (by omega) (fun i hi => ?_) (fun i hi => ?_)).symm
  · have := hle i
    have := fN_le (u := uC) _ i hi
    omega
  · have := hle i
    have := b3 i hi
    omega
