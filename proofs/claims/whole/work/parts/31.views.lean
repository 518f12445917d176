/-! VIEWS: what class and reference hold of the lane's moving state, as one pair of rows (bushes B, pickers P), a day and a seed -/
def CV (nb np : Nat) (B P : Nat → Nat → Int32) (dy sd : Int32) (s : bl_S) : Prop := (∀ b k, b < nb → k < 6 → s (14 + b) k = B b k) ∧ (∀ p k, p < np → k < 8 → s (20 + p) k = P p k) ∧ s 10 5 = dy ∧ s 10 6 = sd
def MV (nb np : Nat) (B P : Nat → Nat → Int32) (dy sd : Int32) (s : bl_S) : Prop := (∀ b k, b < nb → k < 6 → s (102 + k) b = B b k) ∧ (∀ p k, p < np → k < 8 → s (108 + k) p = P p k) ∧ s 1 20 = dy ∧ s 1 21 = sd
def BR (y s kd rd rp sf : Int32) : Prop := ∃ y' s' kd' a b c : Nat, y' ≤ 99 ∧ s' ≤ 1 ∧ kd' ≤ 3 ∧ a + b + c ≤ 900 ∧ y = nI y' ∧ s = nI s' ∧ kd = nI kd' ∧ rd = nI a ∧ rp = nI b ∧ sf = nI c
def PR (y s q e h : Int32) : Prop := ∃ y' s' q' e' h' : Nat, y' ≤ 99 ∧ s' ≤ 1 ∧ 1 ≤ q' ∧ q' ≤ 20 ∧ e' ≤ 9 ∧ h' ≤ 1 ∧ y = nI y' ∧ s = nI s' ∧ q = nI q' ∧ e = nI e' ∧ h = nI h'
def RA (nb np : Nat) (B P : Nat → Nat → Int32) : Prop := (∀ b, b < nb → BR (B b 0) (B b 1) (B b 2) (B b 3) (B b 4) (B b 5)) ∧ ∀ p, p < np → PR (P p 0) (P p 1) (P p 2) (P p 3) (P p 4)
/-- the cells that move -/
def mvg (d : Nat) : Prop := d = 1 ∨ d = 10 ∨ (14 ≤ d ∧ d ≤ 23) ∨ (102 ≤ d ∧ d ≤ 115)
theorem Iv.views {nb np nt a b c : Nat} {σ τ : bl_S} {B P : Nat → Nat → Int32} {dy sd : Int32} (h : Iv nb np nt a b c σ) (hc : CV nb np B P dy sd τ) (hm : MV nb np B P dy sd τ) (hr : RA nb np B P) (hsd : ¬ sd < 0)
    (f : ∀ d, ¬ mvg d → τ d = σ d) (f1 : ∀ k, k ≠ 20 → k ≠ 21 → τ 1 k = σ 1 k) (f10 : ∀ k, k ≠ 5 → k ≠ 6 → τ 10 k = σ 10 k) (fz : ∀ p, np ≤ p → p < 4 → τ (20 + p) 4 = σ (20 + p) 4)
    (sb : ∀ b k, b < nb → k < 3 → B b k = σ (14 + b) k) (sp : ∀ p k, p < np → k = 2 ∨ k = 3 → P p k = σ (20 + p) k) : Iv nb np nt a b c τ := by
  obtain ⟨hl, hb, hp, hz, ht, hs, hm'⟩ := h
  have hn := hl.1
  have hn2 := hl.2.1
  obtain ⟨a1, a2, a3, a4, a5, a6, a7, a8, a9, a10, a11, a12⟩ := id hl
  have g : ∀ d, d ≠ 1 ∧ d ≠ 10 ∧ ¬ (14 ≤ d ∧ d ≤ 23) ∧ ¬ (102 ≤ d ∧ d ≤ 115) → τ d = σ d := fun d z => f d (by unfold mvg; omega)
  refine ⟨⟨a1, a2, by rw [f10 3 (by omega) (by omega)]; exact a3, by rw [f1 4 (by omega) (by omega)]; exact a4, by rw [f10 4 (by omega) (by omega)]; exact a5, by rw [f1 11 (by omega) (by omega)]; exact a6, fun k hk => by rw [g 11 (by omega), f1 k (by omega) (by omega)]; exact a7 k hk, hc.2.2.1.trans hm.2.2.1.symm, hc.2.2.2.trans hm.2.2.2.symm, by rw [hm.2.2.2]; exact hsd, by rw [f1 0 (by omega) (by omega), f1 1 (by omega) (by omega), f1 2 (by omega) (by omega)]; exact a11, by rw [f1 3 (by omega) (by omega)]; exact a12⟩, fun b hb2 => ⟨fun k hk => (hc.1 b k hb2 hk).trans (hm.1 b k hb2 hk).symm, ?_⟩, fun p hp2 => ⟨fun k hk => (hc.2.1 p k hp2 hk).trans (hm.2.1 p k hp2 hk).symm, ?_⟩, fun p hp4 => ?_, ht.fr (g _ (by omega)) (by rw [g 2 (by omega)]) (g _ (by omega)) (g _ (by omega)) (fun k z => f1 k (by omega) (by omega)), hs.fr (fun d z => g d (by omega)) (fun k z => f1 k (by omega) (by omega)), hm'.fr hn hn2 (fun d z => g d (by omega)) (fun b k hb2 hk => by rw [hc.1 b k hb2 (by omega)]; exact sb b k hb2 hk) (fun p k hp2 hk => by rw [hc.2.1 p k hp2 (by omega)]; exact sp p k hp2 hk)⟩
  · have e : ∀ k, k < 6 → τ (102 + k) b = B b k := fun k hk => hm.1 b k hb2 hk
    have e0 := e 0 (by omega)
    have e1 := e 1 (by omega)
    have e2 := e 2 (by omega)
    have e3 := e 3 (by omega)
    have e4 := e 4 (by omega)
    have e5 := e 5 (by omega)
    have hB := hr.1 b hb2
    rw [← e0, ← e1, ← e2, ← e3, ← e4, ← e5] at hB
    exact hB
  · have e : ∀ k, k < 8 → τ (108 + k) p = P p k := fun k hk => hm.2.1 p k hp2 hk
    have hP := hr.2 p hp2
    rw [← e 0 (by omega), ← e 1 (by omega), ← e 2 (by omega), ← e 3 (by omega), ← e 4 (by omega)] at hP
    exact hP
  · rw [g (34 + p) (by omega), g (48 + p) (by omega), g (62 + p) (by omega), g 71 (by omega), g 72 (by omega)]
    refine ⟨?_, (hz p hp4).2⟩
    by_cases q : p < np
    · obtain ⟨-, -, -, -, y, -, -, -, -, -, b6, -, -, -, -, e5⟩ := hr.2 p q
      rw [hc.2.1 p 4 q (by omega), e5]
      rcases (show y = 0 ∨ y = 1 by omega) with rfl | rfl
      · exact Or.inl rfl
      · exact Or.inr rfl
    · rw [fz p (by omega) hp4]
      exact (hz p hp4).1
/-- the views at the start -/
theorem Iv.start {nb np nt a b c : Nat} {σ : bl_S} (h : Iv nb np nt a b c σ) : CV nb np (fun b k => σ (14 + b) k) (fun p k => σ (20 + p) k) (σ 10 5) (σ 10 6) σ ∧ MV nb np (fun b k => σ (14 + b) k) (fun p k => σ (20 + p) k) (σ 10 5) (σ 10 6) σ ∧ RA nb np (fun b k => σ (14 + b) k) (fun p k => σ (20 + p) k) := by
  obtain ⟨hl, hb, hp, hz, ht, hs, hm⟩ := h
  refine ⟨⟨fun _ _ _ _ => rfl, fun _ _ _ _ => rfl, rfl, rfl⟩, ⟨fun b k hb2 hk => ((hb b hb2).1 k hk).symm, fun p k hp2 hk => ((hp p hp2).1 k hk).symm, hl.2.2.2.2.2.2.2.1.symm, hl.2.2.2.2.2.2.2.2.1.symm⟩, fun b hb2 => ?_, fun p hp2 => ?_⟩
  · obtain ⟨r, q⟩ := hb b hb2
    show BR (σ (14 + b) 0) (σ (14 + b) 1) (σ (14 + b) 2) (σ (14 + b) 3) (σ (14 + b) 4) (σ (14 + b) 5)
    rw [r 0 (by omega), r 1 (by omega), r 2 (by omega), r 3 (by omega), r 4 (by omega), r 5 (by omega)]
    exact q
  · obtain ⟨r, q⟩ := hp p hp2
    show PR (σ (20 + p) 0) (σ (20 + p) 1) (σ (20 + p) 2) (σ (20 + p) 3) (σ (20 + p) 4)
    rw [r 0 (by omega), r 1 (by omega), r 2 (by omega), r 3 (by omega), r 4 (by omega)]
    exact q
/-! a day in natural numbers -/
theorem ceil_le {m rd : Nat} (hm : 1 ≤ m) : (rd + m - 1) / m ≤ rd := by
  cases rd with
  | zero => rw [Nat.div_eq_of_lt (by omega)]; exact Nat.le_refl 0
  | succ k =>
    obtain ⟨l, rfl⟩ : ∃ l, m = l + 1 := ⟨m - 1, by omega⟩
    refine Nat.div_le_of_le_mul ?_
    have e : (l + 1) * (k + 1) = l * k + l + k + 1 := by
      rw [Nat.add_mul, Nat.mul_add]
      omega
    rw [e]
    have := Nat.zero_le (l * k)
    omega
theorem nI_asub {a b c : Nat} (h : c ≤ a + b) : nI a + (nI b - nI c) = nI (a + b - c) := by
  have : nI a + (nI b - nI c) = nI a + nI b - nI c := (ring1 _ _ _).symm
  rw [this, nI_add, pk_sub h]
theorem day_N {m so fa a b c : Nat} (hm : 1 ≤ m) (hm2 : m ≤ 40) (hs : 1 ≤ so) (hs2 : so ≤ 20) (hf : 1 ≤ fa) (hf2 : fa ≤ 20) (h : a + b + c ≤ 900) (rn : Int32) : ∃ a' b' c' : Nat, a' + b' + c' ≤ 900 ∧ dr1 (nI m) (nI a) = nI a' ∧ dp (nI m) (nI so) rn (nI a) (nI b) = nI b' ∧ ds (nI m) (nI so) (nI fa) rn (nI a) (nI b) (nI c) = nI c' := by
  have e1 : (1 : Int32) = nI 1 := rfl
  have e4 : (4 : Int32) = nI 4 := rfl
  have hmo : (nI a + nI m - 1) / nI m = nI ((a + m - 1) / m) := by
    rw [e1, nI_add, pk_sub (by omega), pk_div (by omega) (by omega) (by omega)]
  have hle : nI b / nI so = nI (b / so) := pk_div (by omega) (by omega) (by omega)
  have hgo : nI c / nI fa = nI (c / fa) := pk_div (by omega) (by omega) (by omega)
  have c1 := ceil_le (rd := a) hm
  have c2 : b / so ≤ b := Nat.div_le_self b so
  have c3 : c / fa ≤ c := Nat.div_le_self c fa
  generalize (a + m - 1) / m = u at hmo c1
  generalize b / so = v at hle c2
  generalize c / fa = w at hgo c3
  have hp1 : dp1 (nI m) (nI so) (nI a) (nI b) = nI (b + u - v) := by
    unfold dp1
    rw [hmo, hle, nI_asub (by omega)]
  have hs1 : ds1 (nI so) (nI fa) (nI b) (nI c) = nI (c + v - w) := by
    unfold ds1
    rw [hle, hgo, nI_asub (by omega)]
  have hr1 : dr1 (nI m) (nI a) = nI (a - u) := by
    unfold dr1
    rw [hmo, pk_sub c1]
  unfold dp ds
  by_cases hrn : rn = 0
  · rw [if_pos hrn, if_pos hrn, hp1, hs1, hr1]
    exact ⟨_, _, _, by omega, rfl, rfl, rfl⟩
  · rw [if_neg hrn, if_neg hrn, hp1, hr1, e4, pk_div (by omega) (by omega) (by omega), pk_sub (Nat.div_le_self _ _)]
    exact ⟨_, _, _, by omega, rfl, rfl, rfl⟩
theorem dm_N {rip kd : Nat} (h1 : 1 ≤ rip) (h2 : rip ≤ 20) (h3 : kd ≤ 3) : ∃ m : Nat, 1 ≤ m ∧ m ≤ 40 ∧ dm (nI rip) (nI kd) = nI m := by
  unfold dm
  by_cases h : kd = 2
  · rw [if_pos (by rw [h]; rfl), show (2 : Int32) = nI 2 from rfl, pk_mul]
    exact ⟨2 * rip, by omega, by omega, rfl⟩
  · rw [if_neg (by rw [show (2 : Int32) = nI 2 from rfl, nI_eq (by omega) (by omega)]; exact h)]
    exact ⟨rip, h1, by omega, rfl⟩
