/-! BEST WAY, in natural numbers. A way: bushes and handfuls, one behind the other. W: moments between, tm: of a handful, g: what handfuls bring. -/
def okP (nb : Nat) (W : Nat → Nat → Nat) (tm : Nat → Nat) : Nat → Nat → Nat → List (Nat × Nat) → Prop
  | _, _, _, [] => True
  | m, a, l, q :: r => q.1 < nb ∧ m.testBit q.1 = false ∧ 1 ≤ q.2 ∧ W a q.1 + q.2 * tm q.1 ≤ l ∧ okP nb W tm (m ||| 2 ^ q.1) q.1 (l - (W a q.1 + q.2 * tm q.1)) r
def vaP (g : Nat → Nat → Nat) : List (Nat × Nat) → Nat
  | [] => 0
  | q :: r => g q.1 q.2 + vaP g r
/-- what is known of times and gains -/
def wmG (nb : Nat) (tm : Nat → Nat) (g : Nat → Nat → Nat) : Prop := (∀ b, b < nb → 1 ≤ tm b) ∧ ∀ b h, b < nb → g b h ≤ 20 * h
theorem vaP_bd {nb : Nat} {W : Nat → Nat → Nat} {tm : Nat → Nat} {g : Nat → Nat → Nat} (hg : wmG nb tm g) : ∀ (π : List (Nat × Nat)) (m a l : Nat), okP nb W tm m a l π → vaP g π ≤ 20 * l
  | [], _, _, _, _ => Nat.zero_le _
  | q :: r, m, a, l, h => by
    obtain ⟨h1, h2, h3, h4, h5⟩ := h
    have ih := vaP_bd hg r _ _ _ h5
    have a1 := hg.2 q.1 q.2 h1
    have a2 : q.2 * 1 ≤ q.2 * tm q.1 := Nat.mul_le_mul_left _ (hg.1 q.1 h1)
    show g q.1 q.2 + vaP g r ≤ 20 * l
    generalize q.2 * tm q.1 = z at *
    generalize W a q.1 = w at *
    omega
theorem mx_ex {P : Nat → Prop} : ∀ (B : Nat), (∃ v, P v) → (∀ v, P v → v ≤ B) → ∃ m, P m ∧ ∀ v, P v → v ≤ m
  | 0, ⟨v, hv⟩, h => ⟨v, hv, fun w hw => by have := h w hw; omega⟩
  | B + 1, hv, h => by
    rcases Classical.em (P (B + 1)) with q | q
    · exact ⟨B + 1, q, h⟩
    · exact mx_ex B hv (fun v hw => by
        have := h v hw
        rcases Nat.lt_or_ge B v with z | z
        · have e : v = B + 1 := by omega
          rw [e] at hw
          exact absurd hw q
        · exact z)
/-- the most that a way brings: bushes of the set m are shut, from a, in l moments -/
theorem wmE {nb : Nat} (W : Nat → Nat → Nat) {tm : Nat → Nat} {g : Nat → Nat → Nat} (hg : wmG nb tm g) (m a l : Nat) : ∃ v, (∃ π, okP nb W tm m a l π ∧ vaP g π = v) ∧ ∀ w, (∃ π, okP nb W tm m a l π ∧ vaP g π = w) → w ≤ v :=
  mx_ex (P := fun v => ∃ π, okP nb W tm m a l π ∧ vaP g π = v) (20 * l) ⟨0, [], trivial, rfl⟩ (fun v ⟨π, h1, h2⟩ => by rw [← h2]; exact vaP_bd hg π m a l h1)
noncomputable def wm (nb : Nat) (W : Nat → Nat → Nat) (tm : Nat → Nat) (g : Nat → Nat → Nat) (m a l : Nat) : Nat :=
  Classical.epsilon (fun v => (∃ π, okP nb W tm m a l π ∧ vaP g π = v) ∧ ∀ w, (∃ π, okP nb W tm m a l π ∧ vaP g π = w) → w ≤ v)
theorem wm_sp {nb : Nat} (W : Nat → Nat → Nat) {tm : Nat → Nat} {g : Nat → Nat → Nat} (hg : wmG nb tm g) (m a l : Nat) : (∃ π, okP nb W tm m a l π ∧ vaP g π = wm nb W tm g m a l) ∧ ∀ π, okP nb W tm m a l π → vaP g π ≤ wm nb W tm g m a l := by
  have h := Classical.epsilon_spec (wmE W hg m a l)
  exact ⟨h.1, fun π hp => h.2 _ ⟨π, hp, rfl⟩⟩
theorem wm_bd {nb : Nat} (W : Nat → Nat → Nat) {tm : Nat → Nat} {g : Nat → Nat → Nat} (hg : wmG nb tm g) (m a l : Nat) : wm nb W tm g m a l ≤ 20 * l := by
  obtain ⟨π, h1, h2⟩ := (wm_sp W hg m a l).1
  rw [← h2]
  exact vaP_bd hg π m a l h1
/-- a step that there may be -/
def okS (nb : Nat) (W : Nat → Nat → Nat) (tm : Nat → Nat) (m a l b h : Nat) : Prop := b < nb ∧ m.testBit b = false ∧ 1 ≤ h ∧ W a b + h * tm b ≤ l
/-- what it brings, the best behind it too -/
noncomputable def wmS (nb : Nat) (W : Nat → Nat → Nat) (tm : Nat → Nat) (g : Nat → Nat → Nat) (m a l b h : Nat) : Nat := g b h + wm nb W tm g (m ||| 2 ^ b) b (l - (W a b + h * tm b))
theorem wm_ge {nb : Nat} {W : Nat → Nat → Nat} {tm : Nat → Nat} {g : Nat → Nat → Nat} (hg : wmG nb tm g) {m a l b h : Nat} (hs : okS nb W tm m a l b h) : wmS nb W tm g m a l b h ≤ wm nb W tm g m a l := by
  obtain ⟨π, h1, h2⟩ := (wm_sp W hg (m ||| 2 ^ b) b (l - (W a b + h * tm b))).1
  unfold wmS
  rw [← h2]
  exact (wm_sp W hg m a l).2 ((b, h) :: π) ⟨hs.1, hs.2.1, hs.2.2.1, hs.2.2.2, h1⟩
theorem wm_at {nb : Nat} (W : Nat → Nat → Nat) {tm : Nat → Nat} {g : Nat → Nat → Nat} (hg : wmG nb tm g) (m a l : Nat) : wm nb W tm g m a l = 0 ∨ ∃ b h, okS nb W tm m a l b h ∧ wm nb W tm g m a l = wmS nb W tm g m a l b h := by
  obtain ⟨π, h1, h2⟩ := (wm_sp W hg m a l).1
  cases π with
  | nil => exact Or.inl h2.symm
  | cons q r =>
    obtain ⟨a1, a2, a3, a4, a5⟩ := h1
    have hs : okS nb W tm m a l q.1 q.2 := ⟨a1, a2, a3, a4⟩
    refine Or.inr ⟨q.1, q.2, hs, Nat.le_antisymm ?_ (wm_ge hg hs)⟩
    rw [← h2]
    exact Nat.add_le_add_left ((wm_sp W hg (m ||| 2 ^ q.1) q.1 (l - (W a q.1 + q.2 * tm q.1))).2 r a5) _
theorem wm_un {nb : Nat} {W : Nat → Nat → Nat} {tm : Nat → Nat} {g : Nat → Nat → Nat} (hg : wmG nb tm g) {m a l v : Nat} (h1 : v = 0 ∨ ∃ b h, okS nb W tm m a l b h ∧ v = wmS nb W tm g m a l b h) (h2 : ∀ b h, okS nb W tm m a l b h → wmS nb W tm g m a l b h ≤ v) : v = wm nb W tm g m a l := by
  apply Nat.le_antisymm
  · rcases h1 with h | ⟨b, h, hs, e⟩
    · omega
    · rw [e]
      exact wm_ge hg hs
  · rcases wm_at W hg m a l with h | ⟨b, h, hs, e⟩
    · omega
    · rw [e]
      exact h2 b h hs
theorem okP_mono {nb : Nat} {W : Nat → Nat → Nat} {tm : Nat → Nat} : ∀ (π : List (Nat × Nat)) (m a l l' : Nat), l ≤ l' → okP nb W tm m a l π → okP nb W tm m a l' π
  | [], _, _, _, _, _, _ => trivial
  | _ :: r, _, _, _, _, hl, h => ⟨h.1, h.2.1, h.2.2.1, Nat.le_trans h.2.2.2.1 hl, okP_mono r _ _ _ _ (Nat.sub_le_sub_right hl _) h.2.2.2.2⟩
theorem wm_mono {nb : Nat} (W : Nat → Nat → Nat) {tm : Nat → Nat} {g : Nat → Nat → Nat} (hg : wmG nb tm g) (m a : Nat) {l l' : Nat} (hl : l ≤ l') : wm nb W tm g m a l ≤ wm nb W tm g m a l' := by
  obtain ⟨π, h1, h2⟩ := (wm_sp W hg m a l).1
  rw [← h2]
  exact (wm_sp W hg m a l').2 π (okP_mono π m a l l' hl h1)
theorem vaP_g {nb : Nat} {W : Nat → Nat → Nat} {tm : Nat → Nat} {g g' : Nat → Nat → Nat} (h : ∀ b k, b < nb → g b k ≤ g' b k) : ∀ (π : List (Nat × Nat)) (m a l : Nat), okP nb W tm m a l π → vaP g π ≤ vaP g' π
  | [], _, _, _, _ => Nat.le_refl _
  | q :: r, m, a, l, hp => by
    have ih := vaP_g h r _ _ _ hp.2.2.2.2
    have := h q.1 q.2 hp.1
    show g q.1 q.2 + vaP g r ≤ g' q.1 q.2 + vaP g' r
    omega
theorem wm_g {nb : Nat} (W : Nat → Nat → Nat) {tm : Nat → Nat} {g g' : Nat → Nat → Nat} (hg : wmG nb tm g) (hg' : wmG nb tm g') (h : ∀ b k, b < nb → g b k ≤ g' b k) (m a l : Nat) : wm nb W tm g m a l ≤ wm nb W tm g' m a l := by
  obtain ⟨π, h1, h2⟩ := (wm_sp W hg m a l).1
  rw [← h2]
  exact Nat.le_trans (vaP_g h π m a l h1) ((wm_sp W hg' m a l).2 π h1)
/-! sums over a set -/
def smS (f : Nat → Nat) (S : Nat) : Nat → Nat
  | 0 => 0
  | n + 1 => if S.testBit n then smS f S n + f n else smS f S n
theorem smS_congr {f f' : Nat → Nat} {S S' : Nat} : ∀ n, (∀ b, b < n → S.testBit b = S'.testBit b) → (∀ b, b < n → S.testBit b = true → f b = f' b) → smS f S n = smS f' S' n
  | 0, _, _ => rfl
  | n + 1, h, hf => by
    have ih := smS_congr n (fun b hb => h b (by omega)) (fun b hb => hf b (by omega))
    show (if S.testBit n then smS f S n + f n else smS f S n) = (if S'.testBit n then smS f' S' n + f' n else smS f' S' n)
    rw [← h n (by omega), ih]
    by_cases q : S.testBit n = true
    · rw [if_pos q, if_pos q, hf n (by omega) q]
    · rw [if_neg q, if_neg q]
theorem smS_0 {f : Nat → Nat} : ∀ n, smS f 0 n = 0
  | 0 => rfl
  | n + 1 => by
    show (if (0 : Nat).testBit n then smS f 0 n + f n else smS f 0 n) = 0
    rw [if_neg (by simp)]
    exact smS_0 n
theorem tb_xor {S b k : Nat} : (S ^^^ 2 ^ b).testBit k = if k = b then !S.testBit b else S.testBit k := by
  rw [Nat.testBit_xor]
  by_cases h : k = b
  · rw [if_pos h, h, Nat.testBit_two_pow_self, Bool.xor_true]
  · rw [if_neg h, Nat.testBit_two_pow_of_ne (Ne.symm h), Bool.xor_false]
theorem tb_or {S b k : Nat} : (S ||| 2 ^ b).testBit k = if k = b then true else S.testBit k := by
  rw [Nat.testBit_or]
  by_cases h : k = b
  · rw [if_pos h, h, Nat.testBit_two_pow_self, Bool.or_true]
  · rw [if_neg h, Nat.testBit_two_pow_of_ne (Ne.symm h), Bool.or_false]
theorem smS_take {f : Nat → Nat} {S b : Nat} (hb : S.testBit b = true) : ∀ n, b < n → smS f S n = f b + smS f (S ^^^ 2 ^ b) n
  | 0, h => by omega
  | n + 1, h => by
    show (if S.testBit n then smS f S n + f n else smS f S n) = f b + (if (S ^^^ 2 ^ b).testBit n then smS f (S ^^^ 2 ^ b) n + f n else smS f (S ^^^ 2 ^ b) n)
    rw [tb_xor]
    by_cases e : n = b
    · subst e
      rw [if_pos hb, if_pos rfl, hb, if_neg (by decide)]
      have : smS f (S ^^^ 2 ^ n) n = smS f S n := smS_congr n (fun k hk => by rw [tb_xor, if_neg (by omega)]) (fun _ _ _ => rfl)
      omega
    · rw [if_neg e, smS_take hb n (by omega)]
      split <;> omega
theorem xor_lt : ∀ S, S < 64 → ∀ b, b < 6 → S.testBit b = true → S ^^^ 2 ^ b < S := by decide +kernel
/-! the shortest way through a set -/
def mnF (f : Nat → Nat) (S : Nat) : Nat → Nat
  | 0 => 0
  | n + 1 => if S.testBit n then (if mnF f S n = 0 then f n + 1 else if f n + 1 < mnF f S n then f n + 1 else mnF f S n) else mnF f S n
theorem mnF_congr {f f' : Nat → Nat} {S : Nat} : ∀ n, (∀ b, b < n → S.testBit b = true → f b = f' b) → mnF f S n = mnF f' S n
  | 0, _ => rfl
  | n + 1, h => by
    have ih := mnF_congr n (fun b hb => h b (by omega))
    unfold mnF
    rw [ih]
    by_cases q : S.testBit n = true
    · rw [if_pos q, if_pos q, h n (by omega) q]
    · rw [if_neg q, if_neg q]
theorem mnF_le {f : Nat → Nat} {S b : Nat} (hb : S.testBit b = true) : ∀ n, b < n → mnF f S n ≤ f b + 1 ∧ 0 < mnF f S n
  | 0, h => by omega
  | n + 1, h => by
    unfold mnF
    by_cases e : n = b
    · rw [e, if_pos hb]
      split
      · omega
      · split <;> omega
    · have ih := mnF_le (f := f) hb n (by omega)
      split
      · split
        · omega
        · split <;> omega
      · exact ih
theorem mnF_at {f : Nat → Nat} {S : Nat} : ∀ n, 0 < mnF f S n → ∃ b, b < n ∧ S.testBit b = true ∧ mnF f S n = f b + 1
  | 0, h => absurd h (Nat.lt_irrefl 0)
  | n + 1, h => by
    have ih := mnF_at (f := f) (S := S) n
    unfold mnF at h ⊢
    by_cases q : S.testBit n = true
    · rw [if_pos q] at h ⊢
      by_cases z : mnF f S n = 0
      · rw [if_pos z]
        exact ⟨n, by omega, q, rfl⟩
      · rw [if_neg z]
        by_cases w : f n + 1 < mnF f S n
        · rw [if_pos w]
          exact ⟨n, by omega, q, rfl⟩
        · rw [if_neg w]
          obtain ⟨b, h1, h2, h3⟩ := ih (by omega)
          exact ⟨b, by omega, h2, h3⟩
    · rw [if_neg q] at h ⊢
      obtain ⟨b, h1, h2, h3⟩ := ih h
      exact ⟨b, by omega, h2, h3⟩
theorem mnF_0 {f : Nat → Nat} : ∀ n, mnF f 0 n = 0
  | 0 => rfl
  | n + 1 => by
    unfold mnF
    rw [if_neg (by simp)]
    exact mnF_0 n
def shF (nb : Nat) (W : Nat → Nat → Nat) : Nat → Nat → Nat → Nat
  | 0, _, _ => 0
  | n + 1, a, S => mnF (fun b => W a b + shF nb W n b (S ^^^ 2 ^ b)) S nb - 1
def sh (nb : Nat) (W : Nat → Nat → Nat) (a S : Nat) : Nat := shF nb W 64 a S
theorem shF_0 {nb : Nat} {W : Nat → Nat → Nat} {a : Nat} : ∀ n, shF nb W n a 0 = 0
  | 0 => rfl
  | n + 1 => by
    unfold shF
    rw [mnF_0]
theorem shF_st {nb : Nat} {W : Nat → Nat → Nat} (hn : nb ≤ 6) : ∀ n m a S, S < 64 → S ≤ n → S ≤ m → shF nb W n a S = shF nb W m a S
  | 0, m, a, S, _, h1, _ => by
    have : S = 0 := by omega
    rw [this, shF_0, shF_0]
  | n + 1, 0, a, S, _, _, h2 => by
    have : S = 0 := by omega
    rw [this, shF_0, shF_0]
  | n + 1, m + 1, a, S, hS, h1, h2 => by
    unfold shF
    congr 1
    refine mnF_congr nb (fun b hb q => ?_)
    have := xor_lt S hS b (by omega) q
    show W a b + shF nb W n b (S ^^^ 2 ^ b) = W a b + shF nb W m b (S ^^^ 2 ^ b)
    rw [shF_st hn n m b (S ^^^ 2 ^ b) (by omega) (by omega) (by omega)]
theorem sh_0 {nb : Nat} {W : Nat → Nat → Nat} {a : Nat} : sh nb W a 0 = 0 := shF_0 64
theorem shF_s {nb : Nat} {W : Nat → Nat → Nat} (n a S : Nat) : shF nb W (n + 1) a S = mnF (fun b => W a b + shF nb W n b (S ^^^ 2 ^ b)) S nb - 1 := rfl
theorem sh_eq {nb : Nat} {W : Nat → Nat → Nat} (hn : nb ≤ 6) {a S : Nat} (hS : S < 64) : sh nb W a S = mnF (fun b => W a b + sh nb W b (S ^^^ 2 ^ b)) S nb - 1 := by
  have e : sh nb W a S = mnF (fun b => W a b + shF nb W 63 b (S ^^^ 2 ^ b)) S nb - 1 := shF_s 63 a S
  have k : mnF (fun b => W a b + shF nb W 63 b (S ^^^ 2 ^ b)) S nb = mnF (fun b => W a b + sh nb W b (S ^^^ 2 ^ b)) S nb := by
    refine mnF_congr nb (fun b hb q => ?_)
    have := xor_lt S hS b (by omega) q
    have f : shF nb W 63 b (S ^^^ 2 ^ b) = sh nb W b (S ^^^ 2 ^ b) := shF_st hn 63 64 b (S ^^^ 2 ^ b) (by omega) (by omega) (by omega)
    show W a b + shF nb W 63 b (S ^^^ 2 ^ b) = W a b + sh nb W b (S ^^^ 2 ^ b)
    rw [f]
  rw [e, k]
theorem sh_le {nb : Nat} {W : Nat → Nat → Nat} (hn : nb ≤ 6) {a S b : Nat} (hS : S < 64) (hb : b < nb) (ht : S.testBit b = true) : sh nb W a S ≤ W a b + sh nb W b (S ^^^ 2 ^ b) := by
  rw [sh_eq hn hS]
  have := (mnF_le (f := fun b => W a b + sh nb W b (S ^^^ 2 ^ b)) ht nb hb).1
  omega
theorem sh_at {nb : Nat} {W : Nat → Nat → Nat} (hn : nb ≤ 6) {a S c : Nat} (hS : S < 64) (hc : c < nb) (ht : S.testBit c = true) : ∃ b, b < nb ∧ S.testBit b = true ∧ sh nb W a S = W a b + sh nb W b (S ^^^ 2 ^ b) := by
  obtain ⟨b, h1, h2, h3⟩ := mnF_at (f := fun b => W a b + sh nb W b (S ^^^ 2 ^ b)) nb (mnF_le ht nb hc).2
  refine ⟨b, h1, h2, ?_⟩
  rw [sh_eq hn hS, h3]
  rfl
theorem shF_bd {nb : Nat} {W : Nat → Nat → Nat} (hW : ∀ a b, W a b ≤ 11) : ∀ n a S, shF nb W n a S ≤ 11 * n
  | 0, _, _ => Nat.zero_le _
  | n + 1, a, S => by
    unfold shF
    rcases Nat.eq_zero_or_pos (mnF (fun b => W a b + shF nb W n b (S ^^^ 2 ^ b)) S nb) with h | h
    · rw [h]
      omega
    · obtain ⟨b, -, -, e⟩ := mnF_at nb h
      rw [e]
      have h1 := hW a b
      have h2 := shF_bd (nb := nb) hW n b (S ^^^ 2 ^ b)
      show W a b + shF nb W n b (S ^^^ 2 ^ b) + 1 - 1 ≤ 11 * (n + 1)
      omega
/-! what is gathered at a set of bushes, ways aside: 0 none, else one more than it -/
def gx (F : Nat → Nat) (tm : Nat) (gb : Nat → Nat) (t : Nat) : Nat → Nat
  | 0 => 0
  | h + 1 => if (h + 1) * tm ≤ t then (if F (t - (h + 1) * tm) = 0 then gx F tm gb t h else if gx F tm gb t h < gb (h + 1) + F (t - (h + 1) * tm) then gb (h + 1) + F (t - (h + 1) * tm) else gx F tm gb t h) else gx F tm gb t h
theorem gx_ge {F : Nat → Nat} {tm t h : Nat} {gb : Nat → Nat} (h1 : 1 ≤ h) (h2 : h * tm ≤ t) (h3 : 0 < F (t - h * tm)) : ∀ k, h ≤ k → gb h + F (t - h * tm) ≤ gx F tm gb t k
  | 0, hk => by omega
  | k + 1, hk => by
    unfold gx
    by_cases e : h = k + 1
    · subst e
      rw [if_pos h2, if_neg (by omega)]
      split <;> omega
    · have ih := gx_ge (gb := gb) h1 h2 h3 k (by omega)
      split
      · split
        · exact ih
        · split
          · omega
          · exact ih
      · exact ih
theorem gx_at {F : Nat → Nat} {tm t : Nat} {gb : Nat → Nat} : ∀ k, 0 < gx F tm gb t k → ∃ h, 1 ≤ h ∧ h ≤ k ∧ h * tm ≤ t ∧ 0 < F (t - h * tm) ∧ gx F tm gb t k = gb h + F (t - h * tm)
  | 0, h => absurd h (Nat.lt_irrefl 0)
  | k + 1, hp => by
    have ih : 0 < gx F tm gb t k → ∃ h, 1 ≤ h ∧ h ≤ k + 1 ∧ h * tm ≤ t ∧ 0 < F (t - h * tm) ∧ gx F tm gb t k = gb h + F (t - h * tm) := fun q => by
      obtain ⟨h, a, b, c⟩ := gx_at k q
      exact ⟨h, a, by omega, c⟩
    unfold gx at hp ⊢
    by_cases q1 : (k + 1) * tm ≤ t
    · rw [if_pos q1] at hp ⊢
      by_cases q2 : F (t - (k + 1) * tm) = 0
      · rw [if_pos q2] at hp ⊢
        exact ih hp
      · rw [if_neg q2] at hp ⊢
        by_cases q3 : gx F tm gb t k < gb (k + 1) + F (t - (k + 1) * tm)
        · rw [if_pos q3] at hp ⊢
          exact ⟨k + 1, by omega, by omega, q1, by omega, rfl⟩
        · rw [if_neg q3] at hp ⊢
          exact ih hp
    · rw [if_neg q1] at hp ⊢
      exact ih hp
theorem gx_stop {F : Nat → Nat} {tm t h : Nat} {gb : Nat → Nat} (hh : t < (h + 1) * tm) : ∀ k, h ≤ k → gx F tm gb t k = gx F tm gb t h
  | 0, hk => by rw [show h = 0 by omega]
  | k + 1, hk => by
    by_cases e : h = k + 1
    · rw [e]
    · have ih := gx_stop (F := F) (gb := gb) hh k (by omega)
      have : (h + 1) * tm ≤ (k + 1) * tm := Nat.mul_le_mul_right _ (by omega)
      show (if (k + 1) * tm ≤ t then _ else gx F tm gb t k) = _
      rw [if_neg (by omega)]
      exact ih
def gaF (tm u : Nat → Nat) (g : Nat → Nat → Nat) (S : Nat) : Nat → Nat → Nat
  | 0, _ => 1
  | n + 1, t => if S.testBit n then gx (gaF tm u g S n) (tm n) (g n) t (u n) else gaF tm u g S n t
theorem gaF_congr {tm u : Nat → Nat} {g : Nat → Nat → Nat} {S S' : Nat} : ∀ n, (∀ b, b < n → S.testBit b = S'.testBit b) → gaF tm u g S n = gaF tm u g S' n
  | 0, _ => rfl
  | n + 1, h => by
    have ih := gaF_congr (tm := tm) (u := u) (g := g) n (fun b hb => h b (by omega))
    funext t
    unfold gaF
    rw [h n (by omega), ih]
/-- behind the last useful handful there is no more -/
def wmU (nb : Nat) (g : Nat → Nat → Nat) (u : Nat → Nat) : Prop := ∀ b, b < nb → 1 ≤ u b ∧ u b ≤ 24 ∧ ∀ h, u b ≤ h → h ≤ 24 → g b h = g b (u b)
theorem gaF_A {nb : Nat} {tm u : Nat → Nat} {g : Nat → Nat → Nat} (hg : wmG nb tm g) (hu : wmU nb g u) {S : Nat} {h : Nat → Nat} (hh : ∀ b, 1 ≤ h b) : ∀ n t, n ≤ nb → t ≤ 24 → smS (fun b => h b * tm b) S n ≤ t → smS (fun b => g b (h b)) S n + 1 ≤ gaF tm u g S n t
  | 0, _, _, _, _ => Nat.le_refl _
  | n + 1, t, hn, ht, hs => by
    unfold gaF
    unfold smS at hs ⊢
    by_cases q : S.testBit n = true
    · rw [if_pos q] at hs ⊢
      rw [if_pos q]
      obtain ⟨u1, u2, u3⟩ := hu n (by omega)
      have t1 := hg.1 n (by omega)
      have hh1 := hh n
      have z1 : h n * 1 ≤ h n * tm n := Nat.mul_le_mul_left _ t1
      have z1 : h n ≤ h n * tm n := by omega
      have hs : smS (fun b => h b * tm b) S n + h n * tm n ≤ t := hs
      show smS (fun b => g b (h b)) S n + g n (h n) + 1 ≤ _
      obtain ⟨k, k1, k2, k3, k4⟩ : ∃ k, 1 ≤ k ∧ k ≤ u n ∧ k * tm n ≤ h n * tm n ∧ g n k = g n (h n) := by
        rcases Nat.le_total (h n) (u n) with w | w
        · exact ⟨h n, hh1, w, Nat.le_refl _, rfl⟩
        · exact ⟨u n, u1, Nat.le_refl _, Nat.mul_le_mul_right _ w, (u3 (h n) w (by omega)).symm⟩
      have ih := gaF_A (S := S) hg hu hh n (t - k * tm n) (by omega) (by omega) (by omega)
      have := gx_ge (F := gaF tm u g S n) (gb := g n) (tm := tm n) (t := t) (h := k) k1 (by omega) (by omega) (u n) k2
      omega
    · rw [if_neg q] at hs ⊢
      rw [if_neg q]
      exact gaF_A hg hu hh n t (by omega) ht hs
theorem gaF_B {tm u : Nat → Nat} {g : Nat → Nat → Nat} {S : Nat} : ∀ n t, 0 < gaF tm u g S n t → ∃ h : Nat → Nat, (∀ b, 1 ≤ h b) ∧ smS (fun b => h b * tm b) S n ≤ t ∧ smS (fun b => g b (h b)) S n + 1 = gaF tm u g S n t
  | 0, _, _ => ⟨fun _ => 1, fun _ => Nat.le_refl _, Nat.zero_le _, rfl⟩
  | n + 1, t, hp => by
    unfold gaF at hp ⊢
    by_cases q : S.testBit n = true
    · rw [if_pos q] at hp ⊢
      obtain ⟨k, k1, k2, k3, k4, k5⟩ := gx_at _ hp
      obtain ⟨h, a1, a2, a3⟩ := gaF_B n _ k4
      refine ⟨fun b => if b = n then k else h b, fun b => ?_, ?_, ?_⟩
      · show 1 ≤ if b = n then k else h b
        split
        · exact k1
        · exact a1 b
      · have e : smS (fun b => (if b = n then k else h b) * tm b) S n = smS (fun b => h b * tm b) S n := smS_congr n (fun _ _ => rfl) (fun b hb _ => by show (if b = n then k else h b) * tm b = h b * tm b; rw [if_neg (by omega)])
        show (if S.testBit n then smS (fun b => (if b = n then k else h b) * tm b) S n + (if n = n then k else h n) * tm n else _) ≤ t
        rw [if_pos q, e, if_pos rfl]
        omega
      · have e : smS (fun b => g b (if b = n then k else h b)) S n = smS (fun b => g b (h b)) S n := smS_congr n (fun _ _ => rfl) (fun b hb _ => by show g b (if b = n then k else h b) = g b (h b); rw [if_neg (by omega)])
        show (if S.testBit n then smS (fun b => g b (if b = n then k else h b)) S n + g n (if n = n then k else h n) else _) + 1 = _
        rw [if_pos q, e, if_pos rfl, k5, ← a3]
        omega
    · rw [if_neg q] at hp ⊢
      obtain ⟨h, a1, a2, a3⟩ := gaF_B n t hp
      refine ⟨h, a1, ?_, ?_⟩
      · unfold smS
        rw [if_neg q]
        exact a2
      · unfold smS
        rw [if_neg q]
        exact a3
/-! both are one -/
/-- a set of bushes that are not shut -/
def fre (nb m S : Nat) : Prop := S < 64 ∧ ∀ b, S.testBit b = true → b < nb ∧ m.testBit b = false
theorem tb_ex {S : Nat} (h : S ≠ 0) : ∃ b, S.testBit b = true := by
  rcases Classical.em (∃ b, S.testBit b = true) with q | q
  · exact q
  · exfalso
    apply h
    apply Nat.eq_of_testBit_eq
    intro i
    rw [Nat.zero_testBit]
    cases hb : S.testBit i with
    | false => rfl
    | true => exact absurd ⟨i, hb⟩ q
theorem cls_le0 {nb : Nat} {W : Nat → Nat → Nat} {tm : Nat → Nat} {g : Nat → Nat → Nat} (hn : nb ≤ 6) (hg : wmG nb tm g) {h : Nat → Nat} (hh : ∀ b, 1 ≤ h b) : ∀ N S m a l, S ≤ N → fre nb m S → sh nb W a S + smS (fun b => h b * tm b) S nb ≤ l → smS (fun b => g b (h b)) S nb ≤ wm nb W tm g m a l := by
  intro N
  induction N with
  | zero =>
    intro S m a l hS _ _
    rw [show S = 0 by omega, smS_0]
    exact Nat.zero_le _
  | succ N ih =>
    intro S m a l hS hf hl
    by_cases e : S = 0
    · rw [e, smS_0]
      exact Nat.zero_le _
    · obtain ⟨c, hc⟩ := tb_ex e
      obtain ⟨b, b1, b2, b3⟩ := sh_at (W := W) hn (a := a) hf.1 (hf.2 c hc).1 hc
      have b6 : b < 6 := by omega
      have hx := xor_lt S hf.1 b b6 b2
      have hS64 := hf.1
      rw [b3, smS_take b2 nb b1] at hl
      have hl : W a b + sh nb W b (S ^^^ 2 ^ b) + (h b * tm b + smS (fun b => h b * tm b) (S ^^^ 2 ^ b) nb) ≤ l := hl
      have hs : okS nb W tm m a l b (h b) := ⟨b1, (hf.2 b b2).2, hh b, by omega⟩
      have h1 := wm_ge hg hs
      have h2 := ih (S ^^^ 2 ^ b) (m ||| 2 ^ b) b (l - (W a b + h b * tm b)) (by omega) ⟨by omega, fun k hk => by
        rw [tb_xor] at hk
        by_cases ek : k = b
        · rw [if_pos ek, b2] at hk
          exact absurd hk (by decide)
        · rw [if_neg ek] at hk
          rw [tb_or, if_neg ek]
          exact hf.2 k hk⟩ (by omega)
      rw [smS_take b2 nb b1]
      show g b (h b) + _ ≤ _
      unfold wmS at h1
      omega
theorem cls_ge0 {nb : Nat} {W : Nat → Nat → Nat} {tm : Nat → Nat} {g : Nat → Nat → Nat} (hn : nb ≤ 6) : ∀ (π : List (Nat × Nat)) (m a l : Nat), okP nb W tm m a l π → ∃ S, ∃ h : Nat → Nat, fre nb m S ∧ (∀ b, 1 ≤ h b) ∧ sh nb W a S + smS (fun b => h b * tm b) S nb ≤ l ∧ vaP g π = smS (fun b => g b (h b)) S nb
  | [], m, a, l, _ => ⟨0, fun _ => 1, ⟨by omega, fun b hb => by rw [Nat.zero_testBit] at hb; cases hb⟩, fun _ => Nat.le_refl _, by rw [sh_0, smS_0]; omega, by rw [smS_0]; rfl⟩
  | (b, k) :: r, m, a, l, hp => by
    obtain ⟨h1, h2, h3, h4, h5⟩ := hp
    obtain ⟨S, h, hf, hh, hl, hv⟩ := cls_ge0 hn r _ _ _ h5
    have h1 : b < nb := h1
    have h2 : m.testBit b = false := h2
    have h3 : 1 ≤ k := h3
    have h4 : W a b + k * tm b ≤ l := h4
    have hl : sh nb W b S + smS (fun b => h b * tm b) S nb ≤ l - (W a b + k * tm b) := hl
    have nb1 : S.testBit b = false := by
      cases hc : S.testBit b with
      | false => rfl
      | true =>
        have := (hf.2 b hc).2
        rw [tb_or, if_pos rfl] at this
        cases this
    have b2 : 2 ^ b < 2 ^ 6 := Nat.pow_lt_pow_right (by omega) (by omega)
    have hS : S ||| 2 ^ b < 64 := Nat.or_lt_two_pow (n := 6) hf.1 b2
    have tb : (S ||| 2 ^ b).testBit b = true := by rw [tb_or, if_pos rfl]
    have ex : (S ||| 2 ^ b) ^^^ 2 ^ b = S := by
      apply Nat.eq_of_testBit_eq
      intro i
      rw [tb_xor, tb, tb_or]
      by_cases e : i = b
      · rw [if_pos e, e, nb1]
        rfl
      · rw [if_neg e, if_neg e]
    have ne : ∀ c, S.testBit c = true → c ≠ b := fun c hc e => by rw [e, nb1] at hc; cases hc
    refine ⟨S ||| 2 ^ b, fun c => if c = b then k else h c, ⟨hS, fun c hc => ?_⟩, fun c => ?_, ?_, ?_⟩
    · rw [tb_or] at hc
      by_cases e : c = b
      · rw [e]
        exact ⟨h1, h2⟩
      · rw [if_neg e] at hc
        have := hf.2 c hc
        rw [tb_or, if_neg e] at this
        exact this
    · show 1 ≤ if c = b then k else h c
      split
      · exact h3
      · exact hh c
    · have e1 := sh_le (W := W) hn (a := a) hS h1 tb
      rw [ex] at e1
      rw [smS_take tb nb h1, ex]
      have e2 : smS (fun c => (if c = b then k else h c) * tm c) S nb = smS (fun c => h c * tm c) S nb := smS_congr nb (fun _ _ => rfl) (fun c _ hc => by show (if c = b then k else h c) * tm c = h c * tm c; rw [if_neg (ne c hc)])
      rw [e2]
      show _ + ((if b = b then k else h b) * tm b + _) ≤ l
      rw [if_pos rfl]
      omega
    · rw [smS_take tb nb h1, ex]
      have e2 : smS (fun c => g c (if c = b then k else h c)) S nb = smS (fun c => g c (h c)) S nb := smS_congr nb (fun _ _ => rfl) (fun c _ hc => by show g c (if c = b then k else h c) = g c (h c); rw [if_neg (ne c hc)])
      rw [e2]
      show g b k + vaP g r = g b (if b = b then k else h b) + _
      rw [if_pos rfl, hv]
/-- what the class's tables say is never more .. -/
theorem cls_le {nb : Nat} {W : Nat → Nat → Nat} {tm u : Nat → Nat} {g : Nat → Nat → Nat} (hn : nb ≤ 6) (hg : wmG nb tm g) {m a l S : Nat} (hf : fre nb m S) (hl : sh nb W a S ≤ l) : gaF tm u g S nb (l - sh nb W a S) ≤ wm nb W tm g m a l + 1 := by
  rcases Nat.eq_zero_or_pos (gaF tm u g S nb (l - sh nb W a S)) with h | h
  · omega
  · obtain ⟨k, h1, h2, h3⟩ := gaF_B nb _ h
    have := cls_le0 hn hg (W := W) h1 S S m a l (Nat.le_refl _) hf (by omega)
    omega
/-- .. and some set says it -/
theorem cls_ge {nb : Nat} {W : Nat → Nat → Nat} {tm u : Nat → Nat} {g : Nat → Nat → Nat} (hn : nb ≤ 6) (hg : wmG nb tm g) (hu : wmU nb g u) {m a l : Nat} (hl24 : l ≤ 24) : ∃ S, fre nb m S ∧ sh nb W a S ≤ l ∧ gaF tm u g S nb (l - sh nb W a S) = wm nb W tm g m a l + 1 := by
  obtain ⟨π, h1, h2⟩ := (wm_sp W hg m a l).1
  obtain ⟨S, h, hf, hh, hl, hv⟩ := cls_ge0 (g := g) hn π m a l h1
  have hle : sh nb W a S ≤ l := by omega
  refine ⟨S, hf, hle, Nat.le_antisymm (cls_le hn hg hf hle) ?_⟩
  rw [← h2, hv]
  exact gaF_A hg hu hh nb _ (Nat.le_refl _) (by omega) (by omega)
