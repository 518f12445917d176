/-! THE TEXT, in natural numbers: letters T, n of them -/
def skF (T : Nat → Nat) : Nat → Nat → Nat
  | 0, i => i
  | k + 1, i => if T i = 32 then skF T k (i + 1) else i
/-- behind blanks -/
def skp (T : Nat → Nat) (n i : Nat) : Nat := skF T (n - i) i
theorem skp_s {T : Nat → Nat} {n i : Nat} (h : i < n) : skp T n i = if T i = 32 then skp T n (i + 1) else i := by
  unfold skp
  rw [show n - i = (n - (i + 1)) + 1 by omega]
  rfl
theorem skp_e {T : Nat → Nat} {n i : Nat} (h : n ≤ i) : skp T n i = i := by
  unfold skp
  rw [show n - i = 0 by omega]
  rfl
theorem skp_b {T : Nat → Nat} {n : Nat} : ∀ k i, n - i ≤ k → i ≤ skp T n i ∧ (i ≤ n → skp T n i ≤ n) ∧ (skp T n i < n → T (skp T n i) ≠ 32)
  | 0, i, h => by
    rw [skp_e (by omega)]
    exact ⟨Nat.le_refl _, fun z => z, fun z => by omega⟩
  | k + 1, i, h => by
    by_cases c : i < n
    · rw [skp_s c]
      by_cases e : T i = 32
      · rw [if_pos e]
        have ih := skp_b (T := T) (n := n) k (i + 1) (by omega)
        exact ⟨by omega, fun _ => ih.2.1 (by omega), ih.2.2⟩
      · rw [if_neg e]
        exact ⟨Nat.le_refl _, fun z => z, fun _ => e⟩
    · rw [skp_e (by omega)]
      exact ⟨Nat.le_refl _, fun z => z, fun z => absurd z c⟩
theorem skp_ge (T : Nat → Nat) (n i : Nat) : i ≤ skp T n i := (skp_b (n - i) i (Nat.le_refl _)).1
theorem skp_le {T : Nat → Nat} {n i : Nat} (h : i ≤ n) : skp T n i ≤ n := (skp_b (n - i) i (Nat.le_refl _)).2.1 h
theorem skp_id {T : Nat → Nat} {n i : Nat} (h : i < n) (h2 : T i ≠ 32) : skp T n i = i := by rw [skp_s h, if_neg h2]
theorem skp_skp {T : Nat → Nat} {n i : Nat} : skp T n (skp T n i) = skp T n i := by
  by_cases c : skp T n i < n
  · exact skp_id c ((skp_b (n - i) i (Nat.le_refl _)).2.2 c)
  · exact skp_e (by omega)
def dgF (T : Nat → Nat) : Nat → Nat → Nat
  | 0, i => i
  | k + 1, i => if 48 ≤ T i ∧ T i ≤ 57 then dgF T k (i + 1) else i
/-- behind figures -/
def nj (T : Nat → Nat) (n i : Nat) : Nat := dgF T (n - i) i
theorem nj_s {T : Nat → Nat} {n i : Nat} (h : i < n) : nj T n i = if 48 ≤ T i ∧ T i ≤ 57 then nj T n (i + 1) else i := by
  unfold nj
  rw [show n - i = (n - (i + 1)) + 1 by omega]
  rfl
theorem nj_e {T : Nat → Nat} {n i : Nat} (h : n ≤ i) : nj T n i = i := by
  unfold nj
  rw [show n - i = 0 by omega]
  rfl
theorem nj_b {T : Nat → Nat} {n : Nat} : ∀ k i, n - i ≤ k → i ≤ nj T n i ∧ (i ≤ n → nj T n i ≤ n)
  | 0, i, h => by
    rw [nj_e (by omega)]
    exact ⟨Nat.le_refl _, fun z => z⟩
  | k + 1, i, h => by
    by_cases c : i < n
    · rw [nj_s c]
      split
      · have ih := nj_b (T := T) (n := n) k (i + 1) (by omega)
        exact ⟨by omega, fun _ => ih.2 (by omega)⟩
      · exact ⟨Nat.le_refl _, fun z => z⟩
    · rw [nj_e (by omega)]
      exact ⟨Nat.le_refl _, fun z => z⟩
theorem nj_ge (T : Nat → Nat) (n i : Nat) : i ≤ nj T n i := (nj_b (n - i) i (Nat.le_refl _)).1
theorem nj_le {T : Nat → Nat} {n i : Nat} (h : i ≤ n) : nj T n i ≤ n := (nj_b (n - i) i (Nat.le_refl _)).2 h
/-- the number of k figures from i on -/
def vlF (T : Nat → Nat) (i : Nat) : Nat → Nat
  | 0 => 0
  | k + 1 => 10 * vlF T i k + (T (i + k) - 48)
theorem vlF_lt {T : Nat → Nat} {i : Nat} : ∀ k, (∀ j, j < k → T (i + j) ≤ 57) → vlF T i k < 10 ^ k
  | 0, _ => Nat.one_pos
  | k + 1, h => by
    have ih := vlF_lt (T := T) (i := i) k (fun j hj => h j (by omega))
    have := h k (by omega)
    show 10 * vlF T i k + (T (i + k) - 48) < 10 ^ (k + 1)
    rw [Nat.pow_succ]
    omega
theorem vlF_999 {T : Nat → Nat} {i k : Nat} (hk : k ≤ 3) (h : ∀ j, j < k → T (i + j) ≤ 57) : vlF T i k ≤ 999 := by
  have h1 := vlF_lt k h
  have h2 : 10 ^ k ≤ 10 ^ 3 := Nat.pow_le_pow_right (n := 10) (by omega) hk
  have h3 : (10 : Nat) ^ 3 = 1000 := by decide
  omega
def nv (T : Nat → Nat) (n i : Nat) : Nat := vlF T i (nj T n i - i)
/-- the fault of a number that is due at i -/
def nf (T : Nat → Nat) (n lo hi i : Nat) : Nat := if nj T n i = i then 1 else if 3 < nj T n i - i then 2 else if nv T n i < lo then 2 else if hi < nv T n i then 2 else 0
theorem nf_0 {T : Nat → Nat} {n lo hi i : Nat} (h : nf T n lo hi i = 0) : i < nj T n i ∧ nj T n i - i ≤ 3 ∧ lo ≤ nv T n i ∧ nv T n i ≤ hi := by
  unfold nf at h
  have := nj_ge T n i
  by_cases c1 : nj T n i = i
  · rw [if_pos c1] at h; omega
  · rw [if_neg c1] at h
    by_cases c2 : 3 < nj T n i - i
    · rw [if_pos c2] at h; omega
    · rw [if_neg c2] at h
      by_cases c3 : nv T n i < lo
      · rw [if_pos c3] at h; omega
      · rw [if_neg c3] at h
        by_cases c4 : hi < nv T n i
        · rw [if_pos c4] at h; omega
        · omega
theorem nf_le (T : Nat → Nat) (n lo hi i : Nat) : nf T n lo hi i ≤ 2 := by
  unfold nf
  (repeat' split) <;> omega
def bdW (w : Nat) : List (Nat × Nat) := if w = 98 then [(0, 99), (0, 1), (0, 3), (0, 300), (0, 300), (0, 300)] else if w = 108 then [(1, 20), (1, 20), (1, 20)] else if w = 112 then [(0, 99), (1, 20), (0, 9), (0, 1)] else [(1, 999)]
def loW (w k : Nat) : Nat := ((bdW w).getD k (0, 0)).1
def hiW (w k : Nat) : Nat := ((bdW w).getD k (0, 0)).2
def mW (w : Nat) : Nat := (bdW w).length
/-- where the k-th number of a clause is due, from i on; where one is behind k of them -/
def sK (T : Nat → Nat) (n i : Nat) : Nat → Nat
  | 0 => skp T n i
  | k + 1 => skp T n (nj T n (sK T n i k))
def eK (T : Nat → Nat) (n i : Nat) : Nat → Nat
  | 0 => i
  | k + 1 => nj T n (sK T n i k)
theorem sK_e (T : Nat → Nat) (n i : Nat) : ∀ k, sK T n i k = skp T n (eK T n i k)
  | 0 => rfl
  | _ + 1 => rfl
theorem eK_b {T : Nat → Nat} {n i : Nat} (h : i ≤ n) : ∀ k, i ≤ eK T n i k ∧ eK T n i k ≤ n
  | 0 => ⟨Nat.le_refl _, h⟩
  | k + 1 => by
    have ih := eK_b (T := T) h k
    have h1 := skp_ge T n (eK T n i k)
    have h2 := skp_le (T := T) ih.2
    have h3 := nj_ge T n (sK T n i k)
    have h4 := nj_le (T := T) (i := sK T n i k) (n := n) (by rw [sK_e]; exact h2)
    rw [← sK_e] at h1
    show i ≤ nj T n (sK T n i k) ∧ nj T n (sK T n i k) ≤ n
    omega
theorem sK_b {T : Nat → Nat} {n i : Nat} (h : i ≤ n) (k : Nat) : i ≤ sK T n i k ∧ sK T n i k ≤ n := by
  have h1 := eK_b (T := T) h k
  have h2 := skp_ge T n (eK T n i k)
  have h3 := skp_le (T := T) h1.2
  rw [sK_e]
  omega
/-- the first fault of k numbers: which, where -/
def nfs (T : Nat → Nat) (n w i : Nat) : Nat → Nat × Nat
  | 0 => (0, 0)
  | k + 1 => if (nfs T n w i k).1 = 0 then (if nf T n (loW w k) (hiW w k) (sK T n i k) = 0 then (0, 0) else (nf T n (loW w k) (hiW w k) (sK T n i k), sK T n i k)) else nfs T n w i k
theorem nfs_b {T : Nat → Nat} {n w i : Nat} (h : i ≤ n) : ∀ k, (nfs T n w i k).1 ≤ 2 ∧ (nfs T n w i k).2 ≤ n
  | 0 => ⟨Nat.zero_le _, Nat.zero_le _⟩
  | k + 1 => by
    have ih := nfs_b (T := T) (w := w) h k
    have h1 := nf_le T n (loW w k) (hiW w k) (sK T n i k)
    have h2 := (sK_b (T := T) h k).2
    unfold nfs
    split
    · split
      · exact ⟨Nat.zero_le _, Nat.zero_le _⟩
      · exact ⟨h1, h2⟩
    · exact ih
theorem nfs_0 {T : Nat → Nat} {n w i : Nat} : ∀ k, (nfs T n w i k).1 = 0 → ∀ j, j < k → nf T n (loW w j) (hiW w j) (sK T n i j) = 0
  | 0, _, j, hj => by omega
  | k + 1, h, j, hj => by
    unfold nfs at h
    by_cases c : (nfs T n w i k).1 = 0
    · rw [if_pos c] at h
      by_cases c2 : nf T n (loW w k) (hiW w k) (sK T n i k) = 0
      · by_cases e : j = k
        · rw [e]
          exact c2
        · exact nfs_0 k c j (by omega)
      · rw [if_neg c2] at h
        exact absurd h c2
    · rw [if_neg c] at h
      exact absurd h c
theorem nfs_st {T : Nat → Nat} {n w i k : Nat} (h : (nfs T n w i k).1 ≠ 0) : ∀ m, k ≤ m → nfs T n w i m = nfs T n w i k
  | 0, hk => by rw [show k = 0 by omega]
  | m + 1, hk => by
    by_cases e : k = m + 1
    · rw [e]
    · have ih := nfs_st h m (by omega)
      show (if (nfs T n w i m).1 = 0 then _ else nfs T n w i m) = _
      rw [ih, if_neg h]
/-! what both hold of the text -/
def TX (c : Nat) (T : Nat → Nat) (n : Nat) (s : bl_S) : Prop := n ≤ 230 ∧ (∀ j, j < n → T j ≤ 255) ∧ ∀ j, j < n → s c j = nI (T j)
theorem wi_N {v lo hi : Nat} (h1 : v < 2 ^ 31) (h2 : lo < 2 ^ 31) (h3 : hi < 2 ^ 31) : wi (nI v) (nI lo) (nI hi) = if v < lo then 0 else if hi < v then 0 else 1 := by
  unfold wi
  by_cases a : v < lo
  · rw [if_pos (nI_lt a h2), if_pos a]
  · rw [if_neg (nI_nlt (by omega) h1), if_neg a]
    by_cases b : hi < v
    · rw [if_pos (nI_lt b h1), if_pos b]
    · rw [if_neg (nI_nlt (by omega) h3), if_neg b]
theorem wi_dg {c : Nat} (h : c ≤ 255) : wi (nI c) 48 57 = if 48 ≤ c ∧ c ≤ 57 then 1 else 0 := by
  have e := wi_N (v := c) (lo := 48) (hi := 57) (by omega) (by omega) (by omega)
  have e : wi (nI c) 48 57 = if c < 48 then 0 else if 57 < c then 0 else 1 := e
  rw [e]
  by_cases a : c < 48
  · rw [if_pos a, if_neg (by omega)]
  · rw [if_neg a]
    by_cases b : 57 < c
    · rw [if_pos b, if_neg (by omega)]
    · rw [if_neg b, if_pos (by omega)]
theorem skC {s : bl_S} {T : Nat → Nat} {n i : Nat} (hT : TX 67 T n s) (h1 : s 2 1 = nI n) (h5 : s 2 5 = nI i) (hi : i ≤ n) : bl_Con (bl_mi 44) [.ref 2] s none (bl_up s 2 5 (nI (skp T n i))) := by
  obtain ⟨t1, t2, t3⟩ := hT
  have key : ∀ k i, n - i ≤ k → i ≤ n → bl_Wx (bl_mi 44) 0 [(0, .ref 2)] [] (bl_up s 2 5 (nI i)) (fun v τ => v = none ∧ τ = bl_up s 2 5 (nI (skp T n i))) := by
    intro k
    induction k with
    | zero =>
      intro i h hi
      have e : i = n := by omega
      subst e
      rw [skp_e (Nat.le_refl _)]
      refine vc_X7_skipBlanks_0 _ ⟨fun z => absurd z ?_, fun _ => ⟨rfl, rfl⟩⟩
      rw [bl_up_s, bl_up_j (by omega), h1]
      exact nI_nlt (Nat.le_refl _) (by omega)
    | succ k ih =>
      intro i h hi
      by_cases c : i < n
      · rw [skp_s c]
        have hlt : bl_up s 2 5 (nI i) 2 5 < bl_up s 2 5 (nI i) 2 1 := by
          rw [bl_up_s, bl_up_j (by omega), h1]
          exact nI_lt c (by omega)
        have hle := t2 i c
        refine vc_X7_skipBlanks_0 _ ⟨fun _ => ?_, fun z => absurd hlt z⟩
        rw [bl_up_s, nI_clamp (show i < 2 ^ 31 by omega), bl_up_c (by omega), t3 i c, bl_up_up, nI_1]
        refine ⟨vp_in_nI (by omega) (by omega), ?_⟩
        by_cases e : T i = 32
        · rw [if_pos e, e]
          exact ⟨fun _ => ih (i + 1) (by omega) (by omega), fun z => absurd rfl z⟩
        · rw [if_neg e]
          exact ⟨fun z => absurd ((nI_eq (b := 32) (by omega) (by omega)).mp z) e, fun _ => ⟨rfl, rfl⟩⟩
      · have e : i = n := by omega
        subst e
        rw [skp_e (Nat.le_refl _)]
        refine vc_X7_skipBlanks_0 _ ⟨fun z => absurd z ?_, fun _ => ⟨rfl, rfl⟩⟩
        rw [bl_up_s, bl_up_j (by omega), h1]
        exact nI_nlt (Nat.le_refl _) (by omega)
  have := key (n - i) i (Nat.le_refl _) hi
  rw [bl_up_id' h5.symm] at this
  exact bl_c (Nat.le_of_ble_eq_true rfl) this
theorem noteC (s : bl_S) (x y : Int32) : bl_Con (bl_mi 46) [.ref 2, .int x, .int y] s none (bl_up (bl_up s 2 6 x) 2 2 y) := bl_c (Nat.le_of_ble_eq_true rfl) (vc_X7_note_0 s x y ⟨rfl, rfl⟩)
/-- a number is read by the class -/
theorem rnC {s : bl_S} {T : Nat → Nat} {n i lo hi : Nat} (hT : TX 67 T n s) (h1 : s 2 1 = nI n) (h5 : s 2 5 = nI i) (hi' : i ≤ n) (hlo : lo ≤ 999) (hhi : hi ≤ 999) : bl_Con (bl_mi 49) [.ref 2, .int (nI lo), .int (nI hi)] s (some (.int (nI (vlF T i (Nat.min (nj T n i - i) 3))))) (if nf T n lo hi i = 0 then bl_up s 2 5 (nI (nj T n i)) else bl_up (bl_up (bl_up s 2 5 (nI (nj T n i))) 2 6 (nI (nf T n lo hi i))) 2 2 (nI i)) := by
  obtain ⟨t1, t2, t3⟩ := hT
  obtain ⟨τ, eτ⟩ : ∃ τ, τ = if nf T n lo hi i = 0 then bl_up s 2 5 (nI (nj T n i)) else bl_up (bl_up (bl_up s 2 5 (nI (nj T n i))) 2 6 (nI (nf T n lo hi i))) 2 2 (nI i) := ⟨_, rfl⟩
  obtain ⟨r, er⟩ : ∃ r, r = nI (vlF T i (Nat.min (nj T n i - i) 3)) := ⟨_, rfl⟩
  rw [← eτ, ← er]
  -- at the end of the figures
  have fin : ∀ j, j ≤ n → i ≤ j → (∀ k, k < j - i → T (i + k) ≤ 57) → nj T n i = j → ∀ u, u = bl_up s 2 5 (nI j) → ∀ x4, x4 = nI (vlF T i (Nat.min (j - i) 3)) → ((u 2 5 = nI i → (∃ τ8 : bl_S, bl_Con (bl_mi 46) [.ref 2, .int 1, .int (nI i)] u none τ8 ∧ (some (Value.int x4) = some (.int r) ∧ τ8 = τ))) ∧ (¬ u 2 5 = nI i → ((3 < (u 2 5 - nI i) → (∃ τ12 : bl_S, bl_Con (bl_mi 46) [.ref 2, .int 2, .int (nI i)] u none τ12 ∧ (some (Value.int x4) = some (.int r) ∧ τ12 = τ))) ∧ (¬ 3 < (u 2 5 - nI i) → (∃ (y18 : Int32) (τ15 : bl_S), bl_Con (bl_mi 48) [.int x4, .int (nI lo), .int (nI hi)] u (some (.int y18)) τ15 ∧ ((y18 = 0 → (∃ τ20 : bl_S, bl_Con (bl_mi 46) [.ref 2, .int 2, .int (nI i)] τ15 none τ20 ∧ (some (Value.int x4) = some (.int r) ∧ τ20 = τ))) ∧ (¬ y18 = 0 → (some (Value.int x4) = some (.int r) ∧ τ15 = τ)))))))) := by
    intro j hjn hij hdg ej u eu x4 ex
    have u5 : u 2 5 = nI j := by rw [eu, bl_up_s]
    have e1 : some (Value.int x4) = some (Value.int r) := by rw [ex, er, ej]
    rw [ej] at eτ
    have sub : nI j - nI i = nI (j - i) := pk_sub hij
    rw [u5, sub]
    refine ⟨fun q => ?_, fun q => ⟨fun q2 => ?_, fun q2 => ?_⟩⟩
    · have ij : j = i := (nI_eq (by omega) (by omega)).mp q
      have f1 : nf T n lo hi i = 1 := by unfold nf; rw [if_pos (by omega)]
      refine ⟨_, noteC u 1 (nI i), e1, ?_⟩
      rw [eτ, f1, if_neg (by omega), eu]
      rfl
    · have ij : j ≠ i := fun e => q (by rw [e])
      have c3 : 3 < j - i := by
        have := (nI_ltI (a := 3) (b := j - i) (by omega) (by omega)).mp q2
        exact this
      have f1 : nf T n lo hi i = 2 := by unfold nf; rw [if_neg (by omega), if_pos (by omega)]
      refine ⟨_, noteC u 2 (nI i), e1, ?_⟩
      rw [eτ, f1, if_neg (by omega), eu]
      rfl
    · have ij : j ≠ i := fun e => q (by rw [e])
      have c3 : j - i ≤ 3 := by
        rcases Nat.lt_or_ge 3 (j - i) with z | z
        · exact absurd (nI_lt (a := 3) z (by omega)) q2
        · exact z
      have mn : Nat.min (j - i) 3 = j - i := Nat.min_eq_left c3
      have v9 := vlF_999 (T := T) (i := i) c3 hdg
      have env : nv T n i = vlF T i (j - i) := by unfold nv; rw [ej]
      have hw := c_X10_within u x4 (nI lo) (nI hi)
      have ewi : wi x4 (nI lo) (nI hi) = if vlF T i (j - i) < lo then 0 else if hi < vlF T i (j - i) then 0 else 1 := by
        rw [ex, mn, wi_N (by omega) (by omega) (by omega)]
      refine ⟨_, _, hw, fun z => ?_, fun z => ?_⟩
      · have f1 : nf T n lo hi i = 2 := by
          unfold nf
          rw [if_neg (by omega), if_neg (by omega), env]
          rw [ewi] at z
          by_cases a : vlF T i (j - i) < lo
          · rw [if_pos a]
          · rw [if_neg a] at z ⊢
            by_cases b : hi < vlF T i (j - i)
            · rw [if_pos b]
            · rw [if_neg b] at z
              exact absurd z (by decide)
        refine ⟨_, noteC u 2 (nI i), e1, ?_⟩
        rw [eτ, f1, if_neg (by omega), eu]
        rfl
      · have f1 : nf T n lo hi i = 0 := by
          unfold nf
          rw [if_neg (by omega), if_neg (by omega), env]
          rw [ewi] at z
          by_cases a : vlF T i (j - i) < lo
          · rw [if_pos a] at z
            exact absurd rfl z
          · rw [if_neg a] at z ⊢
            by_cases b : hi < vlF T i (j - i)
            · rw [if_pos b] at z
              exact absurd rfl z
            · rw [if_neg b]
        refine ⟨e1, ?_⟩
        rw [eτ, f1, if_pos rfl, eu]
  have key : ∀ k j, n - j ≤ k → i ≤ j → j ≤ n → (∀ k, k < j - i → T (i + k) ≤ 57) → nj T n i = nj T n j → bl_Wx (bl_mi 49) 8 [(0, .ref 2), (1, .int (nI lo)), (2, .int (nI hi)), (3, .int (nI i)), (4, .int (nI (vlF T i (Nat.min (j - i) 3))))] [] (bl_up s 2 5 (nI j)) (fun v t => v = some (.int r) ∧ t = τ) := by
    intro k
    induction k with
    | zero =>
      intro j h hij hjn hdg ej
      have e : j = n := by omega
      refine vc_X7_readNumber_8 _ _ _ _ _ ⟨fun z => absurd z ?_, fun _ => fin j hjn hij hdg (by rw [ej, nj_e (by omega)]) _ rfl _ rfl⟩
      rw [bl_up_s, bl_up_j (by omega), h1, e]
      exact nI_nlt (Nat.le_refl _) (by omega)
    | succ k ih =>
      intro j h hij hjn hdg ej
      by_cases c : j < n
      · have hlt : bl_up s 2 5 (nI j) 2 5 < bl_up s 2 5 (nI j) 2 1 := by
          rw [bl_up_s, bl_up_j (by omega), h1]
          exact nI_lt c (by omega)
        have hle := t2 j c
        have hw := c_X10_within (bl_up s 2 5 (nI j)) (nI (T j)) 48 57
        have ch : bl_up s 2 5 (nI j) 67 j = nI (T j) := by rw [bl_up_c (by omega)]; exact t3 j c
        refine vc_X7_readNumber_8 _ _ _ _ _ ⟨fun _ => ?_, fun z => absurd hlt z⟩
        by_cases d : 48 ≤ T j ∧ T j ≤ 57
        · have wd : wi (nI (T j)) 48 57 = 1 := by rw [wi_dg hle, if_pos d]
          have hn1 := ih (j + 1) (by omega) (by omega) (by omega) (fun k hk => by
            by_cases e : k = j - i
            · rw [show i + k = j by omega]
              exact d.2
            · exact hdg k (by omega)) (by rw [ej, nj_s c, if_pos d])
          rw [bl_up_s, nI_clamp (show j < 2 ^ 31 by omega), ch]
          refine ⟨vp_in_nI (by omega) (by omega), _, _, hw, fun z => absurd z (by rw [wd]; decide), fun _ => ⟨fun _ => ?_, fun v25 e25 => ?_⟩⟩
          · rw [bl_up_s]
            exact vp_in_nI (by omega) (by omega)
          · rw [bl_up_s, nI_clamp (show j < 2 ^ 31 by omega), ch, pk_sub hij] at e25
            rw [bl_up_s, bl_up_up, nI_1]
            have ev : v25 = nI (vlF T i (Nat.min (j + 1 - i) 3)) := by
              rw [e25]
              by_cases c3 : j - i < 3
              · rw [if_pos (show nI (j - i) < (3 : Int32) from nI_lt (b := 3) c3 (by omega)), show Nat.min (j - i) 3 = j - i from Nat.min_eq_left (by omega), show Nat.min (j + 1 - i) 3 = j - i + 1 by rw [show j + 1 - i = j - i + 1 by omega]; exact Nat.min_eq_left (by omega)]
                show 10 * nI (vlF T i (j - i)) + nI (T j) - 48 = nI (10 * vlF T i (j - i) + (T (i + (j - i)) - 48))
                rw [show i + (j - i) = j by omega, show (10 : Int32) = nI 10 from rfl, show (48 : Int32) = nI 48 from rfl, nI_mul, nI_add, pk_sub (by omega)]
                congr 1
                omega
              · rw [if_neg (show ¬ nI (j - i) < (3 : Int32) from nI_nlt (a := j - i) (b := 3) (by omega) (by omega)), show Nat.min (j - i) 3 = 3 from Nat.min_eq_right (by omega), show Nat.min (j + 1 - i) 3 = 3 from Nat.min_eq_right (by omega)]
            rw [ev]
            exact hn1
        · have wd : wi (nI (T j)) 48 57 = 0 := by rw [wi_dg hle, if_neg d]
          rw [wd] at hw
          have hf := fin j hjn hij hdg (by rw [ej, nj_s c, if_neg d]) _ rfl _ rfl
          refine ⟨?_, ?_⟩
          · rw [bl_up_s]
            exact vp_in_nI (by omega) (by omega)
          · refine ⟨0, bl_up s 2 5 (nI j), ?_, fun _ => hf, fun z => absurd rfl z⟩
            have e0 : bl_up s 2 5 (nI j) 67 (Int32.toNatClampNeg (bl_up s 2 5 (nI j) 2 5)) = nI (T j) := by rw [bl_up_s, nI_clamp (show j < 2 ^ 31 by omega), ch]
            rw [e0]
            exact hw
      · have e : j = n := by omega
        refine vc_X7_readNumber_8 _ _ _ _ _ ⟨fun z => absurd z ?_, fun _ => fin j hjn hij hdg (by rw [ej, nj_e (by omega)]) _ rfl _ rfl⟩
        rw [bl_up_s, bl_up_j (by omega), h1, e]
        exact nI_nlt (Nat.le_refl _) (by omega)
  have hk := key (n - i) i (Nat.le_refl _) (Nat.le_refl _) hi' (fun k hk => by omega) rfl
  rw [bl_up_id' h5.symm, show Nat.min (i - i) 3 = 0 by rw [Nat.sub_self]; rfl] at hk
  refine bl_c (Nat.le_of_ble_eq_true rfl) (vc_X7_readNumber_0 s _ _ ?_)
  rw [h5]
  exact hk
