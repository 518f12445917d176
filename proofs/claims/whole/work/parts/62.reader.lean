/-! THE READER: clauses, in natural numbers. D: what was told: row 0: 1 the law, 2 bushes, 3 pickers, 4 the can; row 1: the law; from row 2 on bushes; from row 8 on pickers -/
def dU (D : Nat → Nat → Nat) (c j v : Nat) : Nat → Nat → Nat := fun c' j' => if c' = c ∧ j' = j then v else D c' j'
def dR (D : Nat → Nat → Nat) (c : Nat) (f : Nat → Nat) : Nat → Nat → Nat := fun c' j' => if c' = c then f j' else D c' j'
theorem dU_s {D : Nat → Nat → Nat} {c j v : Nat} : dU D c j v c j = v := if_pos ⟨rfl, rfl⟩
theorem dU_c {D : Nat → Nat → Nat} {c j v c' j' : Nat} (h : c' ≠ c) : dU D c j v c' j' = D c' j' := if_neg (fun z => h z.1)
theorem dU_j {D : Nat → Nat → Nat} {c j v c' j' : Nat} (h : j' ≠ j) : dU D c j v c' j' = D c' j' := if_neg (fun z => h z.2)
theorem dR_s {D : Nat → Nat → Nat} {c : Nat} {f : Nat → Nat} {j' : Nat} : dR D c f c j' = f j' := if_pos rfl
theorem dR_c {D : Nat → Nat → Nat} {c : Nat} {f : Nat → Nat} {c' j' : Nat} (h : c' ≠ c) : dR D c f c' j' = D c' j' := if_neg h
def wfD (w : Nat) (D : Nat → Nat → Nat) : Nat := if D 0 1 = 0 then (if w = 108 then 0 else 1) else if w = 98 then (if D 0 2 < 6 then 0 else 3) else if w = 99 then (if D 0 4 = 0 then 0 else 3) else if w = 108 then 3 else if w = 112 then (if D 0 3 < 4 then 0 else 3) else 1
def tkD (w : Nat) (f : Nat → Nat) (D : Nat → Nat → Nat) : Nat → Nat → Nat := if w = 98 then dR (dU D 0 2 (D 0 2 + 1)) (2 + D 0 2) f else if w = 108 then dR (dU D 0 1 1) 1 f else if w = 112 then dR (dU D 0 3 (D 0 3 + 1)) (8 + D 0 3) f else dU D 0 4 (f 0)
def clD (T : Nat → Nat) (n : Nat) (D : Nat → Nat → Nat) (i : Nat) : Nat × Nat := if wfD (T i) D = 0 then (if (nfs T n (T i) (i + 1) (mW (T i))).1 = 0 then (if sK T n (i + 1) (mW (T i)) < n ∧ T (sK T n (i + 1) (mW (T i))) = 59 then (0, sK T n (i + 1) (mW (T i)) + 1) else (1, sK T n (i + 1) (mW (T i)))) else nfs T n (T i) (i + 1) (mW (T i))) else (wfD (T i) D, i)
def psD (T : Nat → Nat) (n : Nat) : Nat → (Nat → Nat → Nat) → Nat → Nat × Nat × (Nat → Nat → Nat)
  | 0, D, _ => (0, 0, D)
  | N + 1, D, i => if i < n then (if (clD T n D i).1 = 0 then psD T n N (tkD (T i) (fun k => nv T n (sK T n (i + 1) k)) D) (skp T n (clD T n D i).2) else ((clD T n D i).1, (clD T n D i).2, D)) else (0, 0, D)
def okD (D : Nat → Nat → Nat) : Prop := D 0 1 ≤ 1 ∧ D 0 2 ≤ 6 ∧ D 0 3 ≤ 4 ∧ D 0 4 ≤ 999 ∧ (D 0 1 = 0 → D 0 2 = 0 ∧ D 0 3 = 0 ∧ D 0 4 = 0 ∧ ∀ k, k < 3 → D 1 k = 0) ∧ (D 0 1 = 1 → ∀ k, k < 3 → 1 ≤ D 1 k ∧ D 1 k ≤ 20) ∧ (∀ b, b < D 0 2 → D (2 + b) 0 ≤ 99 ∧ D (2 + b) 1 ≤ 1 ∧ D (2 + b) 2 ≤ 3 ∧ D (2 + b) 3 ≤ 300 ∧ D (2 + b) 4 ≤ 300 ∧ D (2 + b) 5 ≤ 300) ∧ ∀ p, p < D 0 3 → D (8 + p) 0 ≤ 99 ∧ 1 ≤ D (8 + p) 1 ∧ D (8 + p) 1 ≤ 20 ∧ D (8 + p) 2 ≤ 9 ∧ D (8 + p) 3 ≤ 1
theorem wfD_w {w : Nat} {D : Nat → Nat → Nat} (h : wfD w D = 0) : (w = 98 ∧ D 0 1 ≠ 0 ∧ D 0 2 < 6) ∨ (w = 108 ∧ D 0 1 = 0) ∨ (w = 112 ∧ D 0 1 ≠ 0 ∧ D 0 3 < 4) ∨ (w = 99 ∧ D 0 1 ≠ 0 ∧ D 0 4 = 0) := by
  unfold wfD at h
  by_cases c0 : D 0 1 = 0
  · rw [if_pos c0] at h
    by_cases c1 : w = 108
    · exact Or.inr (Or.inl ⟨c1, c0⟩)
    · rw [if_neg c1] at h; omega
  · rw [if_neg c0] at h
    by_cases c1 : w = 98
    · rw [if_pos c1] at h
      by_cases c2 : D 0 2 < 6
      · exact Or.inl ⟨c1, c0, c2⟩
      · rw [if_neg c2] at h; omega
    · rw [if_neg c1] at h
      by_cases c3 : w = 99
      · rw [if_pos c3] at h
        by_cases c2 : D 0 4 = 0
        · exact Or.inr (Or.inr (Or.inr ⟨c3, c0, c2⟩))
        · rw [if_neg c2] at h; omega
      · rw [if_neg c3] at h
        by_cases c4 : w = 108
        · rw [if_pos c4] at h; omega
        · rw [if_neg c4] at h
          by_cases c5 : w = 112
          · rw [if_pos c5] at h
            by_cases c2 : D 0 3 < 4
            · exact Or.inr (Or.inr (Or.inl ⟨c5, c0, c2⟩))
            · rw [if_neg c2] at h; omega
          · rw [if_neg c5] at h; omega
theorem okD_tk {w : Nat} {f : Nat → Nat} {D : Nat → Nat → Nat} (h : okD D) (hw : wfD w D = 0) (hf : ∀ k, k < mW w → loW w k ≤ f k ∧ f k ≤ hiW w k) : okD (tkD w f D) := by
  obtain ⟨h1, h2, h3, h4, h5, h6, h7, h8⟩ := h
  rcases wfD_w hw with ⟨e, q1, q2⟩ | ⟨e, q1⟩ | ⟨e, q1, q2⟩ | ⟨e, q1, q2⟩
  · subst e
    have et : tkD 98 f D = dR (dU D 0 2 (D 0 2 + 1)) (2 + D 0 2) f := rfl
    have f0 := hf 0 (by decide)
    have f1 := hf 1 (by decide)
    have f2 := hf 2 (by decide)
    have f3 := hf 3 (by decide)
    have f4 := hf 4 (by decide)
    have f5 := hf 5 (by decide)
    have f0 : 0 ≤ f 0 ∧ f 0 ≤ 99 := f0
    have f1 : 0 ≤ f 1 ∧ f 1 ≤ 1 := f1
    have f2 : 0 ≤ f 2 ∧ f 2 ≤ 3 := f2
    have f3 : 0 ≤ f 3 ∧ f 3 ≤ 300 := f3
    have f4 : 0 ≤ f 4 ∧ f 4 ≤ 300 := f4
    have f5 : 0 ≤ f 5 ∧ f 5 ≤ 300 := f5
    have r : ∀ j, j ≠ 2 → tkD 98 f D 0 j = D 0 j := fun j hj => by rw [et, dR_c (by omega), dU_j hj]
    have r2 : tkD 98 f D 0 2 = D 0 2 + 1 := by rw [et, dR_c (by omega), dU_s]
    have rr : ∀ c j, c ≠ 0 → c ≠ 2 + D 0 2 → tkD 98 f D c j = D c j := fun c j z1 z2 => by rw [et, dR_c z2, dU_c z1]
    have rb : ∀ j, tkD 98 f D (2 + D 0 2) j = f j := fun j => by rw [et, dR_s]
    refine ⟨by rw [r 1 (by omega)]; exact h1, by rw [r2]; omega, by rw [r 3 (by omega)]; exact h3, by rw [r 4 (by omega)]; exact h4, fun z => absurd (by rw [← r 1 (by omega)]; exact z) q1, fun z k hk => by rw [rr 1 k (by omega) (by omega)]; exact h6 (by rw [← r 1 (by omega)]; exact z) k hk, fun b hb => ?_, fun p hp => ?_⟩
    · rw [r2] at hb
      by_cases e : b = D 0 2
      · rw [e, rb, rb, rb, rb, rb, rb]
        omega
      · rw [rr _ _ (by omega) (by omega), rr _ _ (by omega) (by omega), rr _ _ (by omega) (by omega), rr _ _ (by omega) (by omega), rr _ _ (by omega) (by omega), rr _ _ (by omega) (by omega)]
        exact h7 b (by omega)
    · rw [r 3 (by omega)] at hp
      rw [rr _ _ (by omega) (by omega), rr _ _ (by omega) (by omega), rr _ _ (by omega) (by omega), rr _ _ (by omega) (by omega)]
      exact h8 p hp
  · subst e
    have et : tkD 108 f D = dR (dU D 0 1 1) 1 f := rfl
    have f0 : 1 ≤ f 0 ∧ f 0 ≤ 20 := hf 0 (by decide)
    have f1 : 1 ≤ f 1 ∧ f 1 ≤ 20 := hf 1 (by decide)
    have f2 : 1 ≤ f 2 ∧ f 2 ≤ 20 := hf 2 (by decide)
    have r : ∀ j, j ≠ 1 → tkD 108 f D 0 j = D 0 j := fun j hj => by rw [et, dR_c (by omega), dU_j hj]
    have r1 : tkD 108 f D 0 1 = 1 := by rw [et, dR_c (by omega), dU_s]
    have rb : ∀ j, tkD 108 f D 1 j = f j := fun j => by rw [et, dR_s]
    obtain ⟨z1, z2, z3, z4⟩ := h5 q1
    refine ⟨by rw [r1]; omega, by rw [r 2 (by omega)]; exact h2, by rw [r 3 (by omega)]; exact h3, by rw [r 4 (by omega)]; exact h4, fun z => by rw [r1] at z; omega, fun _ k hk => ?_, fun b hb => ?_, fun p hp => ?_⟩
    · rw [rb]
      rcases (show k = 0 ∨ k = 1 ∨ k = 2 by omega) with rfl | rfl | rfl
      · exact f0
      · exact f1
      · exact f2
    · rw [r 2 (by omega), z1] at hb
      omega
    · rw [r 3 (by omega), z2] at hp
      omega
  · subst e
    have et : tkD 112 f D = dR (dU D 0 3 (D 0 3 + 1)) (8 + D 0 3) f := rfl
    have f0 : 0 ≤ f 0 ∧ f 0 ≤ 99 := hf 0 (by decide)
    have f1 : 1 ≤ f 1 ∧ f 1 ≤ 20 := hf 1 (by decide)
    have f2 : 0 ≤ f 2 ∧ f 2 ≤ 9 := hf 2 (by decide)
    have f3 : 0 ≤ f 3 ∧ f 3 ≤ 1 := hf 3 (by decide)
    have r : ∀ j, j ≠ 3 → tkD 112 f D 0 j = D 0 j := fun j hj => by rw [et, dR_c (by omega), dU_j hj]
    have r2 : tkD 112 f D 0 3 = D 0 3 + 1 := by rw [et, dR_c (by omega), dU_s]
    have rr : ∀ c j, c ≠ 0 → c ≠ 8 + D 0 3 → tkD 112 f D c j = D c j := fun c j z1 z2 => by rw [et, dR_c z2, dU_c z1]
    have rb : ∀ j, tkD 112 f D (8 + D 0 3) j = f j := fun j => by rw [et, dR_s]
    refine ⟨by rw [r 1 (by omega)]; exact h1, by rw [r 2 (by omega)]; exact h2, by rw [r2]; omega, by rw [r 4 (by omega)]; exact h4, fun z => absurd (by rw [← r 1 (by omega)]; exact z) q1, fun z k hk => by rw [rr 1 k (by omega) (by omega)]; exact h6 (by rw [← r 1 (by omega)]; exact z) k hk, fun b hb => ?_, fun p hp => ?_⟩
    · rw [r 2 (by omega)] at hb
      rw [rr _ _ (by omega) (by omega), rr _ _ (by omega) (by omega), rr _ _ (by omega) (by omega), rr _ _ (by omega) (by omega), rr _ _ (by omega) (by omega), rr _ _ (by omega) (by omega)]
      exact h7 b hb
    · rw [r2] at hp
      by_cases e : p = D 0 3
      · rw [e, rb, rb, rb, rb]
        omega
      · rw [rr _ _ (by omega) (by omega), rr _ _ (by omega) (by omega), rr _ _ (by omega) (by omega), rr _ _ (by omega) (by omega)]
        exact h8 p (by omega)
  · subst e
    have et : tkD 99 f D = dU D 0 4 (f 0) := rfl
    have f0 : 1 ≤ f 0 ∧ f 0 ≤ 999 := hf 0 (by decide)
    have r : ∀ j, j ≠ 4 → tkD 99 f D 0 j = D 0 j := fun j hj => by rw [et, dU_j hj]
    have r2 : tkD 99 f D 0 4 = f 0 := by rw [et, dU_s]
    have rr : ∀ c j, c ≠ 0 → tkD 99 f D c j = D c j := fun c j z1 => by rw [et, dU_c z1]
    refine ⟨by rw [r 1 (by omega)]; exact h1, by rw [r 2 (by omega)]; exact h2, by rw [r 3 (by omega)]; exact h3, by rw [r2]; omega, fun z => absurd (by rw [← r 1 (by omega)]; exact z) q1, fun z k hk => by rw [rr 1 k (by omega)]; exact h6 (by rw [← r 1 (by omega)]; exact z) k hk, fun b hb => ?_, fun p hp => ?_⟩
    · rw [r 2 (by omega)] at hb
      rw [rr _ _ (by omega), rr _ _ (by omega), rr _ _ (by omega), rr _ _ (by omega), rr _ _ (by omega), rr _ _ (by omega)]
      exact h7 b hb
    · rw [r 3 (by omega)] at hp
      rw [rr _ _ (by omega), rr _ _ (by omega), rr _ _ (by omega), rr _ _ (by omega)]
      exact h8 p hp
/-- what is read is in its bounds -/
theorem clD_f {T : Nat → Nat} {n w i : Nat} (h : (nfs T n w i (mW w)).1 = 0) : ∀ k, k < mW w → loW w k ≤ nv T n (sK T n i k) ∧ nv T n (sK T n i k) ≤ hiW w k := fun k hk => (nf_0 (nfs_0 (mW w) h k hk)).2.2
/-! the class -/
def FRM (σ s : bl_S) : Prop := ∀ d, d < 52 ∨ 65 < d → d ≠ 2 → d ≠ 68 → s d = σ d
def DV (D : Nat → Nat → Nat) (s : bl_S) : Prop := (∀ k, k < 3 → s 53 k = nI (D 1 k)) ∧ s 53 3 = (if D 0 4 = 0 then 999 else nI (D 0 4)) ∧ s 52 3 = nI (D 0 2) ∧ s 52 4 = nI (D 0 3) ∧ s 52 5 = 0 ∧ (∀ b k, b < D 0 2 → k < 6 → s (56 + b) k = nI (D (2 + b) k)) ∧ ∀ p, p < D 0 3 → s (62 + p) 0 = nI (D (8 + p) 0) ∧ s (62 + p) 2 = nI (D (8 + p) 1) ∧ s (62 + p) 3 = nI (D (8 + p) 2) ∧ s (62 + p) 4 = nI (D (8 + p) 3)
def PZ (s : bl_S) : Prop := ∀ p, p < 4 → (s (62 + p) 4 = 0 ∨ s (62 + p) 4 = 1) ∧ s (62 + p) 1 = 0 ∧ s (62 + p) 5 = 0 ∧ s (62 + p) 6 = 0 ∧ s (62 + p) 7 = 0
def CVw (n : Nat) (D : Nat → Nat → Nat) (i : Nat) (σ s : bl_S) : Prop := FRM σ s ∧ s 2 1 = nI n ∧ s 2 5 = nI i ∧ s 2 6 = 0 ∧ s 2 2 = -1 ∧ s 2 7 = (if D 0 4 = 0 then 0 else 1) ∧ DV D s ∧ PZ s
theorem DV.fr {D : Nat → Nat → Nat} {s τ : bl_S} (h : DV D s) (hD : okD D) (f : ∀ d, 52 ≤ d → d ≤ 65 → τ d = s d) : DV D τ := by
  obtain ⟨h1, h2, h3, h4, h5, h6, h7⟩ := h
  have d2 := hD.2.1
  have d3 := hD.2.2.1
  refine ⟨fun k hk => by rw [f 53 (by omega) (by omega)]; exact h1 k hk, by rw [f 53 (by omega) (by omega)]; exact h2, by rw [f 52 (by omega) (by omega)]; exact h3, by rw [f 52 (by omega) (by omega)]; exact h4, by rw [f 52 (by omega) (by omega)]; exact h5, fun b k hb hk => by rw [f (56 + b) (by omega) (by omega)]; exact h6 b k hb hk, fun p hp => by rw [f (62 + p) (by omega) (by omega)]; exact h7 p hp⟩
theorem PZ.fr {s τ : bl_S} (h : PZ s) (f : ∀ d, 62 ≤ d → d ≤ 65 → τ d = s d) : PZ τ := fun p hp => by
  rw [f (62 + p) (by omega) (by omega)]
  exact h p hp
theorem fwC {s : bl_S} {w : Nat} {D : Nat → Nat → Nat} (hD : okD D) (hV : DV D s) (h7 : s 2 7 = if D 0 4 = 0 then 0 else 1) (hw : w ≤ 255) : bl_Con (bl_mi 45) [.ref 2, .int (nI w)] s (some (.int (nI (wfD w D)))) s := by
  obtain ⟨h1, h2, h3, h4, h5, h6, h8, h9⟩ := hD
  have ht := c_X4_isTold s (r := 53) rfl
  have et : tl (s 53 0) (s 53 1) (s 53 2) = if D 0 1 = 0 then 0 else 1 := by
    rw [hV.1 0 (by omega), hV.1 1 (by omega), hV.1 2 (by omega)]
    by_cases c : D 0 1 = 0
    · obtain ⟨-, -, -, z⟩ := h5 c
      rw [if_pos c, z 0 (by omega), z 1 (by omega), z 2 (by omega)]
      rfl
    · have z := h6 (by omega)
      have z0 := z 0 (by omega)
      have z1 := z 1 (by omega)
      have z2 := z 2 (by omega)
      rw [if_neg c]
      unfold tl
      rw [show (0 : Int32) = nI 0 from rfl, if_pos (nI_lt (by omega) (by omega)), if_pos (nI_lt (by omega) (by omega)), if_pos (nI_lt (by omega) (by omega))]
  rw [et] at ht
  have w98 : nI w = 98 ↔ w = 98 := nI_eq (b := 98) (by omega) (by omega)
  have w99 : nI w = 99 ↔ w = 99 := nI_eq (b := 99) (by omega) (by omega)
  have w108 : nI w = 108 ↔ w = 108 := nI_eq (b := 108) (by omega) (by omega)
  have w112 : nI w = 112 ↔ w = 112 := nI_eq (b := 112) (by omega) (by omega)
  have b6 : (if s 52 3 < 6 then (0 : Int32) else 3) = nI (if D 0 2 < 6 then 0 else 3) := by
    rw [hV.2.2.1]
    by_cases c : D 0 2 < 6
    · rw [if_pos (show nI (D 0 2) < (6 : Int32) from nI_lt (b := 6) c (by omega)), if_pos c]; rfl
    · rw [if_neg (show ¬ nI (D 0 2) < (6 : Int32) from nI_nlt (b := 6) (by omega) (by omega)), if_neg c]; rfl
  have b4 : (if s 52 4 < 4 then (0 : Int32) else 3) = nI (if D 0 3 < 4 then 0 else 3) := by
    rw [hV.2.2.2.1]
    by_cases c : D 0 3 < 4
    · rw [if_pos (show nI (D 0 3) < (4 : Int32) from nI_lt (b := 4) c (by omega)), if_pos c]; rfl
    · rw [if_neg (show ¬ nI (D 0 3) < (4 : Int32) from nI_nlt (b := 4) (by omega) (by omega)), if_neg c]; rfl
  have b7 : (if s 2 7 = 0 then (0 : Int32) else 3) = nI (if D 0 4 = 0 then 0 else 3) := by
    rw [h7]
    by_cases c : D 0 4 = 0
    · rw [if_pos c, if_pos c]; rfl
    · rw [if_neg c, if_neg c]; rfl
  refine bl_c (Nat.le_of_ble_eq_true rfl) (vc_X7_faultOfWord_0 s _ ⟨_, _, ht, ?_, ?_⟩)
  · intro q
    have c : D 0 1 = 0 := by
      by_cases c : D 0 1 = 0
      · exact c
      · rw [if_neg c] at q
        exact absurd q (by decide)
    refine ⟨fun e => ?_, fun e => ?_⟩
    · have e' := w108.mp e
      have n98 : ¬ nI w = 98 := fun z => by have := w98.mp z; omega
      have n99 : ¬ nI w = 99 := fun z => by have := w99.mp z; omega
      refine ⟨fun z => absurd z n98, fun _ => ⟨fun z => absurd z n99, fun _ => ⟨fun _ => ⟨?_, rfl⟩, fun z => absurd e z⟩⟩⟩
      unfold wfD
      rw [if_pos c, if_pos e']
      rfl
    · refine ⟨?_, rfl⟩
      unfold wfD
      rw [if_pos c, if_neg (fun z => e (w108.mpr z))]
      rfl
  · intro q
    have c : ¬ D 0 1 = 0 := fun c => by
      rw [if_pos c] at q
      exact absurd rfl q
    refine ⟨fun e v ev => ⟨?_, rfl⟩, fun e => ⟨fun e2 v ev => ⟨?_, rfl⟩, fun e2 => ⟨fun e3 => ⟨?_, rfl⟩, fun e3 => ⟨fun e4 v ev => ⟨?_, rfl⟩, fun e4 => ⟨?_, rfl⟩⟩⟩⟩⟩
    · unfold wfD
      rw [if_neg c, if_pos (w98.mp e), ev, b6]
    · unfold wfD
      rw [if_neg c, if_neg (fun z => e (w98.mpr z)), if_pos (w99.mp e2), ev, b7]
    · unfold wfD
      rw [if_neg c, if_neg (fun z => e (w98.mpr z)), if_neg (fun z => e2 (w99.mpr z)), if_pos (w108.mp e3)]
      rfl
    · unfold wfD
      rw [if_neg c, if_neg (fun z => e (w98.mpr z)), if_neg (fun z => e2 (w99.mpr z)), if_neg (fun z => e3 (w108.mpr z)), if_pos (w112.mp e4), ev, b4]
    · unfold wfD
      rw [if_neg c, if_neg (fun z => e (w98.mpr z)), if_neg (fun z => e2 (w99.mpr z)), if_neg (fun z => e3 (w108.mpr z)), if_neg (fun z => e4 (w112.mpr z))]
      rfl
def rW (w : Nat) : Nat := if w = 98 then 148 else if w = 108 then 147 else if w = 112 then 149 else 150
theorem boC (s : bl_S) {w : Nat} (hw : w ≤ 255) : bl_Con (bl_mi 47) [.int (nI w)] s (some (.ref (rW w))) s := by
  have w98 : nI w = 98 ↔ w = 98 := nI_eq (b := 98) (by omega) (by omega)
  have w108 : nI w = 108 ↔ w = 108 := nI_eq (b := 108) (by omega) (by omega)
  have w112 : nI w = 112 ↔ w = 112 := nI_eq (b := 112) (by omega) (by omega)
  unfold rW
  refine bl_c (Nat.le_of_ble_eq_true rfl) (vc_X7_boundsOf_0 s _ ⟨fun e => ⟨?_, rfl⟩, fun e => ⟨fun e2 => ⟨?_, rfl⟩, fun e2 => ⟨fun e3 => ⟨?_, rfl⟩, fun e3 => ⟨?_, rfl⟩⟩⟩⟩)
  · rw [if_pos (w98.mp e)]
  · rw [if_neg (fun z => e (w98.mpr z)), if_pos (w108.mp e2)]
  · rw [if_neg (fun z => e (w98.mpr z)), if_neg (fun z => e2 (w108.mpr z)), if_pos (w112.mp e3)]
  · rw [if_neg (fun z => e (w98.mpr z)), if_neg (fun z => e2 (w108.mpr z)), if_neg (fun z => e3 (w112.mpr z))]
theorem rW_ok (w : Nat) : bl_kd (rW w) = 26 ∧ bl_ln (rW w) = 2 * mW w ∧ mW w ≤ 6 ∧ 1 ≤ mW w ∧ ∀ k, k < mW w → bl_ro (rW w) (2 * k) = nI (loW w k) ∧ bl_ro (rW w) (2 * k + 1) = nI (hiW w k) ∧ loW w k ≤ 999 ∧ hiW w k ≤ 999 := by
  have key : ∀ r m lo hi, (r, m, lo, hi) = (rW w, mW w, loW w, hiW w) → (bl_kd r = 26 ∧ bl_ln r = 2 * m ∧ m ≤ 6 ∧ 1 ≤ m ∧ ∀ k, k < m → bl_ro r (2 * k) = nI (lo k) ∧ bl_ro r (2 * k + 1) = nI (hi k) ∧ lo k ≤ 999 ∧ hi k ≤ 999) → (bl_kd (rW w) = 26 ∧ bl_ln (rW w) = 2 * mW w ∧ mW w ≤ 6 ∧ 1 ≤ mW w ∧ ∀ k, k < mW w → bl_ro (rW w) (2 * k) = nI (loW w k) ∧ bl_ro (rW w) (2 * k + 1) = nI (hiW w k) ∧ loW w k ≤ 999 ∧ hiW w k ≤ 999) := by
    intro r m lo hi e h
    cases e
    exact h
  by_cases e : w = 98
  · subst e
    decide +kernel
  · by_cases e2 : w = 108
    · subst e2
      decide +kernel
    · by_cases e3 : w = 112
      · subst e3
        decide +kernel
      · have h1 : rW w = 150 := by unfold rW; rw [if_neg e, if_neg e2, if_neg e3]
        have h2 : bdW w = [(1, 999)] := by unfold bdW; rw [if_neg e, if_neg e2, if_neg e3]
        have h3 : mW w = 1 := by unfold mW; rw [h2]; rfl
        rw [h1, h3]
        refine ⟨by decide +kernel, by decide +kernel, by omega, by omega, fun k hk => ?_⟩
        rw [show k = 0 by omega]
        unfold loW hiW
        rw [h2]
        decide +kernel
/-- the numbers of a clause -/
theorem rsC {s0 : bl_S} {T : Nat → Nat} {n i w : Nat} (hT : TX 67 T n s0) (h1 : s0 2 1 = nI n) (h5 : s0 2 5 = nI i) (h6 : s0 2 6 = 0) (hi : i ≤ n) : ∃ τ, ((∀ d, d ≠ 2 → d ≠ 68 → τ d = s0 d) ∧ (∀ j, j ≠ 2 → j ≠ 5 → j ≠ 6 → τ 2 j = s0 2 j) ∧ (∃ j, j ≤ n ∧ τ 2 5 = nI j) ∧ ((nfs T n w i (mW w)).1 = 0 → τ 2 5 = nI (eK T n i (mW w)) ∧ τ 2 6 = 0 ∧ τ 2 2 = s0 2 2 ∧ ∀ k, k < mW w → τ 68 k = nI (nv T n (sK T n i k))) ∧ ((nfs T n w i (mW w)).1 ≠ 0 → τ 2 6 = nI (nfs T n w i (mW w)).1 ∧ τ 2 2 = nI (nfs T n w i (mW w)).2)) ∧ bl_Con (bl_mi 50) [.ref 2, .ref (rW w)] s0 none τ := by
  obtain ⟨k1, k2, k3, k4, k5⟩ := rW_ok w
  obtain ⟨m, em⟩ : ∃ m, m = mW w := ⟨_, rfl⟩
  rw [← em] at k2 k3 k4 k5 ⊢
  obtain ⟨P, eP⟩ : ∃ P : bl_S → Prop, P = fun τ => ((∀ d, d ≠ 2 → d ≠ 68 → τ d = s0 d) ∧ (∀ j, j ≠ 2 → j ≠ 5 → j ≠ 6 → τ 2 j = s0 2 j) ∧ (∃ j, j ≤ n ∧ τ 2 5 = nI j) ∧ ((nfs T n w i m).1 = 0 → τ 2 5 = nI (eK T n i m) ∧ τ 2 6 = 0 ∧ τ 2 2 = s0 2 2 ∧ ∀ k, k < m → τ 68 k = nI (nv T n (sK T n i k))) ∧ ((nfs T n w i m).1 ≠ 0 → τ 2 6 = nI (nfs T n w i m).1 ∧ τ 2 2 = nI (nfs T n w i m).2)) := ⟨_, rfl⟩
  have key : ∀ s : bl_S, ((∀ d, d ≠ 2 → d ≠ 68 → s d = s0 d) ∧ (∀ j, j ≠ 2 → j ≠ 5 → j ≠ 6 → s 2 j = s0 2 j) ∧ (nfs T n w i 0).1 = 0 ∧ s 2 5 = nI (eK T n i 0) ∧ s 2 6 = 0 ∧ s 2 2 = s0 2 2 ∧ ∀ k, k < 0 → s 68 k = nI (nv T n (sK T n i k))) → EvN (bl_mi 50) 2 [(0, .ref 2), (1, .ref (rW w)), (2, .int (nI 0))] s P := by
    refine bl_dn (N := m) (P := fun k => ∀ s : bl_S, ((∀ d, d ≠ 2 → d ≠ 68 → s d = s0 d) ∧ (∀ j, j ≠ 2 → j ≠ 5 → j ≠ 6 → s 2 j = s0 2 j) ∧ (nfs T n w i k).1 = 0 ∧ s 2 5 = nI (eK T n i k) ∧ s 2 6 = 0 ∧ s 2 2 = s0 2 2 ∧ ∀ k', k' < k → s 68 k' = nI (nv T n (sK T n i k'))) → EvN (bl_mi 50) 2 [(0, .ref 2), (1, .ref (rW w)), (2, .int (nI k))] s P) ?_ ?_
    · intro s ⟨a1, a2, a3, a4, a5, a6, a7⟩
      refine ⟨s, ?_, vc_X7_readNumbers_2 _ _ _ k1 ⟨fun _ => ⟨fun z => absurd z ?_, fun _ => ⟨rfl, rfl⟩⟩, fun _ => ⟨rfl, rfl⟩⟩⟩
      · rw [eP]
        exact ⟨a1, a2, ⟨_, (eK_b hi m).2, a4⟩, fun _ => ⟨a4, a5, a6, a7⟩, fun z => absurd a3 z⟩
      · rw [k2, show (2 : Int32) = nI 2 from rfl, show (1 : Int32) = nI 1 from rfl, nI_mul, nI_add]
        exact nI_nlt (by omega) (by omega)
    · intro k hk ih s ⟨a1, a2, a3, a4, a5, a6, a7⟩
      obtain ⟨b1, b2, b3, b4⟩ := k5 k hk
      have hTs : TX 67 T n s := ⟨hT.1, hT.2.1, fun j hj => by rw [a1 67 (by omega) (by omega)]; exact hT.2.2 j hj⟩
      have hn := hT.1
      have s21 : s 2 1 = nI n := by rw [a2 1 (by omega) (by omega) (by omega)]; exact h1
      have ekb := eK_b (T := T) hi k
      have hsk := skC hTs s21 a4 ekb.2
      rw [← sK_e] at hsk
      have skb := sK_b (T := T) hi k
      obtain ⟨s1, e1⟩ : ∃ s1, s1 = bl_up s 2 5 (nI (sK T n i k)) := ⟨_, rfl⟩
      rw [← e1] at hsk
      have hT1 : TX 67 T n s1 := ⟨hT.1, hT.2.1, fun j hj => by rw [e1, bl_up_c (by omega)]; exact hTs.2.2 j hj⟩
      have hrn := rnC (s := s1) (lo := loW w k) (hi := hiW w k) hT1 (by rw [e1, bl_up_j (by omega)]; exact s21) (by rw [e1, bl_up_s]) skb.2 b3 b4
      obtain ⟨s2, e2⟩ : ∃ s2, s2 = (if nf T n (loW w k) (hiW w k) (sK T n i k) = 0 then bl_up s1 2 5 (nI (nj T n (sK T n i k))) else bl_up (bl_up (bl_up s1 2 5 (nI (nj T n (sK T n i k)))) 2 6 (nI (nf T n (loW w k) (hiW w k) (sK T n i k)))) 2 2 (nI (sK T n i k))) := ⟨_, rfl⟩
      rw [← e2] at hrn
      obtain ⟨y, ey⟩ : ∃ y, y = nI (vlF T (sK T n i k) (Nat.min (nj T n (sK T n i k) - sK T n i k) 3)) := ⟨_, rfl⟩
      rw [← ey] at hrn
      have s2c : ∀ d, d ≠ 2 → s2 d = s d := fun d hd => by
        rw [e2]
        split
        · rw [bl_up_ne hd, e1, bl_up_ne hd]
        · rw [bl_up_ne hd, bl_up_ne hd, bl_up_ne hd, e1, bl_up_ne hd]
      have s22 : ∀ j, j ≠ 2 → j ≠ 5 → j ≠ 6 → s2 2 j = s 2 j := fun j z1 z2 z3 => by
        rw [e2]
        split
        · rw [bl_up_j z2, e1, bl_up_j z2]
        · rw [bl_up_j z1, bl_up_j z3, bl_up_j z2, e1, bl_up_j z2]
      have ex2 : (2 : Int32) * nI k = nI (2 * k) := by rw [show (2 : Int32) = nI 2 from rfl, nI_mul]
      have ex3 : nI (2 * k) + 1 = nI (2 * k + 1) := nI_1 _
      have lt1 : nI k < Int32.ofNat 6 := nI_lt (b := 6) (by omega) (by omega)
      -- one number is read; then the rest
      have go : ∀ τ, P τ → bl_Wx (bl_mi 50) 2 [(0, .ref 2), (1, .ref (rW w)), (2, .int (nI (k + 1)))] [] (bl_up s2 68 k y) (fun v t => v = none ∧ t = τ) → bl_Wx (bl_mi 50) 2 [(0, .ref 2), (1, .ref (rW w)), (2, .int (nI k))] [] s (fun v t => v = none ∧ t = τ) := by
        intro τ _ hW
        refine vc_X7_readNumbers_2 _ _ _ k1 ⟨fun _ => ⟨fun _ => ⟨fun _ => ⟨s1, hsk, ?_⟩, fun z => absurd a5 z⟩, fun z => absurd ?_ z⟩, fun z => absurd lt1 z⟩
        · rw [ex2, ex3, k2, nI_clamp (show 2 * k < 2 ^ 31 by omega), nI_clamp (show 2 * k + 1 < 2 ^ 31 by omega), b1, b2, nI_clamp (show k < 2 ^ 31 by omega), nI_1]
          exact ⟨vp_in_nI (by omega) (by omega), vp_in_nI (by omega) (by omega), y, s2, hrn, vib (by omega), hW⟩
        · rw [ex2, ex3, k2]
          exact nI_lt (by omega) (by omega)
      by_cases c : nf T n (loW w k) (hiW w k) (sK T n i k) = 0
      · rw [if_pos c] at e2
        have ff : (nfs T n w i (k + 1)).1 = 0 := by
          unfold nfs
          rw [if_pos a3, if_pos c]
        have hf := nf_0 c
        have eyv : y = nI (nv T n (sK T n i k)) := by
          rw [ey]
          unfold nv
          rw [show Nat.min (nj T n (sK T n i k) - sK T n i k) 3 = nj T n (sK T n i k) - sK T n i k from Nat.min_eq_left hf.2.1]
        obtain ⟨τ, hP, hW⟩ := ih (bl_up s2 68 k y) ⟨fun d z1 z2 => by rw [bl_up_ne z2, s2c d z1]; exact a1 d z1 z2, fun j z1 z2 z3 => by rw [bl_up_c (by omega), s22 j z1 z2 z3]; exact a2 j z1 z2 z3, ff, by rw [bl_up_c (by omega), e2, bl_up_s]; rfl, by rw [bl_up_c (by omega), e2, bl_up_j (by omega), e1, bl_up_j (by omega)]; exact a5, by rw [bl_up_c (by omega), e2, bl_up_j (by omega), e1, bl_up_j (by omega)]; exact a6, fun k' hk' => by
          by_cases e : k' = k
          · rw [e, bl_up_s, eyv]
          · rw [bl_up_j e, s2c 68 (by omega)]
            exact a7 k' (by omega)⟩
        exact ⟨τ, hP, go τ hP hW⟩
      · rw [if_neg c] at e2
        have ff : nfs T n w i (k + 1) = (nf T n (loW w k) (hiW w k) (sK T n i k), sK T n i k) := by
          unfold nfs
          rw [if_pos a3, if_neg c]
        have fm := nfs_st (T := T) (n := n) (w := w) (i := i) (k := k + 1) (by rw [ff]; exact c) m (by omega)
        have fle := nf_le T n (loW w k) (hiW w k) (sK T n i k)
        have s26 : s2 2 6 = nI (nf T n (loW w k) (hiW w k) (sK T n i k)) := by rw [e2, bl_up_j (by omega), bl_up_s]
        have s222 : s2 2 2 = nI (sK T n i k) := by rw [e2, bl_up_s]
        have hPτ : P (bl_up s2 68 k y) := by
          rw [eP]
          refine ⟨fun d z1 z2 => by rw [bl_up_ne z2, s2c d z1]; exact a1 d z1 z2, fun j z1 z2 z3 => by rw [bl_up_c (by omega), s22 j z1 z2 z3]; exact a2 j z1 z2 z3, ⟨nj T n (sK T n i k), nj_le skb.2, by rw [bl_up_c (by omega), e2, bl_up_j (by omega), bl_up_j (by omega), bl_up_s]⟩, fun z => ?_, fun _ => ?_⟩
          · rw [fm, ff] at z
            exact absurd z c
          · rw [fm, ff, bl_up_c (by omega), bl_up_c (by omega)]
            exact ⟨s26, s222⟩
        have n6 : ¬ bl_up s2 68 k y 2 6 = 0 := by
          rw [bl_up_c (by omega), s26]
          exact nI_ne0 (by omega) (by omega)
        refine ⟨_, hPτ, go _ hPτ (vc_X7_readNumbers_2 _ _ _ k1 ⟨fun _ => ⟨fun _ => ⟨fun z => absurd z n6, fun _ => ⟨rfl, rfl⟩⟩, fun _ => ⟨rfl, rfl⟩⟩, fun _ => ⟨rfl, rfl⟩⟩)⟩
  obtain ⟨τ, hP, hW⟩ := key s0 ⟨fun _ _ _ => rfl, fun _ _ _ _ => rfl, rfl, h5, h6, rfl, fun k hk => by omega⟩
  rw [eP] at hP
  exact ⟨τ, hP, bl_c (Nat.le_of_ble_eq_true rfl) (vc_X7_readNumbers_0 s0 (rW w) k1 hW)⟩
