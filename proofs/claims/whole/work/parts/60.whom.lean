/-! WHOM: who reaches high has no less -/
def vH (f : Nat → Nat) (e : Nat) : Nat → Nat → Nat
  | 0, _ => 0
  | n + 1, r => (f r - e) + vH f e n (r - f r)
theorem hsN_f (q hi kd rp : Nat) : ∀ n, hsN q hi kd rp (n + 1) = hsN q hi kd (rp - hqN q hi kd rp) n
  | 0 => rfl
  | n + 1 => by
    show hsN q hi kd rp (n + 1) - hqN q hi kd (hsN q hi kd rp (n + 1)) = hsN q hi kd (rp - hqN q hi kd rp) n - hqN q hi kd (hsN q hi kd (rp - hqN q hi kd rp) n)
    rw [hsN_f q hi kd rp n]
theorem gsN_f (q hi kd ap rp : Nat) : ∀ n, gsN q hi kd ap rp (n + 1) = (hqN q hi kd rp - ap) + gsN q hi kd ap (rp - hqN q hi kd rp) n
  | 0 => by
    show 0 + (hqN q hi kd rp - ap) = (hqN q hi kd rp - ap) + 0
    omega
  | n + 1 => by
    have ih := gsN_f q hi kd ap rp n
    show gsN q hi kd ap rp (n + 1) + (hqN q hi kd (hsN q hi kd rp (n + 1)) - ap) = (hqN q hi kd rp - ap) + (gsN q hi kd ap (rp - hqN q hi kd rp) n + (hqN q hi kd (hsN q hi kd (rp - hqN q hi kd rp) n) - ap))
    rw [ih, hsN_f]
    omega
theorem gsN_v (q hi kd ap : Nat) : ∀ n rp, gsN q hi kd ap rp n = vH (hqN q hi kd) ap n rp
  | 0, _ => rfl
  | n + 1, rp => by
    rw [gsN_f, gsN_v q hi kd ap n]
    rfl
theorem mN_m {q r r' : Nat} (h : r ≤ r') : mN q r ≤ mN q r' ∧ r - mN q r ≤ r' - mN q r' ∧ mN q r' - mN q r ≤ r' - r := by
  unfold mN
  split <;> split <;> omega
theorem vH_m (q e : Nat) : ∀ n r r', r ≤ r' → vH (mN q) e n r ≤ vH (mN q) e n r' ∧ vH (mN q) e n r' ≤ vH (mN q) e n r + (r' - r)
  | 0, _, _, _ => ⟨Nat.le_refl _, Nat.zero_le _⟩
  | n + 1, r, r', h => by
    have hm := mN_m (q := q) h
    have ih := vH_m q e n (r - mN q r) (r' - mN q r') hm.2.1
    have h1 := (mN_le q r).1
    have h2 := (mN_le q r').1
    show (mN q r - e) + vH (mN q) e n (r - mN q r) ≤ (mN q r' - e) + vH (mN q) e n (r' - mN q r') ∧ (mN q r' - e) + vH (mN q) e n (r' - mN q r') ≤ (mN q r - e) + vH (mN q) e n (r - mN q r) + (r' - r)
    omega
theorem vH_s (f : Nat → Nat) (e : Nat) : ∀ n r, vH f e n r ≤ vH f e (n + 1) r
  | 0, _ => Nat.zero_le _
  | n + 1, r => by
    have := vH_s f e n (r - f r)
    show (f r - e) + vH f e n (r - f r) ≤ (f r - e) + vH f e (n + 1) (r - f r)
    omega
theorem mN_h (q r : Nat) : mN q r ≤ mN q r / 2 + mN q (r - mN q r / 2) := by
  unfold mN
  by_cases h : (r + 4) / 5 < q
  · rw [if_pos h]
    split <;> omega
  · rw [if_neg h]
    split <;> omega
theorem vH_h (q e : Nat) : ∀ n r, vH (fun r => mN q r / 2) e n r ≤ vH (mN q) e n r
  | 0, _ => Nat.le_refl _
  | n + 1, r => by
    have ih := vH_h q e n (r - mN q r / 2)
    have hx := mN_le q r
    show (mN q r / 2 - e) + vH (fun r => mN q r / 2) e n (r - mN q r / 2) ≤ (mN q r - e) + vH (mN q) e n (r - mN q r)
    by_cases c : e ≤ mN q r / 2
    · have := (vH_m q e n (r - mN q r) (r - mN q r / 2) (by omega)).2
      omega
    · cases n with
      | zero =>
        show (mN q r / 2 - e) + 0 ≤ (mN q r - e) + 0
        omega
      | succ n =>
        have hh := mN_h q r
        have hm := (mN_m (q := q) (r := r - mN q r / 2) (r' := r) (by omega)).1
        have e1 : vH (mN q) e (n + 1) (r - mN q r / 2) = (mN q (r - mN q r / 2) - e) + vH (mN q) e n (r - mN q r / 2 - mN q (r - mN q r / 2)) := rfl
        have m1 := (vH_m q e n (r - mN q r / 2 - mN q (r - mN q r / 2)) (r - mN q r) (by omega)).1
        have m2 := vH_s (mN q) e n (r - mN q r)
        omega
theorem gsN_h (q hi kd ap rp n : Nat) : gsN q hi kd ap rp n ≤ gsN q 1 kd ap rp n := by
  have e1 : ∀ kd, hqN q 1 kd = mN q := fun kd => by
    funext r
    unfold hqN
    split <;> rfl
  rw [gsN_v, gsN_v, e1]
  by_cases h : kd = 1 ∧ hi = 0
  · have e2 : hqN q hi kd = fun r => mN q r / 2 := by
      funext r
      unfold hqN
      rw [if_pos h.1, if_pos h.2]
    rw [e2]
    exact vH_h q ap n rp
  · have e2 : hqN q hi kd = mN q := by
      funext r
      unfold hqN
      split
      · rw [if_neg (by omega)]
      · rfl
    rw [e2]
    exact Nat.le_refl _
/-! the pair -/
/-- the first of the largest -/
def fW (D : Nat → Nat) : Nat → Nat × Nat
  | 0 => (0, D 0)
  | k + 1 => if (fW D k).2 < D (k + 1) then (k + 1, D (k + 1)) else fW D k
theorem fW_bd {D : Nat → Nat} {B : Nat} (h : ∀ p, D p ≤ B) : ∀ k, (fW D k).2 ≤ B ∧ (fW D k).1 ≤ k
  | 0 => ⟨h 0, Nat.le_refl _⟩
  | k + 1 => by
    have ih := fW_bd h k
    unfold fW
    split
    · exact ⟨h (k + 1), Nat.le_refl _⟩
    · omega
/-- what picker p is: the numbers of his row -/
def pN (σ : bl_S) (p k : Nat) : Nat := Int32.toNatClampNeg (σ (108 + k) p)
noncomputable def wB (nb : Nat) (σ : bl_S) (p h' t : Nat) : Nat := wm nb (wdW σ (nI (pN σ p 0)) (nI (pN σ p 1))) (wdT σ) (wdG σ (pN σ p 2) h' (pN σ p 3)) 0 6 t
theorem pN_ok {σ : bl_S} {np p : Nat} (hp : Jp np σ) (hpn : p < np) : pN σ p 0 ≤ 99 ∧ pN σ p 1 ≤ 1 ∧ pN σ p 2 ≤ 20 ∧ pN σ p 3 ≤ 9 ∧ pN σ p 4 ≤ 1 ∧ ∀ k, k < 5 → σ (108 + k) p = nI (pN σ p k) := by
  obtain ⟨r1, y, sd, q', e, h', d1, d2, d3, d4, d5, d6, f1, f2, f3, f4, f5⟩ := hp p hpn
  have e0 : pN σ p 0 = y := by show Int32.toNatClampNeg (σ 108 p) = y; rw [f1, nI_clamp (by omega)]
  have e1 : pN σ p 1 = sd := by show Int32.toNatClampNeg (σ 109 p) = sd; rw [f2, nI_clamp (by omega)]
  have e2 : pN σ p 2 = q' := by show Int32.toNatClampNeg (σ 110 p) = q'; rw [f3, nI_clamp (by omega)]
  have e3 : pN σ p 3 = e := by show Int32.toNatClampNeg (σ 111 p) = e; rw [f4, nI_clamp (by omega)]
  have e4 : pN σ p 4 = h' := by show Int32.toNatClampNeg (σ 112 p) = h'; rw [f5, nI_clamp (by omega)]
  refine ⟨by omega, by omega, by omega, by omega, by omega, fun k hk => ?_⟩
  rcases (show k = 0 ∨ k = 1 ∨ k = 2 ∨ k = 3 ∨ k = 4 by omega) with rfl | rfl | rfl | rfl | rfl
  · rw [e0]; exact f1
  · rw [e1]; exact f2
  · rw [e2]; exact f3
  · rw [e3]; exact f4
  · rw [e4]; exact f5
theorem wB_WD {σ : bl_S} {nb np p : Nat} (hn : nb ≤ 6) (hb : Jb nb σ) (hp : Jp np σ) (hpn : p < np) {h' : Nat} (h1 : h' ≤ 1) : WD nb σ (nI (pN σ p 0)) (nI (pN σ p 1)) (nI (pN σ p 2)) (nI h') (nI (pN σ p 3)) (wdW σ (nI (pN σ p 0)) (nI (pN σ p 1))) (wdT σ) (wdG σ (pN σ p 2) h' (pN σ p 3)) := by
  obtain ⟨a1, a2, a3, a4, a5, -⟩ := pN_ok hp hpn
  exact WD_mk hn hb a1 a3 a4 h1
theorem wB_le {σ : bl_S} {nb np p : Nat} (hn : nb ≤ 6) (hb : Jb nb σ) (hp : Jp np σ) (hpn : p < np) {h' : Nat} (h1 : h' ≤ 1) (t : Nat) : wB nb σ p h' t ≤ wB nb σ p 1 t :=
  wm_g _ (wB_WD hn hb hp hpn h1).G (wB_WD hn hb hp hpn (Nat.le_refl _)).G (fun b k _ => gsN_h _ _ _ _ _ _) 0 6 t
/-- the class: how much more a stick brings -/
theorem msC {σ s : bl_S} {nb np p t : Nat} (hl : Jl nb np σ) (hb : Jb nb σ) (hp : Jp np σ) (hpn : p < np) (ht : t ≤ 24) (hz1 : ∀ a, a ≤ 6 → σ 71 (a * 64) = 0) (hz2 : ∀ t, t ≤ 24 → σ 72 t = 0) (f : CW σ s) : ∃ τ, CW σ τ ∧ bl_Con (bl_mi 89) [.ref 0, .ref (20 + p), .int (nI t)] s (some (.int (nI (wB nb σ p 1 t - wB nb σ p (pN σ p 4) t)))) τ := by
  have hn := hl.1
  have hn2 := hl.2.1
  have p4 : p < 4 := by omega
  obtain ⟨a1, a2, a3, a4, a5, a6⟩ := pN_ok hp hpn
  have ri := (hp p hpn).1
  have sr : ∀ s : bl_S, CW σ s → ∀ k, k < 5 → s (20 + p) k = nI (pN σ p k) := fun s f k hk => by
    rw [f.1 (20 + p) (sc20 p4) (by omega) (by omega), ri k (by omega)]
    exact a6 k hk
  -- one more look, of a picker's cell r
  have look : ∀ (s : bl_S) (r h' : Nat), CW σ s → bl_kd r = 5 → (r = 8 ∨ r = 20 + p) → h' ≤ 1 → s r 0 = nI (pN σ p 0) → s r 1 = nI (pN σ p 1) → s r 2 = nI (pN σ p 2) → s r 3 = nI (pN σ p 3) → s r 4 = nI h' → ∃ τ, (CW σ τ ∧ CF s τ) ∧ bl_Con (bl_mi 11) [.ref 3, .ref 10, .ref r, .int (nI t)] s (some (.int (nI (wB nb σ p h' t)))) τ := by
    intro s r h' f hr hr2 h1 e0 e1 e2 e3 e4
    have hD := wB_WD hn hb hp hpn h1
    have hDs : WD nb s (s r 0) (s r 1) (s r 2) (s r 4) (s r 3) (wdW σ (nI (pN σ p 0)) (nI (pN σ p 1))) (wdT σ) (wdG σ (pN σ p 2) h' (pN σ p 3)) := by
      rw [e0, e1, e2, e3, e4]
      unfold WD
      rw [f.1 102 (by decide) (by omega) (by omega), f.1 103 (by decide) (by omega) (by omega), f.1 104 (by decide) (by omega) (by omega), f.1 106 (by decide) (by omega) (by omega)]
      exact hD
    obtain ⟨τ, ⟨c1, c2, c3⟩, hC⟩ := fmC (σ := s) (t := t) hn ht hr (by omega) (by rw [f.1 10 (by decide) (by omega) (by omega)]; exact hl.2.2.1) (fun b k z1 z2 => by rw [f.1 (14 + b) (sc14 (by omega)) (by omega) (by omega), f.1 (102 + k) (sc102 (by omega) (by omega)) (by omega) (by omega)]; exact (hb b z1).1 k z2) hDs f.2.1 f.2.2
    refine ⟨τ, ⟨⟨fun d hd z1 z2 => by rw [c1.cw.1 d hd z1 z2]; exact f.1 d hd z1 z2, c1.2.1, c1.2.2⟩, c1⟩, hC⟩
  by_cases q : pN σ p 4 = 0
  · have hcp := c_X5_copyFrom s (a := 8) (b := 20 + p) rfl (kdp p p4) (by rw [sr s f 4 (by omega), q]; exact Or.inl rfl)
    obtain ⟨s1, e1⟩ : ∃ s1, s1 = bl_up (bl_cp 8 s 8 (20 + p)) 8 4 1 := ⟨_, rfl⟩
    have s1c : ∀ d, d ≠ 8 → s1 d = s d := fun d z => by rw [e1, bl_up_ne z, bl_cp_c z]
    have f1 : CW σ s1 := ⟨fun d hd z1 z2 => by rw [s1c d (fun e => by rw [e] at hd; exact absurd hd (by decide))]; exact f.1 d hd z1 z2, fun a z => by rw [s1c 71 (by omega)]; exact f.2.1 a z, fun t z => by rw [s1c 72 (by omega)]; exact f.2.2 t z⟩
    have s18 : ∀ k, k < 4 → s1 8 k = nI (pN σ p k) := fun k hk => by
      rw [e1, bl_up_j (by omega), bl_cp_s (by omega)]
      exact sr s f k (by omega)
    obtain ⟨τ1, ⟨t1, t1f⟩, hC1⟩ := look s1 8 1 f1 rfl (Or.inl rfl) (Nat.le_refl _) (s18 0 (by omega)) (s18 1 (by omega)) (s18 2 (by omega)) (s18 3 (by omega)) (by rw [e1, bl_up_s]; rfl)
    obtain ⟨τ2, ⟨t2, t2f⟩, hC2⟩ := look τ1 (20 + p) (pN σ p 4) t1 (kdp p p4) (Or.inr rfl) a5 (sr τ1 t1 0 (by omega)) (sr τ1 t1 1 (by omega)) (sr τ1 t1 2 (by omega)) (sr τ1 t1 3 (by omega)) (sr τ1 t1 4 (by omega))
    refine ⟨τ2, t2, bl_c (Nat.le_of_ble_eq_true rfl) (vc_X10_moreByStick_0 s (20 + p) _ (kdp p p4) ⟨fun _ => ⟨_, hcp, ?_⟩, fun z => absurd ?_ z⟩)⟩
    · rw [← e1]
      refine ⟨_, _, hC1, _, _, hC2, ?_, rfl⟩
      rw [pk_sub (wB_le hn hb hp hpn a5 t)]
    · rw [sr s f 4 (by omega), q]
      rfl
  · have q1 : pN σ p 4 = 1 := by omega
    refine ⟨s, f, bl_c (Nat.le_of_ble_eq_true rfl) (vc_X10_moreByStick_0 s (20 + p) _ (kdp p p4) ⟨fun z => ?_, fun _ => ⟨?_, rfl⟩⟩)⟩
    · rw [sr s f 4 (by omega), q1] at z
      exact absurd z (by decide)
    · rw [q1, Nat.sub_self]
      rfl
/-- the reference's best of a picker -/
theorem boM {s : bl_S} {nb p t : Nat} {W : Nat → Nat → Nat} {tm : Nat → Nat} {g : Nat → Nat → Nat} (hR : RH nb p s W tm g) (ht : t ≤ 24) : ∃ τ, Fr s τ ∧ bl_Con (bl_mi 159) [.ref 1, .int (nI p), .int (nI t)] s (some (.int (nI (wm nb W tm g 0 6 t)))) τ := by
  obtain ⟨τ, ⟨f1, f2, f3⟩, hC⟩ := fmM hR ht
  refine ⟨τ, f1, bl_c (Nat.le_of_ble_eq_true rfl) (vc_X11_bestOf_0 s _ _ ⟨_, hC, _, _, stM τ 0 6 t, vp_in_nI (by omega) (by omega), ?_, rfl⟩)⟩
  rw [nI_clamp (show (0 * 7 + 6) * 25 + t < 2 ^ 31 by omega), f3 0 6 t (Nat.zero_le _) (Nat.two_pow_pos nb) (Or.inr rfl) (Nat.le_refl _)]
theorem pr_whom {σ : bl_S} (h : Inv σ) (x1 x2 : Int32) : Pr 90 160 [.int x1, .int x2] σ := by
  obtain ⟨nb, np, nt, a, b, c, hl, hb, hp, hz, ht, hs', hm'⟩ := id h
  have hn := hl.1
  have hn2 := hl.2.1
  by_cases g2 : wi x1 1 24 = 0
  · exact ⟨-1000000002, σ, σ, bl_c (Nat.le_of_ble_eq_true rfl) (vc_X10_whom_0 σ _ _ ⟨_, _, c_X10_within σ x1 1 24, fun _ => ⟨rfl, rfl⟩, fun q => absurd g2 q⟩), bl_c (Nat.le_of_ble_eq_true rfl) (vc_X11_whom_0 σ _ _ ⟨_, _, c_X11_in σ x1 1 24 (by decide) (by decide), fun _ => ⟨rfl, rfl⟩, fun q => absurd g2 q⟩), h⟩
  by_cases g3 : wi x2 0 1 = 0
  · exact ⟨-1000000002, σ, σ, bl_c (Nat.le_of_ble_eq_true rfl) (vc_X10_whom_0 σ _ _ ⟨_, _, c_X10_within σ x1 1 24, fun q => absurd q g2, fun _ => ⟨_, _, c_X10_within σ x2 0 1, fun _ => ⟨rfl, rfl⟩, fun q => absurd g3 q⟩⟩), bl_c (Nat.le_of_ble_eq_true rfl) (vc_X11_whom_0 σ _ _ ⟨_, _, c_X11_in σ x1 1 24 (by decide) (by decide), fun q => absurd q g2, fun _ => ⟨_, _, c_X11_in σ x2 0 1 (by decide) (by decide), fun _ => ⟨rfl, rfl⟩, fun q => absurd g3 q⟩⟩), h⟩
  obtain ⟨t, t1, t24, rfl⟩ := wi_c (a := 1) (b := 24) (by omega) (by omega) g2
  obtain ⟨-, -, -, -, -, -, -, -, hz1, hz2⟩ := hz 0 (by omega)
  by_cases np0 : np = 0
  · have e4 : σ 10 4 = 0 := by rw [hl.2.2.2.2.1, np0]; rfl
    have e11 : σ 1 11 = 0 := by rw [hl.2.2.2.2.2.1, np0]; rfl
    refine ⟨-1, σ, σ, bl_c (Nat.le_of_ble_eq_true rfl) (vc_X10_whom_0 σ _ _ ⟨_, _, c_X10_within σ _ 1 24, fun q => absurd q g2, fun _ => ⟨_, _, c_X10_within σ x2 0 1, fun q => absurd q g3, fun _ => ⟨fun _ => ⟨rfl, rfl⟩, fun q => absurd e4 q⟩⟩⟩), bl_c (Nat.le_of_ble_eq_true rfl) (vc_X11_whom_0 σ _ _ ⟨_, _, c_X11_in σ _ 1 24 (by decide) (by decide), fun q => absurd q g2, fun _ => ⟨_, _, c_X11_in σ x2 0 1 (by decide) (by decide), fun q => absurd q g3, fun _ => ?_⟩⟩), h⟩
    refine vc_X11_whom_33 _ _ _ _ _ _ ⟨fun q => ?_, fun _ v e => ⟨?_, rfl⟩⟩
    · rw [e11] at q
      exact absurd q (by decide)
    · rw [e, ite_self]
  obtain ⟨D, eD⟩ : ∃ D : Nat → Nat, D = fun p => if p < np then wB nb σ p 1 t - wB nb σ p (pN σ p 4) t else 0 := ⟨_, rfl⟩
  have Dp : ∀ p, p < np → D p = wB nb σ p 1 t - wB nb σ p (pN σ p 4) t := fun p hpn => by rw [eD]; exact if_pos hpn
  have Dbd : ∀ p, D p ≤ 480 := fun p => by
    by_cases q : p < np
    · have := wm_bd (wdW σ (nI (pN σ p 0)) (nI (pN σ p 1))) (wB_WD hn hb hp q (Nat.le_refl 1)).G 0 6 t
      have e : wB nb σ p 1 t = wm nb (wdW σ (nI (pN σ p 0)) (nI (pN σ p 1))) (wdT σ) (wdG σ (pN σ p 2) 1 (pN σ p 3)) 0 6 t := rfl
      rw [Dp p q]
      omega
    · rw [eD]
      show (if p < np then _ else 0) ≤ 480
      rw [if_neg q]
      omega
  obtain ⟨R, eR⟩ : ∃ R : Int32, R = if x2 = 0 then nI (fW D (np - 1)).1 else nI (fW D (np - 1)).2 := ⟨_, rfl⟩
  -- the class
  have cls : ∃ τ, CW σ τ ∧ bl_Con (bl_mi 90) [.ref 0, .int (nI t), .int x2] σ (some (.int R)) τ := by
    have f0 : CW σ σ := ⟨fun _ _ _ _ => rfl, hz1, hz2⟩
    have key : ∀ s, CW σ s → ∃ τ, CW σ τ ∧ bl_Wx (bl_mi 90) 55 [(0, .ref 0), (1, .int (nI t)), (2, .int x2), (3, .int (nI (fW D 0).1)), (4, .int (nI (fW D 0).2)), (5, .int (nI (0 + 1)))] [] s (fun v u => v = some (.int R) ∧ u = τ) := by
      refine bl_dn (N := np - 1) (P := fun k => ∀ s, CW σ s → ∃ τ, CW σ τ ∧ bl_Wx (bl_mi 90) 55 [(0, .ref 0), (1, .int (nI t)), (2, .int x2), (3, .int (nI (fW D k).1)), (4, .int (nI (fW D k).2)), (5, .int (nI (k + 1)))] [] s (fun v u => v = some (.int R) ∧ u = τ)) ?_ ?_
      · intro s f
        refine ⟨s, f, vc_X10_whom_55 _ _ _ _ _ _ ⟨fun q => absurd q ?_, fun _ v e => ⟨?_, rfl⟩⟩⟩
        · rw [f.1 10 (by decide) (by omega) (by omega), hl.2.2.2.2.1]
          exact nI_nlt (by omega) (by omega)
        · rw [e, eR]
      · intro k hk ih s f
        have k4 : k + 1 < 4 := by omega
        obtain ⟨τ1, t1', hC1⟩ := msC (p := k + 1) hl hb hp (by omega) t24 hz1 hz2 f
        rw [← Dp (k + 1) (by omega)] at hC1
        obtain ⟨τ, tC, hW⟩ := ih τ1 t1'
        refine ⟨τ, tC, vc_X10_whom_55 _ _ _ _ _ _ ⟨fun _ => ⟨vip k4, ?_⟩, fun q => absurd ?_ q⟩⟩
        · rw [ntp k4]
          refine ⟨_, _, hC1, fun v22 e22 v23 e23 => ?_⟩
          rw [nI_1]
          have bd := Dbd (k + 1)
          have bd2 := (fW_bd Dbd k).1
          by_cases q : (fW D k).2 < D (k + 1)
          · have eF : fW D (k + 1) = (k + 1, D (k + 1)) := if_pos q
            rw [eF] at hW
            rw [if_pos (nI_lt q (by omega))] at e22 e23
            rw [e22, e23]
            exact hW
          · have eF : fW D (k + 1) = fW D k := if_neg q
            rw [eF] at hW
            rw [if_neg (nI_nlt (by omega) (by omega))] at e22 e23
            rw [e22, e23]
            exact hW
        · rw [f.1 10 (by decide) (by omega) (by omega), hl.2.2.2.2.1]
          exact nI_lt (by omega) (by omega)
    obtain ⟨τ1, t1', hC1⟩ := msC (p := 0) hl hb hp (by omega) t24 hz1 hz2 f0
    rw [← Dp 0 (by omega)] at hC1
    obtain ⟨τ, tC, hW⟩ := key τ1 t1'
    refine ⟨τ, tC, bl_c (Nat.le_of_ble_eq_true rfl) (vc_X10_whom_0 σ _ _ ⟨_, _, c_X10_within σ _ 1 24, fun q => absurd q g2, fun _ => ⟨_, _, c_X10_within σ x2 0 1, fun q => absurd q g3, fun _ => ⟨fun q => absurd q ?_, fun _ => ⟨_, _, hC1, hW⟩⟩⟩⟩)⟩
    rw [hl.2.2.2.2.1]
    exact nI_ne0 (by omega) (by omega)
  obtain ⟨τ, tC, hClass⟩ := cls
  have hIτ := h.cw tC
  -- the reference
  have rst : ∀ s, Fr τ s → ∀ d, bl_scr d = false → d ≠ 71 → d ≠ 72 → s d = σ d := fun s f d z1 z2 z3 => by rw [f d z1]; exact tC.1 d z1 z2 z3
  have rh : ∀ s p h', Fr τ s → p < np → h' ≤ 1 → ∀ s', (∀ d, d ≠ 112 → s' d = s d) → s' 112 p = nI h' → RH nb p s' (wdW σ (nI (pN σ p 0)) (nI (pN σ p 1))) (wdT σ) (wdG σ (pN σ p 2) h' (pN σ p 3)) := by
    intro s p h' f hpn h1 s' e' e112
    obtain ⟨a1, a2, a3, a4, a5, a6⟩ := pN_ok hp hpn
    have ec : ∀ d, bl_scr d = false → d ≠ 71 → d ≠ 72 → d ≠ 112 → s' d = σ d := fun d z1 z2 z3 z4 => by rw [e' d z4]; exact rst s f d z1 z2 z3
    have hD := wB_WD hn hb hp hpn h1
    refine ⟨hn, by omega, by rw [ec 1 (by decide) (by omega) (by omega) (by omega)]; exact hl.2.2.2.1, ?_, ⟨pN σ p 0, a1, by rw [ec 108 (by decide) (by omega) (by omega) (by omega)]; exact a6 0 (by omega)⟩, fun b hbn => ?_⟩
    · have b0 : s' 108 p = nI (pN σ p 0) := by rw [ec 108 (by decide) (by omega) (by omega) (by omega)]; exact a6 0 (by omega)
      have b1 : s' 109 p = nI (pN σ p 1) := by rw [ec 109 (by decide) (by omega) (by omega) (by omega)]; exact a6 1 (by omega)
      have b2 : s' 110 p = nI (pN σ p 2) := by rw [ec 110 (by decide) (by omega) (by omega) (by omega)]; exact a6 2 (by omega)
      have b3 : s' 111 p = nI (pN σ p 3) := by rw [ec 111 (by decide) (by omega) (by omega) (by omega)]; exact a6 3 (by omega)
      rw [b0, b1, b2, b3, e112]
      unfold WD
      rw [ec 102 (by decide) (by omega) (by omega) (by omega), ec 103 (by decide) (by omega) (by omega) (by omega), ec 104 (by decide) (by omega) (by omega) (by omega), ec 106 (by decide) (by omega) (by omega) (by omega)]
      exact hD
    · obtain ⟨-, y2, s2, kd2, rd2, rp2, sf2, k1, -, -, -, k5, -⟩ := hb b hbn
      exact ⟨y2, k1, by rw [ec 102 (by decide) (by omega) (by omega) (by omega)]; exact k5⟩
  -- one picker
  have one : ∀ s p, Fr τ s → p < np → ∃ τ2 τ3 : bl_S, bl_Con (bl_mi 159) [.ref 1, .int (nI p), .int (nI t)] s (some (.int (nI (wB nb σ p (pN σ p 4) t)))) τ2 ∧ bl_Con (bl_mi 159) [.ref 1, .int (nI p), .int (nI t)] (bl_up τ2 112 p (vp_nar .boolean 1)) (some (.int (nI (wB nb σ p 1 t)))) τ3 ∧ Fr τ (bl_up τ3 112 p (vp_nar .boolean (τ2 112 p))) := by
    intro s p f hpn
    obtain ⟨a1, a2, a3, a4, a5, a6⟩ := pN_ok hp hpn
    have e112 : s 112 p = nI (pN σ p 4) := by rw [rst s f 112 (by decide) (by omega) (by omega)]; exact a6 4 (by omega)
    obtain ⟨τ2, f2, hC2⟩ := boM (t := t) (rh s p _ f hpn a5 s (fun _ _ => rfl) e112) t24
    have ev : vp_nar .boolean 1 = 1 := vnar01 (Or.inr rfl)
    rw [ev]
    have f2' : Fr τ τ2 := f.tr f2
    obtain ⟨τ3, f3, hC3⟩ := boM (t := t) (rh τ2 p 1 f2' hpn (Nat.le_refl _) (bl_up τ2 112 p 1) (fun d z => bl_up_ne z) (by rw [bl_up_s]; rfl)) t24
    refine ⟨τ2, τ3, hC2, hC3, fun d hd => ?_⟩
    have e2 : τ2 112 p = nI (pN σ p 4) := by rw [f2 112 (by decide)]; exact e112
    have ev2 : vp_nar .boolean (τ2 112 p) = τ2 112 p := vnar01 (by
      rw [e2]
      rcases (show pN σ p 4 = 0 ∨ pN σ p 4 = 1 by omega) with w | w
      · rw [w]; exact Or.inl rfl
      · rw [w]; exact Or.inr rfl)
    rw [ev2]
    by_cases e : d = 112
    · subst e
      funext j
      by_cases ej : j = p
      · rw [ej, bl_up_s, f2' 112 (by decide)]
      · rw [bl_up_j ej, f3 112 (by decide), bl_up_j ej, f2' 112 (by decide)]
    · rw [bl_up_ne e, f3 d hd, bl_up_ne e]
      exact f2' d hd
  have sub : ∀ p, p < np → nI (wB nb σ p 1 t) - nI (wB nb σ p (pN σ p 4) t) = nI (D p) := fun p hpn => by
    rw [Dp p hpn, pk_sub (wB_le hn hb hp hpn (pN_ok hp hpn).2.2.2.2.1 t)]
  have key : ∀ s, Fr τ s → ∃ υ, Fr τ υ ∧ bl_Wx (bl_mi 160) 33 [(0, .ref 1), (1, .int (nI t)), (2, .int x2), (3, .int (nI (fW D 0).1)), (4, .int (nI (fW D 0).2)), (5, .int (nI (0 + 1)))] [] s (fun v u => v = some (.int R) ∧ u = υ) := by
    refine bl_dn (N := np - 1) (P := fun k => ∀ s, Fr τ s → ∃ υ, Fr τ υ ∧ bl_Wx (bl_mi 160) 33 [(0, .ref 1), (1, .int (nI t)), (2, .int x2), (3, .int (nI (fW D k).1)), (4, .int (nI (fW D k).2)), (5, .int (nI (k + 1)))] [] s (fun v u => v = some (.int R) ∧ u = υ)) ?_ ?_
    · intro s f
      refine ⟨s, f, vc_X11_whom_33 _ _ _ _ _ _ ⟨fun q => absurd q ?_, fun _ v e => ⟨?_, rfl⟩⟩⟩
      · rw [rst s f 1 (by decide) (by omega) (by omega), hl.2.2.2.2.2.1]
        exact nI_nlt (by omega) (by omega)
      · rw [e, eR]
    · intro k hk ih s f
      have k4 : k + 1 < 4 := by omega
      obtain ⟨τ2, τ3, hC2, hC3, hF3⟩ := one s (k + 1) f (by omega)
      obtain ⟨υ, fU, hW⟩ := ih _ hF3
      refine ⟨υ, fU, vc_X11_whom_33 _ _ _ _ _ _ ⟨fun _ => ⟨_, _, hC2, vip k4, ?_⟩, fun q => absurd ?_ q⟩⟩
      · rw [ntp k4]
        refine ⟨_, _, hC3, fun v20 e20 v23 e23 v26 e26 => ?_⟩
        rw [e20, nI_1]
        rw [sub (k + 1) (by omega)] at e23 e26
        have bd := Dbd (k + 1)
        have bd2 := (fW_bd Dbd k).1
        by_cases q : (fW D k).2 < D (k + 1)
        · have eF : fW D (k + 1) = (k + 1, D (k + 1)) := if_pos q
          rw [eF] at hW
          rw [if_pos (nI_lt q (by omega))] at e23 e26
          rw [e23, e26]
          exact hW
        · have eF : fW D (k + 1) = fW D k := if_neg q
          rw [eF] at hW
          rw [if_neg (nI_nlt (by omega) (by omega))] at e23 e26
          rw [e23, e26]
          exact hW
      · rw [rst s f 1 (by decide) (by omega) (by omega), hl.2.2.2.2.2.1]
        exact nI_lt (by omega) (by omega)
  obtain ⟨τ2, τ3, hC2, hC3, hF3⟩ := one τ 0 Fr.rf (by omega)
  obtain ⟨υ, fU, hW⟩ := key _ hF3
  refine ⟨R, τ, υ, hClass, bl_c (Nat.le_of_ble_eq_true rfl) (vc_X11_whom_0 τ _ _ ⟨_, _, c_X11_in τ _ 1 24 (by decide) (by decide), fun q => absurd q g2, fun _ => ⟨_, _, c_X11_in τ x2 0 1 (by decide) (by decide), fun q => absurd q g3, fun _ => ?_⟩⟩), hIτ.fr fU⟩
  refine vc_X11_whom_33 _ _ _ _ _ _ ⟨fun _ => ⟨_, _, hC2, vip (p := 0) (by omega), ?_⟩, fun q => absurd ?_ q⟩
  · rw [show Int32.toNatClampNeg 0 = 0 from rfl]
    refine ⟨_, _, hC3, fun v20 e20 v23 e23 v26 e26 => ?_⟩
    rw [sub 0 (by omega)] at e23 e26
    have bd := Dbd 0
    rw [if_pos (neg1_lt (by omega))] at e23 e26
    rw [e20, e23, e26]
    exact hW
  · rw [rst τ Fr.rf 1 (by decide) (by omega) (by omega), hl.2.2.2.2.2.1]
    exact nI_lt (a := 0) (by omega) (by omega)
