/-! ACTS: stick, pour, go, pick -/
def Iv (nb np nt a b c : Nat) (σ : bl_S) : Prop := Jl nb np σ ∧ Jb nb σ ∧ Jp np σ ∧ Jz σ ∧ Jt nt σ ∧ Js nb np a b c σ ∧ Jm nb np σ
theorem Iv.inv {nb np nt a b c : Nat} {σ : bl_S} (h : Iv nb np nt a b c σ) : Inv σ := ⟨nb, np, nt, a, b, c, h⟩
theorem Iv.pk {nb np nt a b c p k : Nat} {σ : bl_S} {v : Int32} (h : Iv nb np nt a b c σ) (hpn : p < np) (hk : k = 0 ∨ k = 1 ∨ k = 4 ∨ k = 5 ∨ k = 6 ∨ k = 7) (hrg : Rg k v) : Iv nb np nt a b c (bl_up (bl_up σ (20 + p) k v) (108 + k) p v) := Inv.pk h.1 h.2.1 h.2.2.1 h.2.2.2.1 h.2.2.2.2.1 h.2.2.2.2.2.1 h.2.2.2.2.2.2 hpn hk hrg
/-- a picker and a bush move, on both sides alike -/
theorem Iv.act {nb np nt a b c p q : Nat} {σ τ : bl_S} (h : Iv nb np nt a b c σ) (hpn : p < np) (hqn : q < nb)
    (f : ∀ d, d ≠ 20 + p → d ≠ 14 + q → (d < 102 ∨ 115 < d) → τ d = σ d)
    (fb : ∀ k j, k < 6 → j ≠ q → τ (102 + k) j = σ (102 + k) j) (fp : ∀ k j, k < 8 → j ≠ p → τ (108 + k) j = σ (108 + k) j)
    (rb : ∀ k, k < 6 → τ (14 + q) k = τ (102 + k) q) (rp : ∀ k, k < 8 → τ (20 + p) k = τ (108 + k) p)
    (sb : ∀ k, k < 3 → τ (14 + q) k = σ (14 + q) k) (sp : ∀ k, k = 2 ∨ k = 3 → τ (20 + p) k = σ (20 + p) k)
    (gb : ∃ y s kd rd rp sf : Nat, y ≤ 99 ∧ s ≤ 1 ∧ kd ≤ 3 ∧ rd + rp + sf ≤ 900 ∧ τ 102 q = nI y ∧ τ 103 q = nI s ∧ τ 104 q = nI kd ∧ τ 105 q = nI rd ∧ τ 106 q = nI rp ∧ τ 107 q = nI sf)
    (gp : ∃ y s w e h : Nat, y ≤ 99 ∧ s ≤ 1 ∧ 1 ≤ w ∧ w ≤ 20 ∧ e ≤ 9 ∧ h ≤ 1 ∧ τ 108 p = nI y ∧ τ 109 p = nI s ∧ τ 110 p = nI w ∧ τ 111 p = nI e ∧ τ 112 p = nI h) : Iv nb np nt a b c τ := by
  obtain ⟨hl, hb, hp, hz, ht, hs, hm⟩ := h
  have hn := hl.1
  have hn2 := hl.2.1
  refine ⟨hl.fr (f _ (by omega) (by omega) (by omega)) (f _ (by omega) (by omega) (by omega)) (fun k _ => by rw [f 1 (by omega) (by omega) (by omega)]), hb.set (i := q) (fun b _ e => f _ (by omega) (by omega) (by omega)) (fun k b hk e => fb k b hk e) rb gb, hp.set (i := p) (fun b _ e => f _ (by omega) (by omega) (by omega)) (fun k b hk e => fp k b hk e) rp gp, ?_, ht.fr (f _ (by omega) (by omega) (by omega)) (by rw [f 2 (by omega) (by omega) (by omega)]) (f _ (by omega) (by omega) (by omega)) (f _ (by omega) (by omega) (by omega)) (fun k _ => by rw [f 1 (by omega) (by omega) (by omega)]), hs.fr (fun d h => f d (by omega) (by omega) (by omega)) (fun k _ => by rw [f 1 (by omega) (by omega) (by omega)]), hm.fr hn hn2 (fun d h => f d (by omega) (by omega) (by omega)) (fun b k hb2 hk => ?_) (fun p' k' hp' hk' => ?_)⟩
  · intro p' hp'
    rw [f (34 + p') (by omega) (by omega) (by omega), f (48 + p') (by omega) (by omega) (by omega), f (62 + p') (by omega) (by omega) (by omega), f 71 (by omega) (by omega) (by omega), f 72 (by omega) (by omega) (by omega)]
    refine ⟨?_, (hz p' hp').2⟩
    by_cases e : p' = p
    · subst e
      obtain ⟨-, -, -, -, y, -, -, -, -, -, b6, -, -, -, -, e5⟩ := gp
      rw [rp 4 (by omega), e5]
      rcases (show y = 0 ∨ y = 1 by omega) with rfl | rfl
      · exact Or.inl rfl
      · exact Or.inr rfl
    · rw [f (20 + p') (by omega) (by omega) (by omega)]
      exact (hz p' hp').1
  · by_cases e : b = q
    · subst e
      exact sb k hk
    · rw [f (14 + b) (by omega) (by omega) (by omega)]
  · by_cases e : p' = p
    · subst e
      exact sp k' hk'
    · rw [f (20 + p') (by omega) (by omega) (by omega)]
theorem vnar01 {x : Int32} (h : x = 0 ∨ x = 1) : vp_nar .boolean x = x := by rcases h with rfl | rfl <;> rfl
theorem z01 {x : Int32} (h : x = 0 ∨ x = 1) : ∃ y : Nat, y ≤ 1 ∧ x = nI y := by
  rcases h with rfl | rfl
  · exact ⟨0, by omega, rfl⟩
  · exact ⟨1, by omega, rfl⟩
theorem pr_stick {σ : bl_S} (h : Inv σ) (x y : Int32) (hy : y = 0 ∨ y = 1) : Pr 77 133 [.int x, .int y] σ := by
  obtain ⟨nb, np, nt, a, b, c, hl, hb, hp, hz, ht, hs, hm⟩ := id h
  have hn2 := hl.2.1
  by_cases g : wi x 0 (nI np - 1) = 0
  · exact ⟨-1000000001, σ, σ, bl_c (Nat.le_of_ble_eq_true rfl) (vc_X10_stick_0 σ x y ⟨_, _, g71 hl x, fun _ => ⟨rfl, rfl⟩, fun q => absurd g q⟩), bl_c (Nat.le_of_ble_eq_true rfl) (vc_X11_stick_0 σ x y ⟨_, _, g104 hl x, fun _ => ⟨rfl, rfl⟩, fun q => absurd g q⟩), h⟩
  obtain ⟨i, hi, rfl⟩ := wi_n (by omega) g
  have i4 : i < 4 := by omega
  refine ⟨(if σ (20 + i) 4 = 0 then 0 else 1), bl_up σ (20 + i) 4 y, bl_up (bl_up σ (20 + i) 4 y) 112 i y, bl_c (Nat.le_of_ble_eq_true rfl) (vc_X10_stick_0 σ _ _ ⟨_, _, g71 hl _, fun q => absurd q g, fun _ => ⟨vip i4, ?_⟩⟩), bl_c (Nat.le_of_ble_eq_true rfl) (vc_X11_stick_0 _ _ _ ⟨_, _, g104 (hl.fr (by rw [bl_up_ne (by omega)]) (by rw [bl_up_ne (by omega)]) (fun k _ => by rw [bl_up_ne (by omega)])) _, fun q => absurd q g, fun _ => ⟨vip i4, fun v e => ⟨?_, ?_⟩⟩⟩), (Iv.pk ⟨hl, hb, hp, hz, ht, hs, hm⟩ hi (k := 4) (by omega) ⟨fun z => absurd z (by decide), fun z => absurd z (by decide), fun _ => z01 hy⟩).inv⟩
  · rw [ntp i4]
    exact ⟨kdp i i4, fun v e => ⟨hy, by rw [e], rfl⟩⟩
  · rw [e, ntp i4, bl_up_c (by omega), ← (hp i hi).1 4 (by omega)]
  · rw [ntp i4, vnar01 hy]
theorem pr_pour {σ : bl_S} (h : Inv σ) (x : Int32) : Pr 78 134 [.int x] σ := by
  obtain ⟨nb, np, nt, a, b, c, hl, hb, hp, hz, ht, hs, hm⟩ := id h
  have hn2 := hl.2.1
  by_cases g : wi x 0 (nI np - 1) = 0
  · exact ⟨-1000000001, σ, σ, bl_c (Nat.le_of_ble_eq_true rfl) (vc_X10_pour_0 σ x ⟨_, _, g71 hl x, fun _ => ⟨rfl, rfl⟩, fun q => absurd g q⟩), bl_c (Nat.le_of_ble_eq_true rfl) (vc_X11_pour_0 σ x ⟨_, _, g104 hl x, fun _ => ⟨rfl, rfl⟩, fun q => absurd g q⟩), h⟩
  obtain ⟨i, hi, rfl⟩ := wi_n (by omega) g
  have i4 : i < 4 := by omega
  refine ⟨σ (20 + i) 5, bl_up σ (20 + i) 5 0, bl_up (bl_up σ (20 + i) 5 0) 113 i 0, bl_c (Nat.le_of_ble_eq_true rfl) (vc_X10_pour_0 σ _ ⟨_, _, g71 hl _, fun q => absurd q g, fun _ => ⟨vip i4, ?_⟩⟩), bl_c (Nat.le_of_ble_eq_true rfl) (vc_X11_pour_0 _ _ ⟨_, _, g104 (hl.fr (by rw [bl_up_ne (by omega)]) (by rw [bl_up_ne (by omega)]) (fun k _ => by rw [bl_up_ne (by omega)])) _, fun q => absurd q g, fun _ => ⟨vip i4, ?_⟩⟩), (Iv.pk ⟨hl, hb, hp, hz, ht, hs, hm⟩ hi (k := 5) (by omega) ⟨fun z => absurd z (by decide), fun z => absurd z (by decide), fun z => absurd z (by decide)⟩).inv⟩
  · rw [ntp i4]
    exact ⟨kdp i i4, rfl, rfl⟩
  · rw [ntp i4, bl_up_c (by omega), (hp i hi).1 5 (by omega)]
    exact ⟨rfl, rfl⟩
/-- a walk -/
def wkS (σ : bl_S) (r b : Nat) : bl_S := bl_up (bl_up (bl_up σ r 7 (σ r 7 + wy (σ r 0) (σ r 1) (σ b 0) (σ b 1))) r 0 (σ b 0)) r 1 (σ b 1)
theorem c_X5_walkTo (σ : bl_S) {r b : Nat} (h : bl_kd r = 5) (hb : bl_kd b = 1) : bl_Con (bl_mi 31) [.ref r, .ref b] σ none (wkS σ r b) := by
  have hrb := bl_kdne hb h (by decide)
  refine bl_c (Nat.le_of_ble_eq_true rfl) (vc_X5_walkTo_0 σ r b h hb ⟨_, _, c_X5_momentsTo σ h hb, fun v e => ⟨rfl, ?_⟩⟩)
  rw [e]
  simp only [bl_up_c hrb]
  rfl
def wkM (σ : bl_S) (p b : Nat) : bl_S := bl_up (bl_up (bl_up σ 115 p (σ 115 p + wy (σ 108 p) (σ 109 p) (σ 102 b) (σ 103 b))) 108 p (σ 102 b)) 109 p (σ 103 b)
/-- the reference's go, for a picker and a bush that there are -/
theorem c_X11_go (σ : bl_S) {nb np p b : Nat} (hn : nb ≤ 6) (hn2 : np ≤ 4) (h4 : σ 1 4 = nI nb) (h11 : σ 1 11 = nI np) (hp : p < np) (hb : b < nb) (h : ∃ x y : Nat, x ≤ 99 ∧ y ≤ 99 ∧ σ 108 p = nI x ∧ σ 102 b = nI y) : bl_Con (bl_mi 129) [.ref 1, .int (nI p), .int (nI b)] σ (some (.int (σ 115 p + wy (σ 108 p) (σ 109 p) (σ 102 b) (σ 103 b)))) (wkM σ p b) := by
  have p4 : p < 4 := by omega
  have b6 : b < 6 := by omega
  have w1 : ∀ n j : Nat, j < n → n ≤ 6 → ¬ wi (nI j) 0 (nI n - 1) = 0 := by
    intro n j hj hn
    unfold wi
    rw [if_neg (nI_pos (by omega))]
    cases n with
    | zero => omega
    | succ k =>
      rw [nI_pred, if_neg (nI_nlt (by omega) (by omega))]
      decide
  refine bl_c (Nat.le_of_ble_eq_true rfl) (vc_X11_go_0 σ _ _ ⟨_, _, c_X11_isPicker σ _, fun q => absurd q (by rw [h11]; exact w1 np p hp (by omega)), fun _ => ⟨_, _, c_X11_isBush σ _, fun q => absurd q (by rw [h4]; exact w1 nb b hb hn), fun _ => ⟨vip p4, _, _, c_X11_wayOf σ p4 b6 h, vib b6, ?_⟩⟩⟩)
  rw [ntp p4, ntb b6, bl_up_s]
  exact ⟨rfl, rfl⟩
