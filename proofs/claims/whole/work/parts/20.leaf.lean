/-! CONTRACTS, leaves first. Pure words for berries: hq a handful, gn what of it comes to a can, hs and gs behind n handfuls. -/
def hq (q hi kd rp : Int32) : Int32 := if kd = 1 then (if hi = 0 then (if (rp + 4) / 5 < q then (rp + 4) / 5 else q) / 2 else (if (rp + 4) / 5 < q then (rp + 4) / 5 else q)) else (if (rp + 4) / 5 < q then (rp + 4) / 5 else q)
def gn (q hi kd ap rp : Int32) : Int32 := hq q hi kd rp - (if hq q hi kd rp < ap then hq q hi kd rp else ap)
def hs (q hi kd rp : Int32) : Nat → Int32
  | 0 => rp
  | n + 1 => hs q hi kd rp n - hq q hi kd (hs q hi kd rp n)
def gs (q hi kd ap rp : Int32) : Nat → Int32
  | 0 => 0
  | n + 1 => gs q hi kd ap rp n + gn q hi kd ap (hs q hi kd rp n)
/-- moments of a way, and of a handful -/
def wy (fy fs ty ts : Int32) : Int32 := ((if 0 ≤ fy - ty then fy - ty else 0 - (fy - ty)) + (if fs = ts then 0 else 3) + 9) / 10
def hm (kd : Int32) : Int32 := if kd = 3 then 2 else 1
theorem bl_up_s (σ : bl_S) (c j : Nat) (v : Int32) : bl_up σ c j v c j = v := by simp [bl_up]
theorem bl_up_c {σ : bl_S} {c j : Nat} {v : Int32} {c' j' : Nat} (h : c' ≠ c) : bl_up σ c j v c' j' = σ c' j' := by simp [bl_up, h]
theorem bl_up_j {σ : bl_S} {c j : Nat} {v : Int32} {c' j' : Nat} (h : j' ≠ j) : bl_up σ c j v c' j' = σ c' j' := by simp [bl_up, h]
theorem bl_up_up (σ : bl_S) (c j : Nat) (v w : Int32) : bl_up (bl_up σ c j v) c j w = bl_up σ c j w := by
  funext a b
  simp only [bl_up]
  split <;> rfl
theorem bl_up_id (σ : bl_S) (c j : Nat) : bl_up σ c j (σ c j) = σ := by
  funext a b
  simp only [bl_up]
  split
  · next h => rw [h.1, h.2]
  · rfl
theorem bl_up_id' {σ : bl_S} {c j : Nat} {v : Int32} (h : v = σ c j) : bl_up σ c j v = σ := by rw [h, bl_up_id]
theorem bl_kdne {a b c d : Nat} (h1 : bl_kd a = c) (h2 : bl_kd b = d) (h : c ≠ d) : a ≠ b := fun e => h (by rw [← h1, ← h2, e])
theorem bl_dn {P : Nat → Prop} {N : Nat} (h0 : P N) (hs : ∀ i, i < N → P (i + 1) → P i) : P 0 := by
  have key : ∀ k, k ≤ N → P (N - k) := by
    intro k
    induction k with
    | zero => intro _; exact h0
    | succ k ih =>
      intro h
      refine hs (N - (k + 1)) (by omega) ?_
      rw [show N - (k + 1) + 1 = N - k by omega]
      exact ih (by omega)
  have := key N (Nat.le_refl N)
  rwa [Nat.sub_self] at this
theorem bl_c {i : Nat} {as : List Value} {σ : bl_S} {r : Option Value} {σ' : bl_S} (hlen : (lg_sl as).length ≤ (bl_mi i).2.2.1) (h : bl_Wx (bl_mi i) 0 (lv_args 0 as) [] σ (fun v τ => v = r ∧ τ = σ')) : bl_Con (bl_mi i) as σ r σ' := bl_con (bl_plain _ (bl_mi_in i)) hlen h
theorem c_X1_handfulMoments (σ : bl_S) {r : Nat} (h : bl_kd r = 1) : bl_Con (bl_mi 1) [.ref r] σ (some (.int (hm (σ r 2)))) σ :=
  bl_c (Nat.le_of_ble_eq_true rfl) (vc_X1_handfulMoments_0 σ r h (fun v e => ⟨by rw [e]; rfl, rfl⟩))
theorem c_X5_wouldGet (σ : bl_S) {r b : Nat} (h : bl_kd r = 5) (hb : bl_kd b = 1) : bl_Con (bl_mi 2) [.ref r, .ref b] σ (some (.int (hq (σ r 2) (σ r 4) (σ b 2) (σ b 4)))) σ :=
  bl_c (Nat.le_of_ble_eq_true rfl) (vc_X5_wouldGet_0 σ r b h hb (fun v e v2 e2 => ⟨by rw [e2, e]; rfl, rfl⟩))
theorem c_X5_tryHandful (σ : bl_S) {r b : Nat} (h : bl_kd r = 5) (hb : bl_kd b = 1) : bl_Con (bl_mi 3) [.ref r, .ref b] σ (some (.int (gn (σ r 2) (σ r 4) (σ b 2) (σ r 3) (σ b 4)))) (bl_up σ b 4 (σ b 4 - hq (σ r 2) (σ r 4) (σ b 2) (σ b 4))) :=
  bl_c (Nat.le_of_ble_eq_true rfl) (vc_X5_tryHandful_0 σ r b h hb ⟨_, _, c_X5_wouldGet σ h hb, by rw [bl_up_c (bl_kdne h hb (by decide))]; rfl, rfl⟩)
theorem c_X1_momentsFrom (σ : bl_S) {r : Nat} (x y : Int32) (h : bl_kd r = 1) : bl_Con (bl_mi 5) [.ref r, .int x, .int y] σ (some (.int (wy x y (σ r 0) (σ r 1)))) σ :=
  bl_c (Nat.le_of_ble_eq_true rfl) (vc_X1_momentsFrom_0 σ r x y h (fun v e v2 e2 => ⟨by rw [e2, e, ite_self]; rfl, rfl⟩))
theorem c_X5_momentsTo (σ : bl_S) {r b : Nat} (h : bl_kd r = 5) (hb : bl_kd b = 1) : bl_Con (bl_mi 6) [.ref r, .ref b] σ (some (.int (wy (σ r 0) (σ r 1) (σ b 0) (σ b 1)))) σ :=
  bl_c (Nat.le_of_ble_eq_true rfl) (vc_X5_momentsTo_0 σ r b h hb ⟨_, _, c_X1_momentsFrom σ _ _ hb, rfl, rfl⟩)
def tl (a b c : Int32) : Int32 := if 0 < a then (if 0 < b then (if 0 < c then 1 else 0) else 0) else 0
theorem tl01 (a b c : Int32) : tl a b c = 0 ∨ tl a b c = 1 := by
  unfold tl
  (repeat' split) <;> first | exact Or.inl rfl | exact Or.inr rfl
theorem c_X4_isTold (σ : bl_S) {r : Nat} (h : bl_kd r = 4) : bl_Con (bl_mi 16) [.ref r] σ (some (.int (tl (σ r 0) (σ r 1) (σ r 2)))) σ :=
  bl_c (Nat.le_of_ble_eq_true rfl) (vc_X4_isTold_0 σ r h (fun v e => ⟨by rw [e]; exact tl01 _ _ _, by rw [e]; rfl, rfl⟩))
/-- a day of a bush: red, ripe, soft behind it -/
def dm (rip kd : Int32) : Int32 := if kd = 2 then 2 * rip else rip
def dr1 (m rd : Int32) : Int32 := rd - (rd + m - 1) / m
def dp1 (m so rd rp : Int32) : Int32 := rp + ((rd + m - 1) / m - rp / so)
def ds1 (so fa rp sf : Int32) : Int32 := sf + (rp / so - sf / fa)
def dp (m so rn rd rp : Int32) : Int32 := if rn = 0 then dp1 m so rd rp else dp1 m so rd rp - dp1 m so rd rp / 4
def ds (m so fa rn rd rp sf : Int32) : Int32 := if rn = 0 then ds1 so fa rp sf else dp1 m so rd rp / 4
/-- the cell of a bush after a day -/
def bl_day (σ : bl_S) (b : Nat) (rip so fa rn : Int32) : bl_S := bl_up (bl_up (bl_up σ b 3 (dr1 (dm rip (σ b 2)) (σ b 3))) b 4 (dp (dm rip (σ b 2)) so rn (σ b 3) (σ b 4))) b 5 (ds (dm rip (σ b 2)) so fa rn (σ b 3) (σ b 4) (σ b 5))
theorem c_X1_passDay (σ : bl_S) {b w : Nat} (rn : Int32) (hb : bl_kd b = 1) (hw : bl_kd w = 4) (ht : tl (σ w 0) (σ w 1) (σ w 2) = 1) (hm : ¬ dm (σ w 0) (σ b 2) = 0) (h1 : ¬ σ w 1 = 0) (h2 : ¬ σ w 2 = 0) : bl_Con (bl_mi 17) [.ref b, .ref w, .int rn] σ none (bl_day σ b (σ w 0) (σ w 1) (σ w 2) rn) := by
  refine bl_c (Nat.le_of_ble_eq_true rfl) (vc_X1_passDay_0 σ b w rn hb hw ⟨_, _, c_X4_isTold σ hw, fun e => absurd (ht.symm.trans e) (by decide), fun _ => ?_⟩)
  intro v7 e7
  have e7 : v7 = dm (σ w 0) (σ b 2) := e7
  subst e7
  refine ⟨hm, h1, h2, fun v9 e9 v11 e11 v13 e13 s e => ⟨rfl, ?_⟩⟩
  rw [e, e13, e11, e9]
  funext c j
  by_cases hr : rn = 0
  · simp only [if_pos hr, bl_day, dp, ds, bl_up, dr1, dp1, ds1]
    by_cases hc : c = b
    · subst hc
      by_cases h5 : j = 5
      · simp [h5]
      · by_cases h4 : j = 4
        · simp [h4]
        · simp [h5, h4]
    · simp [hc]
  · simp only [if_neg hr, bl_day, dp, ds, bl_up, dr1, dp1, ds1]
    by_cases hc : c = b
    · subst hc
      by_cases h5 : j = 5
      · simp [h5]
      · by_cases h4 : j = 4
        · simp [h4]
        · simp [h5, h4]
    · simp [hc]
/-- handfuls off a tried bush -/
theorem c_X5_tryHandfuls (σ : bl_S) {r b : Nat} (n : Nat) (h : bl_kd r = 5) (hb : bl_kd b = 1) (hn : n < 2 ^ 31) : bl_Con (bl_mi 19) [.ref r, .ref b, .int (nI n)] σ (some (.int (gs (σ r 2) (σ r 4) (σ b 2) (σ r 3) (σ b 4) n))) (bl_up σ b 4 (hs (σ r 2) (σ r 4) (σ b 2) (σ b 4) n)) := by
  refine bl_c (Nat.le_of_ble_eq_true rfl) (vc_X5_tryHandfuls_0 σ r b (nI n) h hb ?_)
  have hrb := bl_kdne h hb (by decide)
  have key := bl_dn (N := n) (P := fun i => bl_Wx (bl_mi 19) 5 [(0, .ref r), (1, .ref b), (2, .int (nI n)), (3, .int (gs (σ r 2) (σ r 4) (σ b 2) (σ r 3) (σ b 4) i)), (4, .int (nI i))] [] (bl_up σ b 4 (hs (σ r 2) (σ r 4) (σ b 2) (σ b 4) i)) (fun v τ => v = some (.int (gs (σ r 2) (σ r 4) (σ b 2) (σ r 3) (σ b 4) n)) ∧ τ = bl_up σ b 4 (hs (σ r 2) (σ r 4) (σ b 2) (σ b 4) n))) ?_ ?_
  · have e : bl_up σ b 4 (hs (σ r 2) (σ r 4) (σ b 2) (σ b 4) 0) = σ := bl_up_id σ b 4
    rw [e] at key
    exact key
  · exact vc_X5_tryHandfuls_5 _ r b _ _ _ h hb ⟨fun c => absurd c (nI_nlt (Nat.le_refl n) hn), fun _ => ⟨rfl, rfl⟩⟩
  · intro i hi ih
    refine vc_X5_tryHandfuls_5 _ r b _ _ _ h hb ⟨fun _ => ⟨_, _, c_X5_tryHandful _ h hb, ?_⟩, fun c => absurd (nI_lt hi hn) c⟩
    simp only [bl_up_up, bl_up_s, bl_up_c hrb, bl_up_j (show 2 ≠ 4 by decide), nI_1]
    exact ih
theorem c_X5_isAt (σ : bl_S) {r b : Nat} (h : bl_kd r = 5) (hb : bl_kd b = 1) : bl_Con (bl_mi 34) [.ref r, .ref b] σ (some (.int (if σ r 0 = σ b 0 then (if σ r 1 = σ b 1 then 1 else 0) else 0))) σ :=
  bl_c (Nat.le_of_ble_eq_true rfl) (vc_X5_isAt_0 σ r b h hb (fun v e => ⟨by rw [e]; (repeat' split) <;> first | exact Or.inl rfl | exact Or.inr rfl, by rw [e], rfl⟩))
/-- the first n slots of a cell, copied -/
def bl_cp (n : Nat) (σ : bl_S) (a b : Nat) : bl_S := fun c j => if c = a ∧ j < n then σ b j else σ c j
theorem bl_cp_c {n : Nat} {σ : bl_S} {a b c : Nat} (h : c ≠ a) : bl_cp n σ a b c = σ c := by
  funext j
  simp [bl_cp, h]
theorem bl_cp_s {n : Nat} {σ : bl_S} {a b j : Nat} (h : j < n) : bl_cp n σ a b a j = σ b j := by simp [bl_cp, h]
set_option maxHeartbeats 2000000 in
theorem c_X1_copyFrom (σ : bl_S) {a b : Nat} (ha : bl_kd a = 1) (hb : bl_kd b = 1) : bl_Con (bl_mi 0) [.ref a, .ref b] σ none (bl_cp 6 σ a b) := by
  refine bl_c (Nat.le_of_ble_eq_true rfl) (vc_X1_copyFrom_0 σ a b ha hb (fun v1 e1 v3 e3 v5 e5 v7 e7 => ⟨rfl, ?_⟩))
  by_cases hab : b = a
  · subst hab
    rw [e7, e5, e3, e1]
    funext c j
    by_cases hc : c = b
    · subst hc
      match j with
      | 0 => simp [bl_up, bl_cp]
      | 1 => simp [bl_up, bl_cp]
      | 2 => simp [bl_up, bl_cp]
      | 3 => simp [bl_up, bl_cp]
      | 4 => simp [bl_up, bl_cp]
      | 5 => simp [bl_up, bl_cp]
      | j + 6 => simp [bl_up, bl_cp]
    · simp [bl_up, bl_cp, hc]
  · rw [e7, e5, e3, e1]
    funext c j
    by_cases hc : c = a
    · subst hc
      match j with
      | 0 => simp [bl_up, bl_cp]
      | 1 => simp [bl_up, bl_cp, hab]
      | 2 => simp [bl_up, bl_cp, hab]
      | 3 => simp [bl_up, bl_cp, hab]
      | 4 => simp [bl_up, bl_cp, hab]
      | 5 => simp [bl_up, bl_cp, hab]
      | j + 6 => simp [bl_up, bl_cp]; intro hz; omega
    · simp [bl_up, bl_cp, hc]
set_option maxHeartbeats 2000000 in
theorem c_X4_copyFrom (σ : bl_S) {a b : Nat} (ha : bl_kd a = 4) (hb : bl_kd b = 4) : bl_Con (bl_mi 22) [.ref a, .ref b] σ none (bl_cp 4 σ a b) := by
  refine bl_c (Nat.le_of_ble_eq_true rfl) (vc_X4_copyFrom_0 σ a b ha hb (fun v1 e1 v3 e3 => ⟨rfl, ?_⟩))
  by_cases hab : b = a
  · subst hab
    rw [e3, e1]
    funext c j
    by_cases hc : c = b
    · subst hc
      match j with
      | 0 => simp [bl_up, bl_cp]
      | 1 => simp [bl_up, bl_cp]
      | 2 => simp [bl_up, bl_cp]
      | 3 => simp [bl_up, bl_cp]
      | j + 4 => simp [bl_up, bl_cp]
    · simp [bl_up, bl_cp, hc]
  · rw [e3, e1]
    funext c j
    by_cases hc : c = a
    · subst hc
      match j with
      | 0 => simp [bl_up, bl_cp]
      | 1 => simp [bl_up, bl_cp, hab]
      | 2 => simp [bl_up, bl_cp, hab]
      | 3 => simp [bl_up, bl_cp, hab]
      | j + 4 => simp [bl_up, bl_cp]; intro hz; omega
    · simp [bl_up, bl_cp, hc]
set_option maxHeartbeats 2000000 in
theorem c_X5_copyFrom (σ : bl_S) {a b : Nat} (ha : bl_kd a = 5) (hb : bl_kd b = 5) (h4 : σ b 4 = 0 ∨ σ b 4 = 1) : bl_Con (bl_mi 23) [.ref a, .ref b] σ none (bl_cp 8 σ a b) := by
  refine bl_c (Nat.le_of_ble_eq_true rfl) (vc_X5_copyFrom_0 σ a b ha hb (fun v1 e1 v3 e3 => ⟨?_, fun v5 e5 v7 e7 v9 e9 v11 e11 => ⟨rfl, ?_⟩⟩))
  · have : ∀ w1 w2 w3 w4 : Int32, (bl_up (bl_up (bl_up (bl_up σ a 0 w1) a 1 w2) a 2 w3) a 3 w4) b 4 = σ b 4 := by
      intro w1 w2 w3 w4
      simp [bl_up]
    rw [this]
    exact h4
  · by_cases hab : b = a
    · subst hab
      rw [e11, e9, e7, e5, e3, e1]
      funext c j
      by_cases hc : c = b
      · subst hc
        match j with
        | 0 => simp [bl_up, bl_cp]
        | 1 => simp [bl_up, bl_cp]
        | 2 => simp [bl_up, bl_cp]
        | 3 => simp [bl_up, bl_cp]
        | 4 => simp [bl_up, bl_cp]
        | 5 => simp [bl_up, bl_cp]
        | 6 => simp [bl_up, bl_cp]
        | 7 => simp [bl_up, bl_cp]
        | j + 8 => simp [bl_up, bl_cp]
      · simp [bl_up, bl_cp, hc]
    · rw [e11, e9, e7, e5, e3, e1]
      funext c j
      by_cases hc : c = a
      · subst hc
        match j with
        | 0 => simp [bl_up, bl_cp]
        | 1 => simp [bl_up, bl_cp, hab]
        | 2 => simp [bl_up, bl_cp, hab]
        | 3 => simp [bl_up, bl_cp, hab]
        | 4 => simp [bl_up, bl_cp, hab]
        | 5 => simp [bl_up, bl_cp, hab]
        | 6 => simp [bl_up, bl_cp, hab]
        | 7 => simp [bl_up, bl_cp, hab]
        | j + 8 => simp [bl_up, bl_cp]; intro hz; omega
      · simp [bl_up, bl_cp, hc]
