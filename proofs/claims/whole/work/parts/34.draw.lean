/-! DRAWS -/
/-- shut: nobody looks inside by accident -/
theorem nx_ex : ∃ f : Int32 → Int32, ∀ sd, f sd = Int64.toInt32 ((Int32.toInt64 sd * 1103515245 + 12345) &&& 2147483647) := ⟨_, fun _ => rfl⟩
noncomputable def nx : Int32 → Int32 := Classical.choose nx_ex
theorem nx_eq (sd : Int32) : nx sd = Int64.toInt32 ((Int32.toInt64 sd * 1103515245 + 12345) &&& 2147483647) := Classical.choose_spec nx_ex sd
theorem dv_ex : ∃ f : Int32 → Int32 → Int32, ∀ sd n, f sd n = nx sd / 65536 - nx sd / 65536 / n * n := ⟨_, fun _ _ => rfl⟩
noncomputable def dv : Int32 → Int32 → Int32 := Classical.choose dv_ex
theorem dv_eq (sd n : Int32) : dv sd n = nx sd / 65536 - nx sd / 65536 / n * n := Classical.choose_spec dv_ex sd n
theorem lN_and31 (a : Nat) : lN a &&& 2147483647 = lN (a % 2147483648) := by
  apply Int64.toBitVec_inj.mp
  rw [Int64.toBitVec_and]
  apply BitVec.eq_of_toNat_eq
  rw [BitVec.toNat_and]
  show (BitVec.ofNat 64 a).toNat &&& (2147483647 : Nat) = (BitVec.ofNat 64 (a % 2147483648)).toNat
  rw [BitVec.toNat_ofNat, BitVec.toNat_ofNat, show (2147483647 : Nat) = 2 ^ 31 - 1 from rfl, Nat.and_two_pow_sub_one_eq_mod]
  omega
theorem nx_in {k : Nat} (hk : k < 2 ^ 31) : Int32.toInt64 (nI k) * 1103515245 + 12345 = lN (k * 1103515245 + 12345) := by
  rw [nI_l hk, show (1103515245 : Int64) = lN 1103515245 from rfl, show (12345 : Int64) = lN 12345 from rfl, lN_mul, lN_add]
theorem nx_N {k : Nat} (hk : k < 2 ^ 31) : nx (nI k) = nI ((k * 1103515245 + 12345) % 2147483648) := by
  rw [nx_eq, nx_in hk, lN_and31, lN_i]
theorem nx_M {k : Nat} (hk : k < 2 ^ 31) : Int64.toInt32 ((Int32.toInt64 (nI k) * 1103515245 + 12345) - (Int32.toInt64 (nI k) * 1103515245 + 12345) / 2147483648 * 2147483648) = nx (nI k) := by
  rw [nx_N hk, nx_in hk, show (2147483648 : Int64) = lN 2147483648 from rfl, pk_lRem (by omega) (by omega) (by omega), lN_i]
theorem nx_pos {sd : Int32} (h : ¬ sd < 0) : ¬ nx sd < 0 := by
  obtain ⟨k, hk, rfl⟩ := nI_of h
  rw [nx_N hk]
  exact nI_pos (by omega)
theorem dv_N {sd : Int32} (h : ¬ sd < 0) {n : Nat} (h1 : 1 ≤ n) (h2 : n ≤ 1000) : ∃ j, j < n ∧ dv sd (nI n) = nI j := by
  obtain ⟨k, hk, rfl⟩ := nI_of h
  rw [dv_eq, nx_N hk, show (65536 : Int32) = nI 65536 from rfl, pk_div (by omega) (by omega) (by omega), pk_rem (by omega) (by omega) (by omega)]
  exact ⟨_, Nat.mod_lt _ (by omega), rfl⟩
theorem c_X3_draw (σ : bl_S) {n : Nat} (h1 : 1 ≤ n) (h2 : n ≤ 1000) : bl_Con (bl_mi 30) [.ref 10, .int (nI n)] σ (some (.int (dv (σ 10 6) (nI n)))) (bl_up σ 10 6 (nx (σ 10 6))) := by
  refine bl_c (Nat.le_of_ble_eq_true rfl) (vc_X3_draw_0 σ 10 _ rfl (fun v1 e1 => ?_))
  rw [← nx_eq] at e1
  subst e1
  have hnot : ¬ nI n < 1 := by
    rw [show (1 : Int32) = nI 1 from rfl]
    exact nI_nlt h1 (by omega)
  refine ⟨fun _ => nI_ne0 (by omega) (by omega), fun v5 e5 => ⟨?_, rfl⟩⟩
  rw [e5, if_neg hnot, bl_up_s, dv_eq]
theorem c_X11_draw (σ : bl_S) {n : Nat} (h1 : 1 ≤ n) (h2 : n ≤ 1000) (hs : ¬ σ 1 21 < 0) : bl_Con (bl_mi 138) [.ref 1, .int (nI n)] σ (some (.int (dv (σ 1 21) (nI n)))) (bl_up σ 1 21 (nx (σ 1 21))) := by
  refine bl_c (Nat.le_of_ble_eq_true rfl) (vc_X11_draw_0 σ _ (fun v1 e1 => ?_))
  obtain ⟨k, hk, e⟩ := nI_of hs
  rw [e, nx_M hk, ← e] at e1
  subst e1
  exact ⟨nI_ne0 (by omega) (by omega), by rw [dv_eq], rfl⟩
/-! single moves of the views -/
theorem CV_upP {nb np i j : Nat} {v : Int32} {B P : Nat → Nat → Int32} {dy sd : Int32} {s : bl_S} (hn : nb ≤ 6) (h : CV nb np B P dy sd s) : CV nb np B (bl_up P i j v) dy sd (bl_up s (20 + i) j v) := by
  obtain ⟨h1, h2, h3, h4⟩ := h
  refine ⟨fun b k hb hk => by rw [bl_up_c (by omega)]; exact h1 b k hb hk, fun p k hp hk => ?_, by rw [bl_up_c (by omega)]; exact h3, by rw [bl_up_c (by omega)]; exact h4⟩
  by_cases e : p = i ∧ k = j
  · obtain ⟨rfl, rfl⟩ := e
    rw [bl_up_s, bl_up_s]
  · have e1 : bl_up s (20 + i) j v (20 + p) k = s (20 + p) k := by
      unfold bl_up
      rw [if_neg (by omega)]
    have e2 : bl_up P i j v p k = P p k := by
      unfold bl_up
      rw [if_neg e]
    rw [e1, e2]
    exact h2 p k hp hk
theorem CV_upB {nb np i j : Nat} {v : Int32} {B P : Nat → Nat → Int32} {dy sd : Int32} {s : bl_S} (hi : i < 6) (h : CV nb np B P dy sd s) : CV nb np (bl_up B i j v) P dy sd (bl_up s (14 + i) j v) := by
  obtain ⟨h1, h2, h3, h4⟩ := h
  refine ⟨fun p k hp hk => ?_, fun b k hb hk => by rw [bl_up_c (by omega)]; exact h2 b k hb hk, by rw [bl_up_c (by omega)]; exact h3, by rw [bl_up_c (by omega)]; exact h4⟩
  by_cases e : p = i ∧ k = j
  · obtain ⟨rfl, rfl⟩ := e
    rw [bl_up_s, bl_up_s]
  · have e1 : bl_up s (14 + i) j v (14 + p) k = s (14 + p) k := by
      unfold bl_up
      rw [if_neg (by omega)]
    have e2 : bl_up B i j v p k = B p k := by
      unfold bl_up
      rw [if_neg e]
    rw [e1, e2]
    exact h1 p k hp hk
theorem CV_sd {nb np : Nat} {v : Int32} {B P : Nat → Nat → Int32} {dy sd : Int32} {s : bl_S} (h : CV nb np B P dy sd s) : CV nb np B P dy v (bl_up s 10 6 v) := by
  obtain ⟨h1, h2, h3, h4⟩ := h
  exact ⟨fun b k hb hk => by rw [bl_up_c (by omega)]; exact h1 b k hb hk, fun p k hp hk => by rw [bl_up_c (by omega)]; exact h2 p k hp hk, by rw [bl_up_j (by omega)]; exact h3, by rw [bl_up_s]⟩
theorem MV_upP {nb np i j : Nat} {v : Int32} {B P : Nat → Nat → Int32} {dy sd : Int32} {s : bl_S} (hj : j < 8) (h : MV nb np B P dy sd s) : MV nb np B (bl_up P i j v) dy sd (bl_up s (108 + j) i v) := by
  obtain ⟨h1, h2, h3, h4⟩ := h
  refine ⟨fun b k hb hk => by rw [bl_up_c (by omega)]; exact h1 b k hb hk, fun p k hp hk => ?_, by rw [bl_up_c (by omega)]; exact h3, by rw [bl_up_c (by omega)]; exact h4⟩
  by_cases e : p = i ∧ k = j
  · obtain ⟨rfl, rfl⟩ := e
    rw [bl_up_s, bl_up_s]
  · have e1 : bl_up s (108 + j) i v (108 + k) p = s (108 + k) p := by
      unfold bl_up
      rw [if_neg (by omega)]
    have e2 : bl_up P i j v p k = P p k := by
      unfold bl_up
      rw [if_neg e]
    rw [e1, e2]
    exact h2 p k hp hk
theorem MV_upB {nb np i j : Nat} {v : Int32} {B P : Nat → Nat → Int32} {dy sd : Int32} {s : bl_S} (hj : j < 6) (h : MV nb np B P dy sd s) : MV nb np (bl_up B i j v) P dy sd (bl_up s (102 + j) i v) := by
  obtain ⟨h1, h2, h3, h4⟩ := h
  refine ⟨fun p k hp hk => ?_, fun b k hb hk => by rw [bl_up_c (by omega)]; exact h2 b k hb hk, by rw [bl_up_c (by omega)]; exact h3, by rw [bl_up_c (by omega)]; exact h4⟩
  by_cases e : p = i ∧ k = j
  · obtain ⟨rfl, rfl⟩ := e
    rw [bl_up_s, bl_up_s]
  · have e1 : bl_up s (102 + j) i v (102 + k) p = s (102 + k) p := by
      unfold bl_up
      rw [if_neg (by omega)]
    have e2 : bl_up B i j v p k = B p k := by
      unfold bl_up
      rw [if_neg e]
    rw [e1, e2]
    exact h1 p k hp hk
theorem MV_sd {nb np : Nat} {v : Int32} {B P : Nat → Nat → Int32} {dy sd : Int32} {s : bl_S} (h : MV nb np B P dy sd s) : MV nb np B P dy v (bl_up s 1 21 v) := by
  obtain ⟨h1, h2, h3, h4⟩ := h
  exact ⟨fun b k hb hk => by rw [bl_up_c (by omega)]; exact h1 b k hb hk, fun p k hp hk => by rw [bl_up_c (by omega)]; exact h2 p k hp hk, by rw [bl_up_j (by omega)]; exact h3, by rw [bl_up_s]⟩
/-! a walk and handfuls, on the views -/
def wkA (p b : Nat) (A : AS) : AS := (A.1, bl_up (bl_up (bl_up A.2.1 p 7 (A.2.1 p 7 + wy (A.2.1 p 0) (A.2.1 p 1) (A.1 b 0) (A.1 b 1))) p 0 (A.1 b 0)) p 1 (A.1 b 1), A.2.2.1, A.2.2.2)
def tkA (p b n : Nat) (ho : Int32) (A : AS) : AS := (bl_up A.1 b 4 (hs (A.2.1 p 2) (A.2.1 p 4) (A.1 b 2) (A.1 b 4) n), bl_up (bl_up (bl_up A.2.1 p 6 (pe (A.2.1 p 2) (A.2.1 p 4) (A.1 b 2) (A.2.1 p 3) (A.1 b 4) (A.2.1 p 6) n)) p 5 (pcn (A.2.1 p 2) (A.2.1 p 4) (A.1 b 2) (A.2.1 p 3) (A.1 b 4) ho (A.2.1 p 5) n)) p 7 (kc (A.1 b 2) (A.2.1 p 7) n), A.2.2.1, A.2.2.2)
noncomputable def sdA (A : AS) : AS := (A.1, A.2.1, A.2.2.1, nx A.2.2.2)
theorem CV_walk {nb np p b : Nat} {A : AS} {s : bl_S} (hn : nb ≤ 6) (hp : p < np) (hb : b < nb) (h : CVt nb np A s) : CVt nb np (wkA p b A) (wkS s (20 + p) (14 + b)) := by
  have e := id h
  obtain ⟨h1, h2, h3, h4⟩ := e
  unfold wkS
  rw [h2 p 7 hp (by omega), h2 p 0 hp (by omega), h2 p 1 hp (by omega), h1 b 0 hb (by omega), h1 b 1 hb (by omega)]
  exact CV_upP hn (CV_upP hn (CV_upP hn h))
theorem MV_walk {nb np p b : Nat} {A : AS} {s : bl_S} (hp : p < np) (hb : b < nb) (h : MVt nb np A s) : MVt nb np (wkA p b A) (wkM s p b) := by
  have e := id h
  obtain ⟨h1, h2, h3, h4⟩ := e
  have e7 : s 115 p = A.2.1 p 7 := h2 p 7 hp (by omega)
  have e0 : s 108 p = A.2.1 p 0 := h2 p 0 hp (by omega)
  have e1 : s 109 p = A.2.1 p 1 := h2 p 1 hp (by omega)
  have d0 : s 102 b = A.1 b 0 := h1 b 0 hb (by omega)
  have d1 : s 103 b = A.1 b 1 := h1 b 1 hb (by omega)
  unfold wkM
  rw [e7, e0, e1, d0, d1]
  exact MV_upP (j := 1) (by omega) (MV_upP (j := 0) (by omega) (MV_upP (j := 7) (by omega) h))
theorem CV_take {nb np p b n : Nat} {ho : Int32} {A : AS} {s : bl_S} (hn : nb ≤ 6) (hp : p < np) (hb : b < nb) (h : CVt nb np A s) : CVt nb np (tkA p b n ho A) (tkS s (20 + p) (14 + b) ho n) := by
  have e := id h
  obtain ⟨h1, h2, h3, h4⟩ := e
  unfold tkS
  rw [h2 p 7 hp (by omega), h2 p 2 hp (by omega), h2 p 3 hp (by omega), h2 p 4 hp (by omega), h2 p 5 hp (by omega), h2 p 6 hp (by omega), h1 b 2 hb (by omega), h1 b 4 hb (by omega)]
  exact CV_upP hn (CV_upP hn (CV_upP hn (CV_upB (by omega) h)))
theorem MV_take {nb np p b n : Nat} {A : AS} {s : bl_S} (hp : p < np) (hb : b < nb) (h : MVt nb np A s) : MVt nb np (tkA p b n (s 1 3) A) (tkM s p b n) := by
  have e := id h
  obtain ⟨h1, h2, h3, h4⟩ := e
  have e7 : s 115 p = A.2.1 p 7 := h2 p 7 hp (by omega)
  have e2 : s 110 p = A.2.1 p 2 := h2 p 2 hp (by omega)
  have e3 : s 111 p = A.2.1 p 3 := h2 p 3 hp (by omega)
  have e4 : s 112 p = A.2.1 p 4 := h2 p 4 hp (by omega)
  have e5 : s 113 p = A.2.1 p 5 := h2 p 5 hp (by omega)
  have e6 : s 114 p = A.2.1 p 6 := h2 p 6 hp (by omega)
  have d2 : s 104 b = A.1 b 2 := h1 b 2 hb (by omega)
  have d4 : s 106 b = A.1 b 4 := h1 b 4 hb (by omega)
  have hx : MV nb np (bl_up A.1 b 4 (hs (A.2.1 p 2) (A.2.1 p 4) (A.1 b 2) (A.1 b 4) n)) (bl_up (bl_up (bl_up A.2.1 p 5 (pcn (A.2.1 p 2) (A.2.1 p 4) (A.1 b 2) (A.2.1 p 3) (A.1 b 4) (s 1 3) (A.2.1 p 5) n)) p 6 (pe (A.2.1 p 2) (A.2.1 p 4) (A.1 b 2) (A.2.1 p 3) (A.1 b 4) (A.2.1 p 6) n)) p 7 (kc (A.1 b 2) (A.2.1 p 7) n)) A.2.2.1 A.2.2.2 (tkM s p b n) := by
    unfold tkM
    rw [e7, e2, e3, e4, e5, e6, d2, d4]
    exact MV_upP (j := 7) (by omega) (MV_upP (j := 6) (by omega) (MV_upP (j := 5) (by omega) (MV_upB (j := 4) (by omega) h)))
  have hsw : ∀ v w : Int32, bl_up (bl_up A.2.1 p 5 v) p 6 w = bl_up (bl_up A.2.1 p 6 w) p 5 v := by
    intro v w
    funext c j
    simp only [bl_up]
    by_cases c1 : c = p ∧ j = 6
    · rw [if_pos c1, if_neg (by omega), if_pos c1]
    · rw [if_neg c1, if_neg c1]
  rw [hsw] at hx
  exact hx
