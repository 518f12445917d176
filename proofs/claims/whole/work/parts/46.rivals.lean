/-! what handfuls bring, in natural numbers; RIVALS -/
def gnN (q hi kd ap rp : Nat) : Nat := hqN q hi kd rp - ap
def gsN (q hi kd ap rp : Nat) : Nat → Nat
  | 0 => 0
  | n + 1 => gsN q hi kd ap rp n + gnN q hi kd ap (hsN q hi kd rp n)
theorem gnN_eq {q hi kd ap rp : Nat} (h1 : q < 2 ^ 30) (h2 : hi < 2 ^ 31) (h3 : kd < 2 ^ 31) (h4 : rp < 2 ^ 30) (h5 : ap < 2 ^ 30) : gn (nI q) (nI hi) (nI kd) (nI ap) (nI rp) = nI (gnN q hi kd ap rp) := by
  have hl := hqN_le q hi kd rp
  unfold gn gnN
  rw [hqN_eq (by omega) h2 h3 h4]
  by_cases c : hqN q hi kd rp < ap
  · rw [if_pos (nI_lt c (by omega)), Int32.sub_self, show hqN q hi kd rp - ap = 0 by omega]
    rfl
  · rw [if_neg (nI_nlt (by omega) (by omega)), pk_sub (by omega)]
theorem gsN_le (q hi kd ap rp : Nat) : ∀ n, gsN q hi kd ap rp n ≤ q * n
  | 0 => Nat.zero_le _
  | n + 1 => by
    have h1 := gsN_le q hi kd ap rp n
    have h2 := hqN_le q hi kd (hsN q hi kd rp n)
    show gsN q hi kd ap rp n + (hqN q hi kd (hsN q hi kd rp n) - ap) ≤ q * (n + 1)
    rw [Nat.mul_succ]
    omega
theorem gsN_eq {q hi kd ap rp : Nat} (h1 : q < 2 ^ 30) (h2 : hi < 2 ^ 31) (h3 : kd < 2 ^ 31) (h4 : rp < 2 ^ 30) (h5 : ap < 2 ^ 30) : ∀ n, gs (nI q) (nI hi) (nI kd) (nI ap) (nI rp) n = nI (gsN q hi kd ap rp n)
  | 0 => rfl
  | n + 1 => by
    have hl := hsN_le q hi kd rp n
    show gs (nI q) (nI hi) (nI kd) (nI ap) (nI rp) n + gn (nI q) (nI hi) (nI kd) (nI ap) (hs (nI q) (nI hi) (nI kd) (nI rp) n) = _
    rw [gsN_eq h1 h2 h3 h4 h5 n, hsN_eq (by omega) h2 h3 h4 n, gnN_eq h1 h2 h3 (by omega) h5, nI_add]
    rfl
/-- two at one bush: ripe, and what each has -/
def sh2 (qa ha aa qb hb ab kd rp : Int32) : Nat → I3
  | 0 => (rp, 0, 0)
  | n + 1 => ((sh2 qa ha aa qb hb ab kd rp n).1 - hq qa ha kd (sh2 qa ha aa qb hb ab kd rp n).1 - hq qb hb kd ((sh2 qa ha aa qb hb ab kd rp n).1 - hq qa ha kd (sh2 qa ha aa qb hb ab kd rp n).1), (sh2 qa ha aa qb hb ab kd rp n).2.1 + gn qa ha kd aa (sh2 qa ha aa qb hb ab kd rp n).1, (sh2 qa ha aa qb hb ab kd rp n).2.2 + gn qb hb kd ab ((sh2 qa ha aa qb hb ab kd rp n).1 - hq qa ha kd (sh2 qa ha aa qb hb ab kd rp n).1))
theorem sh2_N {qa ha aa qb hb ab kd rp : Nat} (h1 : qa ≤ 20) (h2 : ha < 2 ^ 31) (h3 : aa < 2 ^ 30) (h4 : qb ≤ 20) (h5 : hb < 2 ^ 31) (h6 : ab < 2 ^ 30) (h7 : kd < 2 ^ 31) (h8 : rp < 2 ^ 30) : ∀ n, ∃ r a b : Nat, r ≤ rp ∧ a ≤ 20 * n ∧ b ≤ 20 * n ∧ sh2 (nI qa) (nI ha) (nI aa) (nI qb) (nI hb) (nI ab) (nI kd) (nI rp) n = (nI r, nI a, nI b)
  | 0 => ⟨rp, 0, 0, Nat.le_refl _, Nat.zero_le _, Nat.zero_le _, rfl⟩
  | n + 1 => by
    obtain ⟨r, a, b, l1, l2, l3, e⟩ := sh2_N h1 h2 h3 h4 h5 h6 h7 h8 n
    have q1 := hqN_le qa ha kd r
    have q2 := hqN_le qb hb kd (r - hqN qa ha kd r)
    refine ⟨r - hqN qa ha kd r - hqN qb hb kd (r - hqN qa ha kd r), a + gnN qa ha kd aa r, b + gnN qb hb kd ab (r - hqN qa ha kd r), by omega, by unfold gnN; omega, by unfold gnN; omega, ?_⟩
    show ((sh2 (nI qa) (nI ha) (nI aa) (nI qb) (nI hb) (nI ab) (nI kd) (nI rp) n).1 - hq (nI qa) (nI ha) (nI kd) (sh2 (nI qa) (nI ha) (nI aa) (nI qb) (nI hb) (nI ab) (nI kd) (nI rp) n).1 - hq (nI qb) (nI hb) (nI kd) ((sh2 (nI qa) (nI ha) (nI aa) (nI qb) (nI hb) (nI ab) (nI kd) (nI rp) n).1 - hq (nI qa) (nI ha) (nI kd) (sh2 (nI qa) (nI ha) (nI aa) (nI qb) (nI hb) (nI ab) (nI kd) (nI rp) n).1), (sh2 (nI qa) (nI ha) (nI aa) (nI qb) (nI hb) (nI ab) (nI kd) (nI rp) n).2.1 + gn (nI qa) (nI ha) (nI kd) (nI aa) (sh2 (nI qa) (nI ha) (nI aa) (nI qb) (nI hb) (nI ab) (nI kd) (nI rp) n).1, (sh2 (nI qa) (nI ha) (nI aa) (nI qb) (nI hb) (nI ab) (nI kd) (nI rp) n).2.2 + gn (nI qb) (nI hb) (nI kd) (nI ab) ((sh2 (nI qa) (nI ha) (nI aa) (nI qb) (nI hb) (nI ab) (nI kd) (nI rp) n).1 - hq (nI qa) (nI ha) (nI kd) (sh2 (nI qa) (nI ha) (nI aa) (nI qb) (nI hb) (nI ab) (nI kd) (nI rp) n).1)) = _
    rw [e]
    show (nI r - hq (nI qa) (nI ha) (nI kd) (nI r) - hq (nI qb) (nI hb) (nI kd) (nI r - hq (nI qa) (nI ha) (nI kd) (nI r)), nI a + gn (nI qa) (nI ha) (nI kd) (nI aa) (nI r), nI b + gn (nI qb) (nI hb) (nI kd) (nI ab) (nI r - hq (nI qa) (nI ha) (nI kd) (nI r))) = _
    rw [hqN_eq (by omega) h2 h7 (by omega), pk_sub q1.1, hqN_eq (by omega) h5 h7 (by omega), pk_sub q2.1, gnN_eq (by omega) h2 h7 (by omega) h3, gnN_eq (by omega) h5 h7 (by omega) h6, nI_add, nI_add]
theorem c_X2_shareOf (s : bl_S) {r1 r2 n : Nat} (f : Int32) (h1 : bl_kd r1 = 5) (h2 : bl_kd r2 = 5) (hn : n < 2 ^ 31) : bl_Con (bl_mi 18) [.ref 5, .ref r1, .ref r2, .int (nI n), .int f] s (some (.int (if f = 0 then (sh2 (s r1 2) (s r1 4) (s r1 3) (s r2 2) (s r2 4) (s r2 3) (s 82 2) (s 82 4) n).2.2 else (sh2 (s r1 2) (s r1 4) (s r1 3) (s r2 2) (s r2 4) (s r2 3) (s 82 2) (s 82 4) n).2.1))) (bl_up s 82 4 (sh2 (s r1 2) (s r1 4) (s r1 3) (s r2 2) (s r2 4) (s r2 3) (s 82 2) (s 82 4) n).1) := by
  have k82 : bl_kd 82 = 1 := rfl
  have n1 : r1 ≠ 82 := bl_kdne h1 k82 (by decide)
  have n2 : r2 ≠ 82 := bl_kdne h2 k82 (by decide)
  obtain ⟨F, hF⟩ : ∃ F : Nat → I3, ∀ m, F m = sh2 (s r1 2) (s r1 4) (s r1 3) (s r2 2) (s r2 4) (s r2 3) (s 82 2) (s 82 4) m := ⟨_, fun _ => rfl⟩
  have hF1 : ∀ m, F (m + 1) = ((F m).1 - hq (s r1 2) (s r1 4) (s 82 2) (F m).1 - hq (s r2 2) (s r2 4) (s 82 2) ((F m).1 - hq (s r1 2) (s r1 4) (s 82 2) (F m).1), (F m).2.1 + gn (s r1 2) (s r1 4) (s 82 2) (s r1 3) (F m).1, (F m).2.2 + gn (s r2 2) (s r2 4) (s 82 2) (s r2 3) ((F m).1 - hq (s r1 2) (s r1 4) (s 82 2) (F m).1)) := fun m => by rw [hF, hF]; rfl
  rw [← hF]
  refine bl_c (Nat.le_of_ble_eq_true rfl) (vc_X2_shareOf_0 s _ _ _ _ h1 h2 ?_)
  have key := bl_dn (N := n) (P := fun m => bl_Wx (bl_mi 18) 9 [(0, .ref 5), (1, .ref r1), (2, .ref r2), (3, .int (nI n)), (4, .int f), (5, .int (F m).2.1), (6, .int (F m).2.2), (7, .int (nI m))] [] (bl_up s 82 4 (F m).1) (fun v τ => v = some (.int (if f = 0 then (F n).2.2 else (F n).2.1)) ∧ τ = bl_up s 82 4 (F n).1)) ?_ ?_
  · have e0 : F 0 = (s 82 4, 0, 0) := by rw [hF]; rfl
    rw [e0] at key
    rw [bl_up_id] at key
    exact key
  · exact vc_X2_shareOf_9 _ _ _ _ _ _ _ _ h1 h2 ⟨fun q => absurd q (nI_nlt (Nat.le_refl _) hn), fun _ v e => ⟨by rw [e], rfl⟩⟩
  · intro m hm ih
    have g1 := c_X5_tryHandful (bl_up s 82 4 (F m).1) (r := r1) (b := 82) h1 k82
    rw [bl_up_ne n1, bl_up_s, bl_up_j (by omega), bl_up_up] at g1
    have g2 := c_X5_tryHandful (bl_up s 82 4 ((F m).1 - hq (s r1 2) (s r1 4) (s 82 2) (F m).1)) (r := r2) (b := 82) h2 k82
    rw [bl_up_ne n2, bl_up_s, bl_up_j (by omega), bl_up_up] at g2
    refine vc_X2_shareOf_9 _ _ _ _ _ _ _ _ h1 h2 ⟨fun _ => ⟨_, _, g1, _, _, g2, ?_⟩, fun q => absurd (nI_lt hm hn) q⟩
    rw [nI_1]
    rw [hF1 m] at ih
    exact ih
/-- the first of the largest, of indices 0 to m -/
def amF (v : Nat → Int32) : Nat → Int32 × Int32
  | 0 => (nI 0, v 0)
  | m + 1 => ((if (amF v m).2 < v (m + 1) then nI (m + 1) else (amF v m).1), (if (amF v m).2 < v (m + 1) then v (m + 1) else (amF v m).2))
theorem amF_lt (v : Nat → Int32) : ∀ m, ∃ c, c ≤ m ∧ (amF v m).1 = nI c
  | 0 => ⟨0, Nat.le_refl _, rfl⟩
  | m + 1 => by
    obtain ⟨c, h1, h2⟩ := amF_lt v m
    by_cases q : (amF v m).2 < v (m + 1)
    · exact ⟨m + 1, Nat.le_refl _, if_pos q⟩
    · exact ⟨c, by omega, (if_neg q).trans h2⟩
theorem neg1_lt {m : Nat} (h : m < 2 ^ 31) : (-1 : Int32) < nI m := by
  rw [Int32.lt_iff_toInt_lt, nI_toInt h]
  have : (-1 : Int32).toInt = -1 := by decide
  omega
theorem par16 : ∀ k, k < 16 → nI k - nI k / 2 * 2 = nI (k % 2) := by decide
