/-! ODDS -/
def btv (code : Int32) (k : Nat) : Int32 := if ((code >>> (nI k &&& 31)) &&& 1) = 1 then 1 else 0
theorem btv01 (code : Int32) (k : Nat) : btv code k = 0 ∨ btv code k = 1 := by
  unfold btv
  split
  · exact Or.inr rfl
  · exact Or.inl rfl
def ptN (code : Int32) (q : Nat) : Nat → Nat
  | 0 => 1000000000
  | k + 1 => if btv code k = 0 then ptN code q k - ptN code q k * q / 100 else ptN code q k * q / 100
theorem ptN_le (code : Int32) {q : Nat} (hq : q ≤ 100) : ∀ k, ptN code q k ≤ 1000000000
  | 0 => Nat.le_refl _
  | k + 1 => by
    have h := ptN_le code hq k
    unfold ptN
    have : ptN code q k * q / 100 ≤ ptN code q k := by
      refine Nat.div_le_of_le_mul ?_
      rw [Nat.mul_comm 100]
      exact Nat.mul_le_mul_left _ hq
    split <;> omega
theorem part_eq {a q : Nat} (ha : a ≤ 1000000000) (hq : q ≤ 100) : lN a * lN q / 100 = lN (a * q / 100) := by
  have h1 : a * q ≤ 1000000000 * 100 := Nat.mul_le_mul ha hq
  rw [lN_mul, show (100 : Int64) = lN 100 from rfl, pk_lDiv (by omega) (by omega) (by omega)]
theorem c_X11_has (σ : bl_S) (code : Int32) (k : Nat) : bl_Con (bl_mi 102) [.int code, .int (nI k)] σ (some (.int (btv code k))) σ :=
  bl_c (Nat.le_of_ble_eq_true rfl) (vc_X11_has_0 σ _ _ (fun v e => ⟨by rw [e]; exact btv01 code k, by rw [e]; rfl, rfl⟩))
theorem c_X10_partOfRow (σ : bl_S) (code : Int32) {n q : Nat} (hn : n < 100) (hq : q ≤ 100) : bl_Con (bl_mi 86) [.int code, .int (nI n), .int (nI q)] σ (some (.int (nI (ptN code q n)))) σ := by
  refine bl_c (Nat.le_of_ble_eq_true rfl) (vc_X10_partOfRow_0 σ _ _ _ ?_)
  refine bl_dn (N := n) (P := fun k => bl_Wx (bl_mi 86) 7 [(0, .int code), (1, .int (nI n)), (2, .int (nI q)), (3, .int (nI (ptN code q k))), (4, .int (nI k))] [] σ (fun v τ => v = some (.int (nI (ptN code q n))) ∧ τ = σ)) ?_ ?_
  · exact vc_X10_partOfRow_7 σ _ _ _ _ _ ⟨fun c => absurd c (nI_nlt (Nat.le_refl _) (by omega)), fun _ => ⟨rfl, rfl⟩⟩
  · intro k hk ih
    refine vc_X10_partOfRow_7 σ _ _ _ _ _ ⟨fun _ v2 e2 v5 e5 => ?_, fun c => absurd (nI_lt hk (by omega)) c⟩
    have hp := ptN_le code hq k
    rw [nI_l (by omega), nI_l (by omega), part_eq hp hq, lN_i] at e2
    have hd : ptN code q k * q / 100 ≤ ptN code q k := by
      refine Nat.div_le_of_le_mul ?_
      rw [Nat.mul_comm 100]
      exact Nat.mul_le_mul_left _ hq
    have e6 : v5 = nI (ptN code q (k + 1)) := by
      rw [e5, e2]
      show _ = nI (if btv code k = 0 then _ else _)
      unfold btv
      by_cases c : ((code >>> (nI k &&& 31)) &&& 1) = 1
      · rw [if_pos c, if_pos c, if_neg (by decide)]
      · rw [if_neg c, if_neg c, if_pos rfl, pk_sub hd]
    rw [e6, nI_1]
    exact ih
theorem c_X10_ripeAfterRow (σ : bl_S) {j n : Nat} (code : Int32) {rip so fa kd : Int32} {t0 : Int32 × Int32 × Int32} (hj : j < 6) (hn : n < 100) (hLc : Lw rip so fa) (er : rip = σ 11 0) (es : so = σ 11 1) (ef : fa = σ 11 2) (ek : kd = σ (14 + j) 2) (e0 : t0 = (σ (14 + j) 3, σ (14 + j) 4, σ (14 + j) 5)) : ∃ τ, bl_Con (bl_mi 87) [.ref 0, .ref (14 + j), .int code, .int (nI n)] σ (some (.int (d3n rip so fa kd (btv code) t0 n).2.1)) τ ∧ Fr σ τ := by
  have keyC : ∀ s, T3 7 kd (d3n rip so fa kd (btv code) t0 0) s → Fr σ s → ∃ τ, bl_Wx (bl_mi 87) 11 [(0, .ref 0), (1, .ref (14 + j)), (2, .int code), (3, .int (nI n)), (4, .int (nI 0))] [] s (fun v t => v = some (.int (d3n rip so fa kd (btv code) t0 n).2.1) ∧ t = τ) ∧ Fr σ τ := by
    refine bl_dn (N := n) (P := fun m => ∀ s, T3 7 kd (d3n rip so fa kd (btv code) t0 m) s → Fr σ s → ∃ τ, bl_Wx (bl_mi 87) 11 [(0, .ref 0), (1, .ref (14 + j)), (2, .int code), (3, .int (nI n)), (4, .int (nI m))] [] s (fun v t => v = some (.int (d3n rip so fa kd (btv code) t0 n).2.1) ∧ t = τ) ∧ Fr σ τ) ?_ ?_
    · intro s h3 hF
      exact ⟨s, vc_X10_ripeAfterRow_11 s _ _ _ _ (kdb j hj) ⟨fun q => absurd q (nI_nlt (Nat.le_refl _) (by omega)), fun _ => ⟨by rw [h3.2.2.1], rfl⟩⟩, hF⟩
    · intro m hm ih s h3 hF
      have h11 : s 11 = σ 11 := hF 11 (by decide)
      have hc := c_X1_passDay s (b := 7) (w := 11) (btv code m) rfl rfl (by rw [h11, ← er, ← es, ← ef]; exact hLc.told) (by rw [h11, ← er]; exact hLc.dmz _) (by rw [h11, ← es]; exact hLc.nz.2.1) (by rw [h11, ← ef]; exact hLc.nz.2.2)
      rw [h11, ← er, ← es, ← ef] at hc
      have h3' : T3 7 kd (d3n rip so fa kd (btv code) t0 (m + 1)) (bl_day s 7 rip so fa (btv code m)) := h3.day
      obtain ⟨τ, hW, hF2⟩ := ih _ h3' (hF.day (by decide))
      refine ⟨τ, vc_X10_ripeAfterRow_11 s _ _ _ _ (kdb j hj) ⟨fun _ v e => ?_, fun q => absurd (nI_lt hm (by omega)) q⟩, hF2⟩
      have e : v = btv code m := e
      rw [e, nI_1]
      exact ⟨_, hc, hW⟩
  have hT0 : T3 7 kd (d3n rip so fa kd (btv code) t0 0) (bl_cp 6 σ 7 (14 + j)) := by
    show T3 7 kd t0 _
    rw [e0]
    exact ⟨by rw [bl_cp_s (by omega), ek], by rw [bl_cp_s (by omega)], by rw [bl_cp_s (by omega)], by rw [bl_cp_s (by omega)]⟩
  obtain ⟨τ, hW, hF⟩ := keyC _ hT0 (Fr.rf.cp (by decide))
  exact ⟨τ, bl_c (Nat.le_of_ble_eq_true rfl) (vc_X10_ripeAfterRow_0 σ _ _ _ (kdb j hj) ⟨_, c_X1_copyFrom σ (a := 7) (b := 14 + j) rfl (kdb j hj), hW⟩), hF⟩
/-- the sum of the parts of those rows of days that leave enough -/
def odF (R : Nat → Int32) (p : Nat → Nat) (mm : Int32) : Nat → Int32
  | 0 => 0
  | k + 1 => if R k < mm then odF R p mm k else odF R p mm k + nI (p k)
def odL (R : Nat → Int32) (p : Nat → Nat) (mm : Int32) : Nat → Int64
  | 0 => 0
  | k + 1 => odL R p mm k + (if R k < mm then 0 else lN (p k))
theorem odL_eq (R : Nat → Int32) (p : Nat → Nat) (mm : Int32) : ∀ k, (odL R p mm k).toInt32 = odF R p mm k
  | 0 => rfl
  | k + 1 => by
    show (odL R p mm k + (if R k < mm then 0 else lN (p k))).toInt32 = if R k < mm then odF R p mm k else odF R p mm k + nI (p k)
    split
    · rw [Int64.add_zero, odL_eq]
    · rw [Int64.toInt32_add, odL_eq, lN_i]
theorem sh_n : ∀ n, n < 9 → (1 : Int32) <<< (nI n &&& 31) = nI (2 ^ n) := by decide
theorem pr_odds {σ : bl_S} (h : Inv σ) (x y z w : Int32) : Pr 88 158 [.int x, .int y, .int z, .int w] σ := by
  obtain ⟨nb, np, nt, a, b, c, hl, hb, hp, hz, ht, hs', hm'⟩ := id h
  have hn := hl.1
  have hn2 := hl.2.1
  by_cases f : wi x 0 (nI nb - 1) = 0
  · exact ⟨-1000000001, σ, σ, bl_c (Nat.le_of_ble_eq_true rfl) (vc_X10_odds_0 σ x y z w ⟨_, _, g69 hl x, fun _ => ⟨rfl, rfl⟩, fun q => absurd f q⟩), bl_c (Nat.le_of_ble_eq_true rfl) (vc_X11_odds_0 σ x y z w ⟨_, _, g103 hl x, fun _ => ⟨rfl, rfl⟩, fun q => absurd f q⟩), h⟩
  by_cases g1 : wi y 0 999 = 0
  · exact ⟨-1000000002, σ, σ, bl_c (Nat.le_of_ble_eq_true rfl) (vc_X10_odds_0 σ x y z w ⟨_, _, g69 hl x, fun q => absurd q f, fun _ => ⟨_, _, c_X10_within σ y 0 999, fun _ => ⟨rfl, rfl⟩, fun q => absurd g1 q⟩⟩), bl_c (Nat.le_of_ble_eq_true rfl) (vc_X11_odds_0 σ x y z w ⟨_, _, g103 hl x, fun q => absurd q f, fun _ => ⟨_, _, c_X11_in σ y 0 999 (by decide) (by decide), fun _ => ⟨rfl, rfl⟩, fun q => absurd g1 q⟩⟩), h⟩
  by_cases g2 : wi z 1 8 = 0
  · exact ⟨-1000000002, σ, σ, bl_c (Nat.le_of_ble_eq_true rfl) (vc_X10_odds_0 σ x y z w ⟨_, _, g69 hl x, fun q => absurd q f, fun _ => ⟨_, _, c_X10_within σ y 0 999, fun q => absurd q g1, fun _ => ⟨_, _, c_X10_within σ z 1 8, fun _ => ⟨rfl, rfl⟩, fun q => absurd g2 q⟩⟩⟩), bl_c (Nat.le_of_ble_eq_true rfl) (vc_X11_odds_0 σ x y z w ⟨_, _, g103 hl x, fun q => absurd q f, fun _ => ⟨_, _, c_X11_in σ y 0 999 (by decide) (by decide), fun q => absurd q g1, fun _ => ⟨_, _, c_X11_in σ z 1 8 (by decide) (by decide), fun _ => ⟨rfl, rfl⟩, fun q => absurd g2 q⟩⟩⟩), h⟩
  by_cases g3 : wi w 0 100 = 0
  · exact ⟨-1000000002, σ, σ, bl_c (Nat.le_of_ble_eq_true rfl) (vc_X10_odds_0 σ x y z w ⟨_, _, g69 hl x, fun q => absurd q f, fun _ => ⟨_, _, c_X10_within σ y 0 999, fun q => absurd q g1, fun _ => ⟨_, _, c_X10_within σ z 1 8, fun q => absurd q g2, fun _ => ⟨_, _, c_X10_within σ w 0 100, fun _ => ⟨rfl, rfl⟩, fun q => absurd g3 q⟩⟩⟩⟩), bl_c (Nat.le_of_ble_eq_true rfl) (vc_X11_odds_0 σ x y z w ⟨_, _, g103 hl x, fun q => absurd q f, fun _ => ⟨_, _, c_X11_in σ y 0 999 (by decide) (by decide), fun q => absurd q g1, fun _ => ⟨_, _, c_X11_in σ z 1 8 (by decide) (by decide), fun q => absurd q g2, fun _ => ⟨_, _, c_X11_in σ w 0 100 (by decide) (by decide), fun _ => ⟨rfl, rfl⟩, fun q => absurd g3 q⟩⟩⟩⟩), h⟩
  obtain ⟨j, hj, rfl⟩ := wi_n (by omega) f
  obtain ⟨n, n1, n2, rfl⟩ := wi_c (a := 1) (b := 8) (by omega) (by omega) g2
  obtain ⟨q, -, q2, rfl⟩ := wi_c (a := 0) (b := 100) (by omega) (by omega) g3
  have j6 : j < 6 := by omega
  have rj := (hb j hj).1
  have l0 := hl.2.2.2.2.2.2.1 0 (by omega)
  have l1 := hl.2.2.2.2.2.2.1 1 (by omega)
  have l2 := hl.2.2.2.2.2.2.1 2 (by omega)
  have hL : Lw (σ 1 0) (σ 1 1) (σ 1 2) := by
    rcases hl.2.2.2.2.2.2.2.2.2.2.1 with q | q
    · exact q
    · omega
  have hLc : Lw (σ 11 0) (σ 11 1) (σ 11 2) := by rw [l0, l1, l2]; exact hL
  obtain ⟨rip, er⟩ : ∃ v, v = σ 11 0 := ⟨_, rfl⟩
  obtain ⟨so, es⟩ : ∃ v, v = σ 11 1 := ⟨_, rfl⟩
  obtain ⟨fa, ef⟩ : ∃ v, v = σ 11 2 := ⟨_, rfl⟩
  obtain ⟨kd, ek⟩ : ∃ v, v = σ (14 + j) 2 := ⟨_, rfl⟩
  obtain ⟨t0, e0⟩ : ∃ t : Int32 × Int32 × Int32, t = (σ (14 + j) 3, σ (14 + j) 4, σ (14 + j) 5) := ⟨_, rfl⟩
  rw [← er, ← es, ← ef] at hLc
  obtain ⟨R, hR⟩ : ∃ R : Nat → Int32, ∀ k, R k = (d3n rip so fa kd (btv (nI k)) t0 n).2.1 := ⟨_, fun _ => rfl⟩
  obtain ⟨pt, hpt⟩ : ∃ pt : Nat → Nat, ∀ k, pt k = ptN (nI k) q n := ⟨_, fun _ => rfl⟩
  have h2n : 2 ^ n ≤ 256 := by
    have : 2 ^ n ≤ 2 ^ 8 := Nat.pow_le_pow_right (by omega) n2
    exact this
  have hsh := sh_n n (by omega)
  -- the class
  have keyC : ∀ s, Fr σ s → ∃ τ, bl_Wx (bl_mi 88) 52 [(0, .ref 0), (1, .int (nI j)), (2, .int y), (3, .int (nI n)), (4, .int (nI q)), (5, .int (odF R pt y 0)), (6, .int (nI 0))] [] s (fun v t => v = some (.int (odF R pt y (2 ^ n))) ∧ t = τ) ∧ Fr σ τ := by
    refine bl_dn (N := 2 ^ n) (P := fun m => ∀ s, Fr σ s → ∃ τ, bl_Wx (bl_mi 88) 52 [(0, .ref 0), (1, .int (nI j)), (2, .int y), (3, .int (nI n)), (4, .int (nI q)), (5, .int (odF R pt y m)), (6, .int (nI m))] [] s (fun v t => v = some (.int (odF R pt y (2 ^ n))) ∧ t = τ) ∧ Fr σ τ) ?_ ?_
    · intro s hF
      refine ⟨s, vc_X10_odds_52 _ _ _ _ _ _ _ ⟨fun q => absurd q ?_, fun _ => ⟨rfl, rfl⟩⟩, hF⟩
      rw [hsh]
      exact nI_nlt (Nat.le_refl _) (by omega)
    · intro m hm ih s hF
      have h11 : s 11 = σ 11 := hF 11 (by decide)
      have h14 : s (14 + j) = σ (14 + j) := hF (14 + j) (sc14 j6)
      obtain ⟨τ1, hc, hF1⟩ := c_X10_ripeAfterRow s (j := j) (n := n) (nI m) (rip := rip) (so := so) (fa := fa) (kd := kd) (t0 := t0) j6 (by omega) hLc (by rw [h11]; exact er) (by rw [h11]; exact es) (by rw [h11]; exact ef) (by rw [h14]; exact ek) (by rw [h14]; exact e0)
      obtain ⟨τ, hW, hF2⟩ := ih τ1 (hF.tr hF1)
      refine ⟨τ, vc_X10_odds_52 _ _ _ _ _ _ _ ⟨fun _ => ⟨_, _, c_X10_partOfRow s (nI m) (by omega) q2, vib j6, ?_⟩, fun q => absurd ?_ q⟩, hF2⟩
      · rw [ntb j6]
        refine ⟨_, _, hc, fun v e => ?_⟩
        rw [← hR, ← hpt] at e
        rw [e, nI_1]
        exact hW
      · rw [hsh]
        exact nI_lt hm (by omega)
  obtain ⟨τ, hW, hF⟩ := keyC σ Fr.rf
  have conC : bl_Con (bl_mi 88) [.ref 0, .int (nI j), .int y, .int (nI n), .int (nI q)] σ (some (.int (odF R pt y (2 ^ n)))) τ :=
    bl_c (Nat.le_of_ble_eq_true rfl) (vc_X10_odds_0 σ _ _ _ _ ⟨_, _, g69 hl _, fun q => absurd q f, fun _ => ⟨_, _, c_X10_within σ _ 0 999, fun q => absurd q g1, fun _ => ⟨_, _, c_X10_within σ _ 1 8, fun q => absurd q g2, fun _ => ⟨_, _, c_X10_within σ _ 0 100, fun q => absurd q g3, fun _ => hW⟩⟩⟩⟩)
  -- the reference
  have t1 : τ 1 = σ 1 := hF 1 (by decide)
  have hl2 : Jl nb np τ := hl.fr (hF 10 (by decide)) (hF 11 (by decide)) (fun k _ => by rw [t1])
  have backM : ∀ s, TM j σ s → M3 j t0 (pbM j s) := by
    intro s hT
    have hB := hT.back
    rw [e0]
    exact ⟨by rw [hB 105 (by decide)]; exact (rj 3 (by omega)).symm, by rw [hB 106 (by decide)]; exact (rj 4 (by omega)).symm, by rw [hB 107 (by decide)]; exact (rj 5 (by omega)).symm⟩
  have backT : ∀ s, TM j σ s → TM j σ (pbM j s) := by
    intro s hT
    have hB := hT.back
    obtain ⟨h1, h2, h3, h4, h5⟩ := hT
    refine ⟨fun d hd _ _ _ => hB d hd, fun d j' hd hj' => ?_, ?_, ?_, ?_⟩
    · rcases hd with rfl | rfl | rfl
      · rw [hB 105 (by decide)]
      · rw [hB 106 (by decide)]
      · rw [hB 107 (by decide)]
    · unfold pbM
      rw [bl_up_c (by omega), bl_up_c (by omega), bl_up_c (by omega)]; exact h3
    · unfold pbM
      rw [bl_up_c (by omega), bl_up_c (by omega), bl_up_c (by omega)]; exact h4
    · unfold pbM
      rw [bl_up_c (by omega), bl_up_c (by omega), bl_up_c (by omega)]; exact h5
  have keyM : ∀ s, M3 j t0 s → TM j σ s → Fr σ s → ∃ υ, bl_Wx (bl_mi 158) 61 [(0, .ref 1), (1, .int (nI j)), (2, .int y), (3, .int (nI n)), (4, .int (nI q)), (5, .long (odL R pt y 0)), (7, .int (nI 0))] [] s (fun v t => v = some (.int (odF R pt y (2 ^ n))) ∧ t = υ) ∧ Fr σ υ := by
    refine bl_dn (N := 2 ^ n) (P := fun m => ∀ s, M3 j t0 s → TM j σ s → Fr σ s → ∃ υ, bl_Wx (bl_mi 158) 61 [(0, .ref 1), (1, .int (nI j)), (2, .int y), (3, .int (nI n)), (4, .int (nI q)), (5, .long (odL R pt y m)), (7, .int (nI m))] [] s (fun v t => v = some (.int (odF R pt y (2 ^ n))) ∧ t = υ) ∧ Fr σ υ) ?_ ?_
    · intro s h3 hT hF
      refine ⟨s, vc_X11_odds_61 _ _ _ _ _ _ _ ⟨fun q => absurd q ?_, fun _ => ⟨by rw [odL_eq], rfl⟩⟩, hF⟩
      rw [hsh]
      exact nI_nlt (Nat.le_refl _) (by omega)
    · intro m hm ih s h3 hT hFs
      -- the days of one row
      have inner : ∀ s, M3 j (d3n rip so fa kd (btv (nI m)) t0 0) s → TM j σ s → ∃ υ, bl_Wx (bl_mi 158) 77 [(0, .ref 1), (1, .int (nI j)), (2, .int y), (3, .int (nI n)), (4, .int (nI q)), (5, .long (odL R pt y m)), (7, .int (nI m)), (8, .long (lN (ptN (nI m) q 0))), (10, .int (nI 0))] [] s (fun v t => v = some (.int (odF R pt y (2 ^ n))) ∧ t = υ) ∧ Fr σ υ := by
        refine bl_dn (N := n) (P := fun k => ∀ s, M3 j (d3n rip so fa kd (btv (nI m)) t0 k) s → TM j σ s → ∃ υ, bl_Wx (bl_mi 158) 77 [(0, .ref 1), (1, .int (nI j)), (2, .int y), (3, .int (nI n)), (4, .int (nI q)), (5, .long (odL R pt y m)), (7, .int (nI m)), (8, .long (lN (ptN (nI m) q k))), (10, .int (nI k))] [] s (fun v t => v = some (.int (odF R pt y (2 ^ n))) ∧ t = υ) ∧ Fr σ υ) ?_ ?_
        · intro s h3 hT
          obtain ⟨υ, hW, hF2⟩ := ih (pbM j s) (backM s hT) (backT s hT) hT.back
          refine ⟨υ, vc_X11_odds_77 _ _ _ _ _ _ _ _ _ ⟨fun q => absurd q (nI_nlt (Nat.le_refl _) (by omega)), fun _ => ⟨vib j6, fun w42 e => ⟨_, c_X11_putBack s j6, ?_⟩⟩⟩, hF2⟩
          rw [ntb j6, h3.2.1, ← hR, ← hpt] at e
          rw [e, nI_1]
          exact hW
        · intro k hk ih2 s h3 hT
          have h1 : s 1 = σ 1 := hT.1 1 (by decide) (by omega) (by omega) (by omega)
          have h104 : s 104 j = kd := by rw [hT.1 104 (by decide) (by omega) (by omega) (by omega), ek]; exact (rj 2 (by omega)).symm
          have hc := c_X11_ripen s (b := j) (btv (nI m) k) j6 (by rw [h1]; exact hL)
          rw [h1, ← l0, ← l1, ← l2, ← er, ← es, ← ef] at hc
          have h3' : M3 j (d3n rip so fa kd (btv (nI m)) t0 (k + 1)) (rpM rip so fa (btv (nI m) k) j s) := h3.day h104
          obtain ⟨υ, hW, hF2⟩ := ih2 _ h3' hT.day
          refine ⟨υ, vc_X11_odds_77 _ _ _ _ _ _ _ _ _ ⟨fun _ => ⟨_, _, c_X11_has s (nI m) k, fun w31 e31 => ⟨_, _, c_X11_has s (nI m) k, _, hc, ?_⟩⟩, fun q => absurd (nI_lt hk (by omega)) q⟩, hF2⟩
          have hp := ptN_le (nI m) q2 k
          have hd : ptN (nI m) q k * q / 100 ≤ ptN (nI m) q k := by
            refine Nat.div_le_of_le_mul ?_
            rw [Nat.mul_comm 100]
            exact Nat.mul_le_mul_left _ q2
          rw [nI_l (by omega), part_eq hp q2] at e31
          have e : w31 = lN (ptN (nI m) q (k + 1)) := by
            rw [e31]
            show _ = lN (if btv (nI m) k = 0 then _ else _)
            split
            · rw [lN_sub hd]
            · rfl
          rw [e, nI_1]
          exact hW
      obtain ⟨υ, hW, hF2⟩ := inner s h3 hT
      refine ⟨υ, vc_X11_odds_61 _ _ _ _ _ _ _ ⟨fun _ => hW, fun q => absurd ?_ q⟩, hF2⟩
      rw [hsh]
      exact nI_lt hm (by omega)
  have hT0 : TM j σ (svM nb τ) := TM.fr hF (TM.save hj)
  have hM0 : M3 j t0 (svM nb τ) := by
    rw [e0]
    refine ⟨?_, ?_, ?_⟩
    · rw [svM_c (by omega), hF 105 (by decide)]; exact (rj 3 (by omega)).symm
    · rw [svM_c (by omega), hF 106 (by decide)]; exact (rj 4 (by omega)).symm
    · rw [svM_c (by omega), hF 107 (by decide)]; exact (rj 5 (by omega)).symm
  have hF0 : Fr σ (svM nb τ) := hF.tr (fun d hd => svM_c (by
    refine ⟨?_, ?_, ?_⟩ <;> · intro e; rw [e] at hd; exact absurd hd (by decide)))
  obtain ⟨υ, hWm, hFm⟩ := keyM _ hM0 hT0 hF0
  exact ⟨_, τ, υ, conC, bl_c (Nat.le_of_ble_eq_true rfl) (vc_X11_odds_0 _ _ _ _ _ ⟨_, _, g103 hl2 _, fun q => absurd q f, fun _ => ⟨_, _, c_X11_in _ _ 0 999 (by decide) (by decide), fun q => absurd q g1, fun _ => ⟨_, _, c_X11_in _ _ 1 8 (by decide) (by decide), fun q => absurd q g2, fun _ => ⟨_, _, c_X11_in _ _ 0 100 (by decide) (by decide), fun q => absurd q g3, fun _ => ⟨_, c_X11_save _ hn (by rw [t1]; exact hl.2.2.2.1), hWm⟩⟩⟩⟩⟩), h.fr hFm⟩
