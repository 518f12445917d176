/-! VISITED: pure words, and the small contracts -/
def lbd (σ : bl_S) (x d t : Int32) (k : Nat) : Bool := decide (σ 135 k = x) && (decide (σ 136 k = d) && !decide (σ 137 k = t))
def okF (σ : bl_S) (n : Nat) (x d t : Int32) : Int32 := nbF (lbd σ x d t) n 0
abbrev I3 : Type := Int32 × Int32 × Int32
/-- from day d on, k days: the bush agrees with what was left -/
def aF (ok : Nat → Int32 → Int32) (day : I3 → I3) : Nat → Nat → I3 → Int32
  | 0, _, _ => 1
  | k + 1, d, t => if ok d t.2.1 = 0 then 0 else aF ok day k (d + 1) (day t)
/-- the reference's way: from day d on, k days, a visit at day v that takes y -/
def vF (ok : Nat → Int32 → Int32) (day : I3 → I3) (v : Nat) (y : Int32) : Nat → Nat → I3 → Int32
  | 0, _, _ => 1
  | k + 1, d, t => if d = v then (if (if d = 0 then t else day t).2.1 < y then 0 else if ok d ((if d = 0 then t else day t).2.1 - y) = 0 then 0 else vF ok day v y k (d + 1) ((if d = 0 then t else day t).1, (if d = 0 then t else day t).2.1 - y, (if d = 0 then t else day t).2.2)) else (if ok d (if d = 0 then t else day t).2.1 = 0 then 0 else vF ok day v y k (d + 1) (if d = 0 then t else day t))
def preF (okU : Nat → Int32) (fin : Int32) : Nat → Nat → Int32
  | 0, _ => fin
  | k + 1, d => if okU d = 0 then 0 else preF okU fin k (d + 1)
theorem preF_ok {okU : Nat → Int32} {fin : Int32} : ∀ k d, (∀ i, d ≤ i → i < d + k → ¬ okU i = 0) → preF okU fin k d = fin
  | 0, _, _ => rfl
  | k + 1, d, h => by
    unfold preF
    rw [if_neg (h d (Nat.le_refl _) (by omega))]
    exact preF_ok k (d + 1) (fun i h1 h2 => h i (by omega) (by omega))
theorem preF_bad {okU : Nat → Int32} {fin : Int32} : ∀ k d i, d ≤ i → i < d + k → okU i = 0 → preF okU fin k d = 0
  | 0, d, i, h1, h2, _ => by omega
  | k + 1, d, i, h1, h2, h3 => by
    unfold preF
    by_cases e : okU d = 0
    · rw [if_pos e]
    · rw [if_neg e]
      have : i ≠ d := fun z => e (by rw [← z]; exact h3)
      exact preF_bad k (d + 1) i (by omega) (by omega) h3
theorem vF_after {ok : Nat → Int32 → Int32} {day : I3 → I3} {v : Nat} {y : Int32} : ∀ k d t, v < d → vF ok day v y k d t = aF ok day k d (day t)
  | 0, _, _, _ => rfl
  | k + 1, d, t, h => by
    have e1 : (if d = 0 then t else day t) = day t := if_neg (by omega)
    unfold vF aF
    rw [if_neg (show ¬ d = v by omega), e1]
    by_cases q : ok d (day t).2.1 = 0
    · rw [if_pos q, if_pos q]
    · rw [if_neg q, if_neg q, vF_after k (d + 1) (day t) (by omega)]
theorem vF_at {ok : Nat → Int32 → Int32} {day : I3 → I3} {v : Nat} {y : Int32} {U : Nat → I3} (hU : ∀ n, U (n + 1) = day (U n)) (hv : v ≤ 9) : ∀ k d, d + k = v → vF ok day v y (10 - d) d (U (d - 1)) = preF (fun i => ok i (U i).2.1) (if (U v).2.1 < y then 0 else aF ok day (10 - v) v ((U v).1, (U v).2.1 - y, (U v).2.2)) k d
  | 0, d, h => by
    have hd : d = v := by omega
    subst hd
    have e1 : (if d = 0 then U (d - 1) else day (U (d - 1))) = U d := by
      cases d with
      | zero => rfl
      | succ n => rw [if_neg (by omega), hU]; rfl
    rw [show 10 - d = (9 - d) + 1 by omega]
    unfold vF preF aF
    rw [if_pos rfl, e1, vF_after (9 - d) (d + 1) _ (by omega)]
  | k + 1, d, h => by
    have e1 : (if d = 0 then U (d - 1) else day (U (d - 1))) = U d := by
      cases d with
      | zero => rfl
      | succ n => rw [if_neg (by omega), hU]; rfl
    rw [show 10 - d = (10 - (d + 1)) + 1 by omega]
    unfold vF preF
    rw [if_neg (by omega), e1]
    have ih := vF_at (ok := ok) (y := y) hU hv k (d + 1) (by omega)
    rw [show d + 1 - 1 = d from rfl] at ih
    rw [ih]
/-- counts of visits, and the sought one -/
def cnV (w : Nat → Bool) : Nat → Nat
  | 0 => 0
  | k + 1 => if w k then cnV w k + 1 else cnV w k
def svV (w : Nat → Bool) (cd : Nat → Int32) (x : Int32) : Nat → Int32
  | 0 => -1
  | k + 1 => if w k then (if nI (cnV w k) = x then cd k else svV w cd x k) else svV w cd x k
theorem cnV_le (w : Nat → Bool) : ∀ k, cnV w k ≤ k
  | 0 => Nat.le_refl _
  | k + 1 => by
    unfold cnV
    have := cnV_le w k
    split <;> omega
theorem cnV_mono (w : Nat → Bool) {i : Nat} : ∀ k, cnV w i ≤ cnV w (i + k)
  | 0 => Nat.le_refl _
  | k + 1 => by
    have := cnV_mono w (i := i) k
    show _ ≤ if w (i + k) then cnV w (i + k) + 1 else cnV w (i + k)
    split <;> omega
theorem cnV_skip {w : Nat → Bool} {cd : Nat → Int32} {x : Int32} {i : Nat} : ∀ k, (∀ m, i ≤ m → m < i + k → w m = false) → cnV w (i + k) = cnV w i ∧ svV w cd x (i + k) = svV w cd x i
  | 0, _ => ⟨rfl, rfl⟩
  | k + 1, h => by
    obtain ⟨h1, h2⟩ := cnV_skip (w := w) (cd := cd) (x := x) (i := i) k (fun m a b => h m a (by omega))
    have hw := h (i + k) (by omega) (by omega)
    refine ⟨?_, ?_⟩
    · show (if w (i + k) then cnV w (i + k) + 1 else cnV w (i + k)) = _
      rw [hw]
      exact h1
    · show (if w (i + k) then (if nI (cnV w (i + k)) = x then cd (i + k) else svV w cd x (i + k)) else svV w cd x (i + k)) = _
      rw [hw]
      exact h2
theorem svV_found {w : Nat → Bool} {cd : Nat → Int32} {x : Int32} {i : Nat} (hw : w i = true) (hx : nI (cnV w i) = x) : ∀ k, i + 1 + k < 2000 → svV w cd x (i + 1 + k) = cd i
  | 0, _ => by
    show (if w i then (if nI (cnV w i) = x then cd i else svV w cd x i) else svV w cd x i) = _
    rw [hw, if_pos rfl, if_pos hx]
  | k + 1, h => by
    have ih := svV_found (cd := cd) hw hx k (by omega)
    show (if w (i + 1 + k) then (if nI (cnV w (i + 1 + k)) = x then cd (i + 1 + k) else svV w cd x (i + 1 + k)) else svV w cd x (i + 1 + k)) = _
    have hne : ¬ nI (cnV w (i + 1 + k)) = x := by
      rw [← hx]
      have l1 := cnV_le w (i + 1 + k)
      have l2 := cnV_le w i
      have l3 := cnV_mono w (i := i + 1) k
      have l4 : cnV w (i + 1) = cnV w i + 1 := by
        show (if w i then cnV w i + 1 else cnV w i) = _
        rw [hw]
        rfl
      rw [nI_eq (by omega) (by omega)]
      omega
    rw [if_neg hne, ite_self]
    exact ih
theorem c_X8_agreesOnDay {σ s : bl_S} {nb np a b c cl : Nat} (hs' : Js nb np a b c σ) (hF : Fr σ s) (hk : bl_kd cl = 1) (x d : Int32) : bl_Con (bl_mi 57) [.ref 6, .ref cl, .int x, .int d] s (some (.int (okF σ a x d (s cl 4)))) s := by
  obtain ⟨ha8, -, -, h83, -, -, -, -, -, -, -, -, hen, -⟩ := hs'
  refine bl_c (Nat.le_of_ble_eq_true rfl) (vc_X8_agreesOnDay_0 s _ _ _ hk ?_)
  refine bl_dn (N := a) (P := fun m => bl_Wx (bl_mi 57) 3 [(0, .ref 6), (1, .ref cl), (2, .int x), (3, .int d), (4, .int (nI m))] [] s (fun v τ => v = some (.int (nbF (lbd σ x d (s cl 4)) (a - m) m)) ∧ τ = s)) ?_ ?_
  · refine vc_X8_agreesOnDay_3 _ _ _ _ _ hk ⟨fun q => absurd q ?_, fun _ => ⟨by rw [Nat.sub_self]; rfl, rfl⟩⟩
    rw [hF 83 (by decide), h83]
    exact nI_nlt (Nat.le_refl _) (by omega)
  · intro m hm ih
    obtain ⟨e1, e2, e3, -⟩ := hen m hm
    have m20 : Int32.toNatClampNeg (nI m) = m := nI_clamp (by omega)
    have hnb : nbF (lbd σ x d (s cl 4)) (a - m) m = if lbd σ x d (s cl 4) m then 0 else nbF (lbd σ x d (s cl 4)) (a - (m + 1)) (m + 1) := by
      rw [show a - m = (a - (m + 1)) + 1 by omega]
      rfl
    rw [hnb]
    refine vc_X8_agreesOnDay_3 _ _ _ _ _ hk ⟨fun _ => ⟨vp_in_nI (by omega) (by omega), ?_⟩, fun q => absurd ?_ q⟩
    · rw [m20, hF 91 (by decide), hF 92 (by decide), hF 93 (by decide), e1, e2, e3, nI_1]
      by_cases q1 : σ 135 m = x
      · by_cases q2 : σ 136 m = d
        · by_cases q3 : σ 137 m = s cl 4
          · have hb : lbd σ x d (s cl 4) m = false := by simp [lbd, q3]
            rw [hb]
            exact ⟨fun _ => ⟨fun _ => ⟨fun _ => ih, fun z => absurd q3 z⟩, fun z => absurd q2 z⟩, fun z => absurd q1 z⟩
          · have hb : lbd σ x d (s cl 4) m = true := by simp [lbd, q1, q2, q3]
            rw [hb]
            exact ⟨fun _ => ⟨fun _ => ⟨fun z => absurd z q3, fun _ => ⟨rfl, rfl⟩⟩, fun z => absurd q2 z⟩, fun z => absurd q1 z⟩
        · have hb : lbd σ x d (s cl 4) m = false := by simp [lbd, q2]
          rw [hb]
          exact ⟨fun _ => ⟨fun z => absurd z q2, fun _ => ih⟩, fun z => absurd q1 z⟩
      · have hb : lbd σ x d (s cl 4) m = false := by simp [lbd, q1]
        rw [hb]
        exact ⟨fun z => absurd z q1, fun _ => ih⟩
    · rw [hF 83 (by decide), h83]
      exact nI_lt hm (by omega)
theorem c_X11_isLeft {σ s : bl_S} {a j : Nat} (ha : a ≤ 8) (h1 : s 1 49 = nI a) (e135 : s 135 = σ 135) (e136 : s 136 = σ 136) (e137 : s 137 = σ 137) (j6 : j < 6) (d : Int32) : bl_Con (bl_mi 162) [.ref 1, .int (nI j), .int d] s (some (.int (okF σ a (nI j) d (s 106 j)))) s := by
  refine bl_c (Nat.le_of_ble_eq_true rfl) (vc_X11_isLeft_0 s _ _ ?_)
  have key : ∀ f : Int32, f = 0 ∨ f = 1 → bl_Wx (bl_mi 162) 5 [(0, .ref 1), (1, .int (nI j)), (2, .int d), (3, .int f), (4, .int (nI 0))] [] s (fun v τ => v = some (.int (if f = 0 then 0 else nbF (lbd σ (nI j) d (s 106 j)) (a - 0) 0)) ∧ τ = s) := by
    refine bl_dn (N := a) (P := fun m => ∀ f : Int32, f = 0 ∨ f = 1 → bl_Wx (bl_mi 162) 5 [(0, .ref 1), (1, .int (nI j)), (2, .int d), (3, .int f), (4, .int (nI m))] [] s (fun v τ => v = some (.int (if f = 0 then 0 else nbF (lbd σ (nI j) d (s 106 j)) (a - m) m)) ∧ τ = s)) ?_ ?_
    · intro f hf
      refine vc_X11_isLeft_5 _ _ _ _ _ ⟨fun q => absurd q ?_, fun _ => ⟨hf, ?_, rfl⟩⟩
      · rw [h1]
        exact nI_nlt (Nat.le_refl _) (by omega)
      · rw [Nat.sub_self]
        rcases hf with rfl | rfl
        · rfl
        · rfl
    · intro m hm ih f hf
      have m20 : Int32.toNatClampNeg (nI m) = m := nI_clamp (by omega)
      have hnb : nbF (lbd σ (nI j) d (s 106 j)) (a - m) m = if lbd σ (nI j) d (s 106 j) m then 0 else nbF (lbd σ (nI j) d (s 106 j)) (a - (m + 1)) (m + 1) := by
        rw [show a - m = (a - (m + 1)) + 1 by omega]
        rfl
      rw [hnb]
      refine vc_X11_isLeft_5 _ _ _ _ _ ⟨fun _ => ⟨fun _ => ⟨vp_in_nI (by omega) (by omega), fun _ _ => vib j6⟩, fun v e => ?_⟩, fun q => absurd ?_ q⟩
      · rw [m20, ntb j6, e135, e136, e137] at e
        rw [nI_1]
        have hv : v = 0 ∨ v = 1 := by
          rw [e]
          (repeat' split) <;> first | exact Or.inl rfl | exact Or.inr rfl
        have hr : (if f = 0 then 0 else if lbd σ (nI j) d (s 106 j) m = true then 0 else nbF (lbd σ (nI j) d (s 106 j)) (a - (m + 1)) (m + 1)) = if v = 0 then 0 else nbF (lbd σ (nI j) d (s 106 j)) (a - (m + 1)) (m + 1) := by
          rw [e]
          by_cases q0 : f = 0
          · simp [q0]
          · by_cases q1 : σ 135 m = nI j
            · by_cases q2 : σ 136 m = d
              · by_cases q3 : σ 137 m = s 106 j
                · simp [lbd, q0, q1, q2, q3]
                · simp [lbd, q0, q1, q2, q3]
              · simp [lbd, q0, q1, q2]
            · simp [lbd, q0, q1]
        rw [hr]
        exact ih v hv
      · rw [h1]
        exact nI_lt hm (by omega)
  exact key 1 (Or.inr rfl)
theorem TM.pb {b : Nat} {σ s : bl_S} (h : TM b σ s) : TM b σ (pbM b s) := by
  obtain ⟨h1, h2, h3, h4, h5⟩ := h
  exact ⟨fun d hd a1 a2 a3 => by rw [pbM_c ⟨a1, a2, a3⟩]; exact h1 d hd a1 a2 a3, fun d j hd hj => by rw [pbM_j hj]; exact h2 d j hd hj, by rw [pbM_c (by omega)]; exact h3, by rw [pbM_c (by omega)]; exact h4, by rw [pbM_c (by omega)]; exact h5⟩
