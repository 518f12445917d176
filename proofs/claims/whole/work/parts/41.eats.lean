/-! eats -/
theorem TA.tm {nb b : Nat} {σ s : bl_S} (hb : b < nb) (h : TA nb σ s) (f : Fr σ s) : TM b σ s :=
  ⟨h.1, fun d j hd _ => by rw [f d (by rcases hd with rfl | rfl | rfl <;> decide)], h.2.2 b hb⟩
theorem c_X11_isCan (s : bl_S) {k p b n : Nat} (e : Int32) (hk : k < 8) (hp : p < 4) (hb : b < 6) (h8 : s 138 k = nI p) (h9 : s 139 k = nI b) (h0 : s 140 k = nI n) (hn : n ≤ 30) : bl_Con (bl_mi 166) [.ref 1, .int (nI k), .int e] s (some (.int (if gs (s 110 p) (s 112 p) (s 104 b) e (s 106 b) n = s 141 k then 1 else 0))) (pbM b (bl_up s 106 b (hs (s 110 p) (s 112 p) (s 104 b) (s 106 b) n))) := by
  have hk8 : Int32.toNatClampNeg (nI k) = k := nI_clamp (by omega)
  have v8 : vp_in (nI k) 8 := vp_in_nI (by omega) (by omega)
  have hc : ∀ v d, d ≠ 106 → bl_up s 106 b v d = s d := fun v d hd => bl_up_ne hd
  refine bl_c (Nat.le_of_ble_eq_true rfl) (vc_X11_isCan_0 s _ _ ?_)
  have key := bl_dn (N := n) (P := fun i => bl_Wx (bl_mi 166) 5 [(0, .ref 1), (1, .int (nI k)), (2, .int e), (3, .int (gs (s 110 p) (s 112 p) (s 104 b) e (s 106 b) i)), (4, .int (nI i))] [] (bl_up s 106 b (hs (s 110 p) (s 112 p) (s 104 b) (s 106 b) i)) (fun v τ => v = some (.int (if gs (s 110 p) (s 112 p) (s 104 b) e (s 106 b) n = s 141 k then 1 else 0)) ∧ τ = pbM b (bl_up s 106 b (hs (s 110 p) (s 112 p) (s 104 b) (s 106 b) n)))) ?_ ?_
  · have e0 : bl_up s 106 b (hs (s 110 p) (s 112 p) (s 104 b) (s 106 b) 0) = s := bl_up_id s 106 b
    rw [e0] at key
    exact key
  · refine vc_X11_isCan_5 _ _ _ _ _ ⟨v8, fun q => absurd q ?_, fun _ => ?_⟩
    · rw [hk8, hc _ 140 (by omega), h0]
      exact nI_nlt (Nat.le_refl _) (by omega)
    · rw [hk8, hc _ 139 (by omega), h9]
      refine ⟨_, c_X11_putBack _ hb, fun v e => ?_⟩
      rw [pbM_c (by omega), hc _ 141 (by omega)] at e
      subst e
      exact ⟨by split <;> first | exact Or.inl rfl | exact Or.inr rfl, rfl, rfl⟩
  · intro i hi ih
    have hg := c_X11_handful (bl_up s 106 b (hs (s 110 p) (s 112 p) (s 104 b) (s 106 b) i)) hp hb
    rw [hc _ 110 (by omega), hc _ 112 (by omega), hc _ 104 (by omega), bl_up_s, bl_up_up] at hg
    have hr := c_X11_rest (bl_up s 106 b (hs (s 110 p) (s 112 p) (s 104 b) (s 106 b) i - hq (s 110 p) (s 112 p) (s 104 b) (hs (s 110 p) (s 112 p) (s 104 b) (s 106 b) i))) (hq (s 110 p) (s 112 p) (s 104 b) (hs (s 110 p) (s 112 p) (s 104 b) (s 106 b) i)) e
    rw [gn_rest] at hr
    refine vc_X11_isCan_5 _ _ _ _ _ ⟨v8, fun _ => ?_, fun q => absurd ?_ q⟩
    · rw [hk8, hc _ 138 (by omega), hc _ 139 (by omega), h8, h9, nI_1]
      exact ⟨_, _, hg, _, _, hr, ih⟩
    · rw [hk8, hc _ 140 (by omega), h0]
      exact nI_lt hi (by omega)
def nbF (bad : Nat → Bool) : Nat → Nat → Int32
  | 0, _ => 1
  | k + 1, i => if bad i then 0 else nbF bad k (i + 1)
theorem nbF01 (bad : Nat → Bool) : ∀ k i, nbF bad k i = 0 ∨ nbF bad k i = 1
  | 0, _ => Or.inr rfl
  | k + 1, i => by
    unfold nbF
    split
    · exact Or.inl rfl
    · exact nbF01 bad k (i + 1)
/-- can k doesn't agree with appetite e of picker x -/
def ebd (σ : bl_S) (x : Int32) (e : Int32) (k : Nat) : Bool := decide (σ 138 k = x) && !decide (gs (σ 110 (Int32.toNatClampNeg (σ 138 k))) (σ 112 (Int32.toNatClampNeg (σ 138 k))) (σ 104 (Int32.toNatClampNeg (σ 139 k))) e (σ 106 (Int32.toNatClampNeg (σ 139 k))) (Int32.toNatClampNeg (σ 140 k)) = σ 141 k)
def etF (σ : bl_S) (x : Int32) (n : Nat) : Nat → Int32
  | 0 => 0
  | e + 1 => if nbF (ebd σ x (nI e)) n 0 = 0 then etF σ x n e else (etF σ x n e ||| ((1 : Int32) <<< (nI e &&& 31)))
theorem pr_eats {σ : bl_S} (h : Inv σ) (x : Int32) : Pr 94 167 [.int x] σ := by
  obtain ⟨nb, np, nt, a, b, c, hl, hb, hp, hz, ht, hs', hm'⟩ := id h
  have hn := hl.1
  have hn2 := hl.2.1
  by_cases g : wi x 0 (nI np - 1) = 0
  · exact ⟨-1000000001, σ, σ, bl_c (Nat.le_of_ble_eq_true rfl) (vc_X10_eats_0 σ x ⟨_, _, g71 hl x, fun _ => ⟨rfl, rfl⟩, fun q => absurd g q⟩), bl_c (Nat.le_of_ble_eq_true rfl) (vc_X11_eats_0 σ x ⟨_, _, g104 hl x, fun _ => ⟨rfl, rfl⟩, fun q => absurd g q⟩), h⟩
  obtain ⟨ha8, hb8, hc20, -, -, -, h84, h153, -, -, -, -, -, hcn, -⟩ := hs'
  obtain ⟨p, hpn, rfl⟩ := wi_n (by omega) g
  have p4 : p < 4 := by omega
  have ri := (hp p hpn).1
  have kL : isL 10 := Or.inl rfl
  have bad1 : ∀ e m, m < b → (ebd σ (nI p) e m = true ↔ σ 138 m = nI p ∧ ¬ gs (σ 110 p) (σ 112 p) (σ 104 (Int32.toNatClampNeg (σ 139 m))) e (σ 106 (Int32.toNatClampNeg (σ 139 m))) (Int32.toNatClampNeg (σ 140 m)) = σ 141 m) := by
    intro e m hm
    unfold ebd
    by_cases q : σ 138 m = nI p
    · rw [q, ntp p4]
      simp
    · simp [q]
  -- the class: cans agree
  have agC : ∀ e s, Fr σ s → s 88 2 = σ 110 p → s 88 3 = e → s 88 4 = σ 112 p → ∃ τ, (Fr σ τ ∧ τ 88 = s 88) ∧ bl_Con (bl_mi 60) [.ref 6, .ref 10, .int (nI p)] s (some (.int (nbF (ebd σ (nI p) e) b 0))) τ := by
    intro e s hF h2 h3 h4
    have key : ∀ t, Fr σ t ∧ t 88 = s 88 → Ev (bl_mi 60) 2 [(0, .ref 6), (1, .ref 10), (2, .int (nI p)), (3, .int (nI 0))] t (nbF (ebd σ (nI p) e) (b - 0) 0) (fun τ => Fr σ τ ∧ τ 88 = s 88) := by
      refine bl_dn (N := b) (P := fun m => ∀ t, Fr σ t ∧ t 88 = s 88 → Ev (bl_mi 60) 2 [(0, .ref 6), (1, .ref 10), (2, .int (nI p)), (3, .int (nI m))] t (nbF (ebd σ (nI p) e) (b - m) m) (fun τ => Fr σ τ ∧ τ 88 = s 88)) ?_ ?_
      · intro t ht
        refine ⟨t, ht, vc_X8_cansAgree_2 _ _ _ _ rfl ⟨fun q => absurd q ?_, fun _ => ⟨by rw [Nat.sub_self]; rfl, rfl⟩⟩⟩
        rw [ht.1 84 (by decide), h84]
        exact nI_nlt (Nat.le_refl _) (by omega)
      · intro m hm ih t ht
        obtain ⟨f94, f95, f96, f97, ⟨p', hp', e138⟩, ⟨j, hjn, e139⟩, n, hn30, e140⟩ := hcn m hm
        have j6 : j < 6 := by omega
        have m20 : Int32.toNatClampNeg (nI m) = m := nI_clamp (by omega)
        have v20 : vp_in (nI m) 20 := vp_in_nI (by omega) (by omega)
        have hB := bad1 e m hm
        rw [e139, e140, ntb j6, nI_clamp (show n < 2 ^ 31 by omega)] at hB
        have rj := (hb j hjn).1
        have hsub : b - m = (b - (m + 1)) + 1 := by omega
        have hlt : nI m < t 84 4 := by
          rw [ht.1 84 (by decide), h84]
          exact nI_lt hm (by omega)
        have hnb : nbF (ebd σ (nI p) e) (b - m) m = if ebd σ (nI p) e m then 0 else nbF (ebd σ (nI p) e) (b - (m + 1)) (m + 1) := by rw [hsub]; rfl
        have hcp : ∀ d, d ≠ 87 → bl_cp 6 t 87 (14 + j) d = t d := fun d hd => bl_cp_c hd
        have hw := c_X5_tryHandfuls (bl_cp 6 t 87 (14 + j)) (r := 88) (b := 87) n rfl rfl (by omega)
        rw [hcp 88 (by omega), bl_cp_s (by omega), bl_cp_s (by omega), ht.2, h2, h3, h4, ht.1 (14 + j) (sc14 j6), rj 2 (by omega), rj 4 (by omega)] at hw
        by_cases q1 : σ 138 m = nI p
        · by_cases q2 : gs (σ 110 p) (σ 112 p) (σ 104 j) e (σ 106 j) n = σ 141 m
          · have hf : ebd σ (nI p) e m = false := by
              cases hcase : ebd σ (nI p) e m with
              | false => rfl
              | true => exact absurd q2 (hB.mp hcase).2
            rw [hnb, hf]
            obtain ⟨τ, hP, hW⟩ := ih (bl_up (bl_cp 6 t 87 (14 + j)) 87 4 (hs (σ 110 p) (σ 112 p) (σ 104 j) (σ 106 j) n)) ⟨(ht.1.cp (by decide)).up (by decide), by rw [bl_up_ne (by omega), hcp 88 (by omega)]; exact ht.2⟩
            refine ⟨τ, hP, vc_X8_cansAgree_2 _ _ _ _ rfl ⟨fun _ => ⟨v20, fun _ => ⟨rfl, ?_, ?_⟩, fun z => absurd ?_ z⟩, fun z => absurd hlt z⟩⟩
            · rw [m20, ht.1 95 (by decide), f95, e139]
              exact vib j6
            · rw [m20, ht.1 95 (by decide), f95, e139, ntb j6]
              refine ⟨_, c_X1_copyFrom t (a := 87) (b := 14 + j) rfl (kdb j j6), ?_⟩
              rw [hcp 96 (by omega), ht.1 96 (by decide), f96, e140]
              refine ⟨_, _, hw, fun _ => ?_, fun z => absurd ?_ z⟩
              · rw [nI_1]
                exact hW
              · rw [bl_up_ne (by omega), hcp 97 (by omega), ht.1 97 (by decide), f97]
                exact q2
            · rw [m20, ht.1 94 (by decide), f94]
              exact q1
          · have hf : ebd σ (nI p) e m = true := hB.mpr ⟨q1, q2⟩
            rw [hnb, hf]
            refine ⟨bl_up (bl_cp 6 t 87 (14 + j)) 87 4 (hs (σ 110 p) (σ 112 p) (σ 104 j) (σ 106 j) n), ⟨(ht.1.cp (by decide)).up (by decide), by rw [bl_up_ne (by omega), hcp 88 (by omega)]; exact ht.2⟩, vc_X8_cansAgree_2 _ _ _ _ rfl ⟨fun _ => ⟨v20, fun _ => ⟨rfl, ?_, ?_⟩, fun z => absurd ?_ z⟩, fun z => absurd hlt z⟩⟩
            · rw [m20, ht.1 95 (by decide), f95, e139]
              exact vib j6
            · rw [m20, ht.1 95 (by decide), f95, e139, ntb j6]
              refine ⟨_, c_X1_copyFrom t (a := 87) (b := 14 + j) rfl (kdb j j6), ?_⟩
              rw [hcp 96 (by omega), ht.1 96 (by decide), f96, e140]
              refine ⟨_, _, hw, fun z => absurd ?_ q2, fun _ => ⟨rfl, rfl⟩⟩
              rw [bl_up_ne (by omega), hcp 97 (by omega), ht.1 97 (by decide), f97] at z
              exact z
            · rw [m20, ht.1 94 (by decide), f94]
              exact q1
        · have hf : ebd σ (nI p) e m = false := by
            cases hcase : ebd σ (nI p) e m with
            | false => rfl
            | true => exact absurd (hB.mp hcase).1 q1
          rw [hnb, hf]
          obtain ⟨τ, hP, hW⟩ := ih t ht
          refine ⟨τ, hP, vc_X8_cansAgree_2 _ _ _ _ rfl ⟨fun _ => ⟨v20, fun z => absurd ?_ q1, fun _ => ?_⟩, fun z => absurd hlt z⟩⟩
          · rw [m20, ht.1 94 (by decide), f94] at z
            exact z
          · rw [nI_1]
            exact hW
    obtain ⟨τ, hP, hW⟩ := key s ⟨hF, rfl⟩
    exact ⟨τ, hP, bl_c (Nat.le_of_ble_eq_true rfl) (vc_X8_cansAgree_0 s 10 _ rfl hW)⟩
  -- the class
  have keyC : ∀ s, Fr σ s → s 88 2 = σ 110 p → s 88 4 = σ 112 p → Ev (bl_mi 61) 18 [(0, .ref 6), (1, .ref 10), (2, .int (nI p)), (3, .int (etF σ (nI p) b 0)), (4, .int (nI 0))] s (etF σ (nI p) b 10) (Fr σ) := by
    refine bl_dn (N := 10) (P := fun m => ∀ s, Fr σ s → s 88 2 = σ 110 p → s 88 4 = σ 112 p → Ev (bl_mi 61) 18 [(0, .ref 6), (1, .ref 10), (2, .int (nI p)), (3, .int (etF σ (nI p) b m)), (4, .int (nI m))] s (etF σ (nI p) b 10) (Fr σ)) ?_ ?_
    · intro s hF _ _
      exact ⟨s, hF, vc_X8_appetitesOf_18 _ _ _ _ _ rfl ⟨fun _ => ⟨rfl, rfl⟩, fun q => absurd (by decide) q⟩⟩
    · intro m hm ih s hF h2 h4
      obtain ⟨τ1, ⟨hF1, h88⟩, hC⟩ := agC (nI m) (bl_up s 88 3 (nI m)) (hF.up (by decide)) (by rw [bl_up_j (by omega)]; exact h2) (bl_up_s _ _ _ _) (by rw [bl_up_j (by omega)]; exact h4)
      obtain ⟨τ, hP, hW⟩ := ih τ1 hF1 (by rw [h88, bl_up_j (by omega)]; exact h2) (by rw [h88, bl_up_j (by omega)]; exact h4)
      refine ⟨τ, hP, vc_X8_appetitesOf_18 _ _ _ _ _ rfl ⟨fun q => absurd q ?_, fun _ => ⟨_, _, hC, fun v e => ?_⟩⟩⟩
      · rw [show (9 : Int32) = nI 9 from rfl]
        exact nI_nlt (by omega) (by omega)
      · rw [e, nI_1]
        exact hW
  obtain ⟨τ, hF, hW⟩ := keyC (bl_cp 8 σ 88 (20 + p)) (Fr.rf.cp (by decide)) (by rw [bl_cp_s (by omega), ri 2 (by omega)]) (by rw [bl_cp_s (by omega), ri 4 (by omega)])
  have conC : bl_Con (bl_mi 94) [.ref 0, .int (nI p)] σ (some (.int (etF σ (nI p) b 10))) τ := by
    refine bl_c (Nat.le_of_ble_eq_true rfl) (vc_X10_eats_0 σ _ ⟨_, _, g71 hl _, fun q => absurd q g, fun _ => ⟨_, τ, bl_c (Nat.le_of_ble_eq_true rfl) (vc_X8_appetitesOf_0 σ 10 _ rfl ⟨rfl, vip p4, ?_⟩), rfl, rfl⟩⟩)
    rw [ntp p4]
    exact ⟨_, c_X5_copyFrom σ (a := 88) (b := 20 + p) rfl (kdp p p4) (hz p p4).1, hW⟩
  -- the reference
  have keyM : ∀ s, TA nb σ s → Fr σ s → Ev (bl_mi 167) 19 [(0, .ref 1), (1, .int (nI p)), (2, .int (etF σ (nI p) b 0)), (3, .int (nI 0))] s (etF σ (nI p) b 10) (Fr σ) := by
    refine bl_dn (N := 10) (P := fun m => ∀ s, TA nb σ s → Fr σ s → Ev (bl_mi 167) 19 [(0, .ref 1), (1, .int (nI p)), (2, .int (etF σ (nI p) b m)), (3, .int (nI m))] s (etF σ (nI p) b 10) (Fr σ)) ?_ ?_
    · intro s hT hF
      exact ⟨s, hF, vc_X11_eats_19 _ _ _ _ ⟨fun q => absurd q (by decide), fun _ => ⟨rfl, rfl⟩⟩⟩
    · intro e he ih s hT hF
      have hend : ∀ s f, TA nb σ s → Fr σ s → f = nbF (ebd σ (nI p) (nI e)) b 0 → Ev (bl_mi 167) 31 [(0, .ref 1), (1, .int (nI p)), (2, .int (etF σ (nI p) b e)), (3, .int (nI e)), (4, .int f), (5, .int (nI b))] s (etF σ (nI p) b 10) (Fr σ) := by
        intro s f hT hF hf
        obtain ⟨τ, hP, hW⟩ := ih s hT hF
        refine ⟨τ, hP, vc_X11_eats_31 _ _ _ _ _ _ ⟨fun q => absurd q ?_, fun _ v ev => ?_⟩⟩
        · rw [hF 1 (by decide), h153]
          exact nI_nlt (Nat.le_refl _) (by omega)
        · have : etF σ (nI p) b e ||| v = etF σ (nI p) b (e + 1) := by
            show _ = if nbF (ebd σ (nI p) (nI e)) b 0 = 0 then etF σ (nI p) b e else (etF σ (nI p) b e ||| ((1 : Int32) <<< (nI e &&& 31)))
            rw [ev, hf]
            split
            · exact Int32.or_zero
            · rfl
          rw [this, nI_1]
          exact hW
      have inner0 : nbF (ebd σ (nI p) (nI e)) b 0 = 0 → ∀ m0, m0 ≤ b → ∀ s, TA nb σ s → Fr σ s → Ev (bl_mi 167) 31 [(0, .ref 1), (1, .int (nI p)), (2, .int (etF σ (nI p) b e)), (3, .int (nI e)), (4, .int 0), (5, .int (nI (m0 + 0)))] s (etF σ (nI p) b 10) (Fr σ) := by
        intro hz0 m0 hm0
        refine bl_dn (N := b - m0) (P := fun k => ∀ s, TA nb σ s → Fr σ s → Ev (bl_mi 167) 31 [(0, .ref 1), (1, .int (nI p)), (2, .int (etF σ (nI p) b e)), (3, .int (nI e)), (4, .int 0), (5, .int (nI (m0 + k)))] s (etF σ (nI p) b 10) (Fr σ)) ?_ ?_
        · intro s hT hF
          rw [Nat.add_sub_of_le hm0]
          exact hend s 0 hT hF hz0.symm
        · intro k hk ihk s hT hF
          obtain ⟨τ, hP, hW⟩ := ihk s hT hF
          refine ⟨τ, hP, vc_X11_eats_31 _ _ _ _ _ _ ⟨fun _ => ⟨fun _ => ?_, fun q => absurd rfl q⟩, fun q => absurd ?_ q⟩⟩
          · rw [nI_1]
            exact hW
          · rw [hF 1 (by decide), h153]
            exact nI_lt (by omega) (by omega)
      have inner : nbF (ebd σ (nI p) (nI e)) (b - 0) 0 = nbF (ebd σ (nI p) (nI e)) b 0 → ∀ s, TA nb σ s → Fr σ s → Ev (bl_mi 167) 31 [(0, .ref 1), (1, .int (nI p)), (2, .int (etF σ (nI p) b e)), (3, .int (nI e)), (4, .int 1), (5, .int (nI 0))] s (etF σ (nI p) b 10) (Fr σ) := by
        refine bl_dn (N := b) (P := fun m => nbF (ebd σ (nI p) (nI e)) (b - m) m = nbF (ebd σ (nI p) (nI e)) b 0 → ∀ s, TA nb σ s → Fr σ s → Ev (bl_mi 167) 31 [(0, .ref 1), (1, .int (nI p)), (2, .int (etF σ (nI p) b e)), (3, .int (nI e)), (4, .int 1), (5, .int (nI m))] s (etF σ (nI p) b 10) (Fr σ)) ?_ ?_
        · intro hnb s hT hF
          rw [Nat.sub_self] at hnb
          exact hend s 1 hT hF hnb
        · intro m hm ihm hnb s hT hF
          obtain ⟨f94, f95, f96, f97, ⟨p', hp', e138⟩, ⟨j, hjn, e139⟩, n, hn30, e140⟩ := hcn m hm
          have j6 : j < 6 := by omega
          have m20 : Int32.toNatClampNeg (nI m) = m := nI_clamp (by omega)
          have v8 : vp_in (nI m) 8 := vp_in_nI (by omega) (by omega)
          have hB := bad1 (nI e) m hm
          rw [e139, e140, ntb j6, nI_clamp (show n < 2 ^ 31 by omega)] at hB
          have hsub : b - m = (b - (m + 1)) + 1 := by omega
          have hlt : nI m < s 1 53 := by
            rw [hF 1 (by decide), h153]
            exact nI_lt hm (by omega)
          have hnb2 : nbF (ebd σ (nI p) (nI e)) b 0 = if ebd σ (nI p) (nI e) m then 0 else nbF (ebd σ (nI p) (nI e)) (b - (m + 1)) (m + 1) := by rw [← hnb, hsub]; rfl
          by_cases q1 : σ 138 m = nI p
          · have hcan := c_X11_isCan s (nI e) (k := m) (p := p) (b := j) (n := n) (by omega) p4 j6 (by rw [hF 138 (by decide)]; exact q1) (by rw [hF 139 (by decide)]; exact e139) (by rw [hF 140 (by decide)]; exact e140) hn30
            rw [hF 110 (by decide), hF 112 (by decide), hF 104 (by decide), hF 106 (by decide), hF 141 (by decide)] at hcan
            have hT2 : TA nb σ (pbM j (bl_up s 106 j (hs (σ 110 p) (σ 112 p) (σ 104 j) (σ 106 j) n))) := (hT.ripe hjn).pb hjn
            have hF2 : Fr σ (pbM j (bl_up s 106 j (hs (σ 110 p) (σ 112 p) (σ 104 j) (σ 106 j) n))) := (hT.tm hjn hF).ripe.back
            by_cases q2 : gs (σ 110 p) (σ 112 p) (σ 104 j) (nI e) (σ 106 j) n = σ 141 m
            · have hf : ebd σ (nI p) (nI e) m = false := by
                cases hcase : ebd σ (nI p) (nI e) m with
                | false => rfl
                | true => exact absurd q2 (hB.mp hcase).2
              rw [hf] at hnb2
              obtain ⟨τ, hP, hW⟩ := ihm hnb2.symm _ hT2 hF2
              refine ⟨τ, hP, vc_X11_eats_31 _ _ _ _ _ _ ⟨fun _ => ⟨fun z => absurd z (by decide), fun _ => ⟨v8, fun _ => ⟨_, _, hcan, fun v ev => ?_⟩, fun z => absurd ?_ z⟩⟩, fun z => absurd hlt z⟩⟩
              · rw [if_pos q2] at ev
                rw [ev, nI_1]
                exact hW
              · rw [m20, hF 138 (by decide)]
                exact q1
            · have hf : ebd σ (nI p) (nI e) m = true := hB.mpr ⟨q1, q2⟩
              rw [hf] at hnb2
              obtain ⟨τ, hP, hW⟩ := inner0 hnb2 (m + 1) (by omega) _ hT2 hF2
              refine ⟨τ, hP, vc_X11_eats_31 _ _ _ _ _ _ ⟨fun _ => ⟨fun z => absurd z (by decide), fun _ => ⟨v8, fun _ => ⟨_, _, hcan, fun v ev => ?_⟩, fun z => absurd ?_ z⟩⟩, fun z => absurd hlt z⟩⟩
              · rw [if_neg q2] at ev
                rw [ev, nI_1]
                exact hW
              · rw [m20, hF 138 (by decide)]
                exact q1
          · have hf : ebd σ (nI p) (nI e) m = false := by
              cases hcase : ebd σ (nI p) (nI e) m with
              | false => rfl
              | true => exact absurd (hB.mp hcase).1 q1
            rw [hf] at hnb2
            obtain ⟨τ, hP, hW⟩ := ihm hnb2.symm s hT hF
            refine ⟨τ, hP, vc_X11_eats_31 _ _ _ _ _ _ ⟨fun _ => ⟨fun z => absurd z (by decide), fun _ => ⟨v8, fun z => absurd ?_ q1, fun _ => ?_⟩⟩, fun z => absurd hlt z⟩⟩
            · rw [m20, hF 138 (by decide)] at z
              exact z
            · rw [nI_1]
              exact hW
      obtain ⟨τ, hP, hW⟩ := inner rfl s hT hF
      exact ⟨τ, hP, vc_X11_eats_19 _ _ _ _ ⟨fun _ => hW, fun q => absurd (by rw [show (10 : Int32) = nI 10 from rfl]; exact nI_lt he (by omega)) q⟩⟩
  have hT : TA nb σ (svM nb τ) := TA.fr hF TA.save
  have hF2 : Fr σ (svM nb τ) := by
    intro d hd
    rw [svM_c ?_]
    · exact hF d hd
    · refine ⟨?_, ?_, ?_⟩ <;> · intro e; rw [e] at hd; exact absurd hd (by decide)
  obtain ⟨υ, hP2, hW2⟩ := keyM (svM nb τ) hT hF2
  have t1 : τ 1 = σ 1 := hF 1 (by decide)
  have hl2 : Jl nb np τ := hl.fr (hF 10 (by decide)) (hF 11 (by decide)) (fun k _ => by rw [t1])
  exact ⟨_, τ, υ, conC, bl_c (Nat.le_of_ble_eq_true rfl) (vc_X11_eats_0 τ _ ⟨_, _, g104 hl2 _, fun q => absurd q g, fun _ => ⟨_, c_X11_save τ hn (by rw [t1]; exact hl.2.2.2.1), hW2⟩⟩), h.fr hP2⟩
