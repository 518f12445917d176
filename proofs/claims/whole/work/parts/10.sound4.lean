theorem bl_ro_of {q : Nat} (h : bl_kd q = 26) : ∃ j, j < 4 ∧ q = bl_N + j := by
  have key : ∀ k, k < bl_N → bl_kd k ≠ 26 := by decide +kernel
  rcases Nat.lt_or_ge q bl_N with r | r
  · exact absurd h (key q r)
  · rcases Nat.lt_or_ge q (bl_N + 4) with r2 | r2
    · exact ⟨q - bl_N, by omega, by omega⟩
    · have : bl_kd q = 99 := by
        unfold bl_kd
        rw [List.getD_eq_getElem?_getD, List.getElem?_eq_none (by rw [bl_kd_len]; omega)]
        rfl
      omega
theorem bl_call_e {M : bl_MI} {c : Nat} {as : List Value} {σ : bl_S} {P : List Value → bl_S → Prop} (h : bl_call M c as σ P) : ∃ (r : Option Value) (τ : bl_S) (vs : List Value), bl_Con M as σ r τ ∧ (∀ α, vs.map (bl_cv α) = (r.map (bl_cv α)).toList) ∧ P vs τ := by
  unfold bl_call at h
  cases h0 : Nat.beq c 0 with
  | true =>
    rw [h0] at h
    obtain ⟨τ, h1, h2⟩ := h
    exact ⟨none, τ, [], h1, fun _ => rfl, h2⟩
  | false =>
    rw [h0] at h
    cases h3 : Nat.beq c 1 with
    | true =>
      rw [h3] at h
      obtain ⟨x, τ, h1, h2⟩ := h
      exact ⟨some (.int x), τ, [.int x], h1, fun _ => rfl, h2⟩
    | false =>
      rw [h3] at h
      obtain ⟨x, τ, h1, h2⟩ := h
      exact ⟨some (.ref x), τ, [.ref x], h1, fun _ => rfl, h2⟩
theorem bl_cpy_ws {α : Nat → Nat} {cA : Nat → ClassId} {σ : bl_S} {a0 a sp dp n : Nat} (h : bl_kd a = 20) : (bl_ws α cA σ).set a (α a, .inl (cA a, bl_ln a, .inl (va_cpy (σ a0) (σ a) sp dp n))) = bl_ws α cA (bl_cpy σ a0 a sp dp n) := by
  refine bl_ws_set (bl_lt h (by omega)) ?_ (fun c hc => by unfold bl_cpy; rw [if_neg hc])
  rw [bl_cell_arr h (by omega) (by omega)]
  unfold bl_cpy
  rw [if_pos rfl]
theorem bl_math_min : Cond.code Lib.Math.min.name Lib.Math.min.code 2 (some .int) ∈ bl_gt := bl_t1 (i := 133) rfl rfl
theorem bl_math_max : Cond.code Lib.Math.max.name Lib.Math.max.code 2 (some .int) ∈ bl_gt := bl_t3 (i := 19) rfl rfl
theorem bl_math_abs : Cond.code Lib.Math.abs.name Lib.Math.abs.code 1 (some .int) ∈ bl_gt := bl_t2 (i := 147) rfl rfl
set_option maxHeartbeats 4000000 in
theorem bl_intr {M : bl_MI} {es : List bl_En} {Q : Option Value → bl_S → Prop} {K : List bl_En → List (Nat × Value) → List Value → bl_S → Prop} (hM : ∀ w ∈ M.2.2.2.2.2.2, w ∈ bl_gt)
    {pc idx a b c0 d : Nat} {v : Int32} {w : Int64} {sw : List (Int32 × Nat)} {r : List bl_En} {lv : List (Nat × Value)} {st : List Value} {σ : bl_S} (hn : ∀ (lv : List (Nat × Value)) (st : List Value) (σ : bl_S), K r lv st σ → bl_Wx M (pc + 3) lv st σ Q) (hdg : decode M.2.1 pc = .ok (.invokestatic idx, 3)) (hc10 : Nat.blt c0 10 = false)
    (hc : (bif Nat.blt c0 10 then bl_mth M (bl_mi d) idx a c0 && decide (Cond.static (bl_mi d).1 ∈ M.2.2.2.2.2.2)
        else bif Nat.beq c0 13 then decide (Cond.methodLink M.1.cls idx arraycopyName ∈ M.2.2.2.2.2.2) && decide (Cond.static arraycopyName ∈ M.2.2.2.2.2.2) && decide (Cond.native arraycopyName ∈ M.2.2.2.2.2.2) && decide (Cond.initialized "java/lang/System" ∈ M.2.2.2.2.2.2) && Nat.ble 1 M.2.2.2.2.1 && Nat.ble 26 M.2.2.2.2.2.1
        else decide (Cond.initialized "java/lang/Math" ∈ M.2.2.2.2.2.2) && Nat.ble 1 M.2.2.2.2.1 && Nat.ble 21 M.2.2.2.2.2.1 && (
          bif Nat.beq c0 10 then decide (Cond.methodLink M.1.cls idx Lib.Math.min.name ∈ M.2.2.2.2.2.2) && decide (Cond.static Lib.Math.min.name ∈ M.2.2.2.2.2.2)
          else bif Nat.beq c0 11 then decide (Cond.methodLink M.1.cls idx Lib.Math.max.name ∈ M.2.2.2.2.2.2) && decide (Cond.static Lib.Math.max.name ∈ M.2.2.2.2.2.2)
          else bif Nat.beq c0 12 then decide (Cond.methodLink M.1.cls idx Lib.Math.abs.name ∈ M.2.2.2.2.2.2) && decide (Cond.static Lib.Math.abs.name ∈ M.2.2.2.2.2.2) else false)) = true)
    (h : bl_stp es K (pc, .invokestatic idx, 3, a, b, c0, d, v, w, sw) r lv st σ Q) : bl_Wx M pc lv st σ Q := by
  unfold bl_stp at h
  simp only [hc10, cond_false] at h hc
  cases h13 : Nat.beq c0 13 with
  | true =>
    cases bl_beq h13
    simp only [h13, cond_true, Bool.and_eq_true, decide_eq_true_eq] at hc
    obtain ⟨⟨⟨⟨⟨g1, g2⟩, g3⟩, g4⟩, g5⟩, g6⟩ := hc
    obtain ⟨a0, sp, q, dp, n, st2, hst, f1, f2, f3, f4, f5, f6, f7, hz⟩ := bl_pcopy_e h
    clear h
    subst hst
    have h := hz
    cases h8 : bl_w8 st2 with
    | false => rw [h8] at h; exact h.elim
    | true =>
      rw [h8] at h
      refine bl_go (hn _ _ _ h) (fun p l e R s m args below meth c cells slots Qf D α cA A C H locs ls hP hS hl k => ?_)
      have q1 := bl_lt f1 (by omega)
      have q2 := bl_lt f2 (by omega)
      have hw8 := bl_w8_le (α := α) h8
      refine va_copyi C.1 C.2.1 (C.2.2.1.trans hl.1.symm) C.2.2.2.2.2.1 (C.2.2.2.2.2.2.1 _ (hM _ g1)) (C.2.2.2.2.2.2.1 _ (hM _ g3)) (C.2.2.2.2.2.2.1 _ (hM _ g2)) (C.2.2.2.2.2.2.1 _ (hM _ g4)) C.2.2.2.2.2.2.2.1 hP (bl_D C.2.2.2.2.2.2.2.2.1 C.2.2.2.2.2.2.2.2.2.1) hS a0 q a0 q (by rw [bl_ws_at q1, bl_cell_arr f1 (by omega) (by omega)]) (by rw [bl_ws_at q2, bl_cell_arr f2 (by omega) (by omega)]) (ty := .int) (by rw [bl_tys_at q1]; unfold bl_aty; rw [f1]; rfl) (by rw [bl_tys_at q2]; unfold bl_aty; rw [f2]; rfl) rfl f3 f4 f5 f6 f7 (fun _ _ => rfl) (Nat.le_trans (bl_ble g5) C.2.2.2.2.2.2.2.2.2.2.2.1) ?_ hdg (fun H1 locs1 hP1 hD1 hS1 => ?_)
      · have e1 : nativeFrameWords "java/lang/System" "arraycopy" 5 = 7 := by decide
        have e2 := bl_ble g6
        have e3 := C.2.2.2.2.2.2.2.2.2.2.2.2.1
        rw [e1]
        omega
      · rw [bl_cpy_ws f2] at hP1
        exact k H1 locs1 ls hP1 hS1 hl
  | false =>
    simp only [h13, cond_false, Bool.and_eq_true, decide_eq_true_eq] at hc
    obtain ⟨⟨⟨g1, g2⟩, g3⟩, hc⟩ := hc
    have g3 := bl_ble g3
    cases h10 : Nat.beq c0 10 with
    | true =>
      simp only [h10, cond_true, Bool.and_eq_true, decide_eq_true_eq] at h hc
      obtain ⟨x, y, st2, hst, hz⟩ := bl_pii_e h
      clear h
      subst hst
      have h := hz
      cases h8 : bl_w8 st2 with
      | false => rw [h8] at h; exact h.elim
      | true =>
        rw [h8] at h
        refine bl_go (hn _ _ _ h) (fun p l e R s m args below meth c cells slots Qf D α cA A C H locs ls hP hS hl k => ?_)
        have hw8 := bl_w8_le (α := α) h8
        have e3 := C.2.2.2.2.2.2.2.2.2.2.2.2.1
        exact va_mmin C.1 C.2.1 (C.2.2.1.trans hl.1.symm) C.2.2.2.2.2.1 (C.2.2.2.2.2.2.1 _ (hM _ hc.1)) (C.2.2.2.2.2.2.1 _ (hM _ hc.2)) (C.2.2.2.2.2.2.1 _ (hM _ g1)) (C.2.2.2.2.2.2.1 _ bl_math_min) (Nat.le_trans (bl_ble g2) C.2.2.2.2.2.2.2.2.2.2.2.1) (by omega) C.2.2.2.2.2.2.2.2.2.2.2.2.2.1 C.2.2.2.2.2.2.2.2.2.2.2.2.2.2 hdg (k H locs ls hP hS hl)
    | false =>
      simp only [h10, cond_false] at h hc
      cases h11 : Nat.beq c0 11 with
      | true =>
        simp only [h11, cond_true, Bool.and_eq_true, decide_eq_true_eq] at h hc
        obtain ⟨x, y, st2, hst, hz⟩ := bl_pii_e h
        clear h
        subst hst
        have h := hz
        cases h8 : bl_w8 st2 with
        | false => rw [h8] at h; exact h.elim
        | true =>
          rw [h8] at h
          refine bl_go (hn _ _ _ h) (fun p l e R s m args below meth c cells slots Qf D α cA A C H locs ls hP hS hl k => ?_)
          have hw8 := bl_w8_le (α := α) h8
          have e3 := C.2.2.2.2.2.2.2.2.2.2.2.2.1
          exact va_mmax C.1 C.2.1 (C.2.2.1.trans hl.1.symm) C.2.2.2.2.2.1 (C.2.2.2.2.2.2.1 _ (hM _ hc.1)) (C.2.2.2.2.2.2.1 _ (hM _ hc.2)) (C.2.2.2.2.2.2.1 _ (hM _ g1)) (C.2.2.2.2.2.2.1 _ bl_math_max) (Nat.le_trans (bl_ble g2) C.2.2.2.2.2.2.2.2.2.2.2.1) (by omega) C.2.2.2.2.2.2.2.2.2.2.2.2.2.1 C.2.2.2.2.2.2.2.2.2.2.2.2.2.2 hdg (k H locs ls hP hS hl)
      | false =>
        simp only [h11, cond_false] at h hc
        cases h12 : Nat.beq c0 12 with
        | true =>
          simp only [h12, cond_true, Bool.and_eq_true, decide_eq_true_eq] at h hc
          obtain ⟨x, st2, hst, hz⟩ := bl_pi_e h
          clear h
          subst hst
          have h := hz
          cases h8 : bl_w8 st2 with
          | false => rw [h8] at h; exact h.elim
          | true =>
            rw [h8] at h
            refine bl_go (hn _ _ _ h) (fun p l e R s m args below meth c cells slots Qf D α cA A C H locs ls hP hS hl k => ?_)
            have hw8 := bl_w8_le (α := α) h8
            have e3 := C.2.2.2.2.2.2.2.2.2.2.2.2.1
            exact va_mabs C.1 C.2.1 (C.2.2.1.trans hl.1.symm) C.2.2.2.2.2.1 (C.2.2.2.2.2.2.1 _ (hM _ hc.1)) (C.2.2.2.2.2.2.1 _ (hM _ hc.2)) (C.2.2.2.2.2.2.1 _ (hM _ g1)) (C.2.2.2.2.2.2.1 _ bl_math_abs) (Nat.le_trans (bl_ble g2) C.2.2.2.2.2.2.2.2.2.2.2.1) (by omega) C.2.2.2.2.2.2.2.2.2.2.2.2.2.1 C.2.2.2.2.2.2.2.2.2.2.2.2.2.2 hdg (k H locs ls hP hS hl)
        | false =>
          simp only [h12, cond_false] at hc
          cases hc
set_option maxHeartbeats 4000000 in
theorem bl_stp_ok {M : bl_MI} {es : List bl_En} {Q : Option Value → bl_S → Prop} {K : List bl_En → List (Nat × Value) → List Value → bl_S → Prop} (hM : ∀ w ∈ M.2.2.2.2.2.2, w ∈ bl_gt)
    {e : bl_En} {r : List bl_En} {lv : List (Nat × Value)} {st : List Value} {σ : bl_S} (hn : ∀ (lv : List (Nat × Value)) (st : List Value) (σ : bl_S), K r lv st σ → bl_Wx M (e.1 + e.2.2.1) lv st σ Q) (hj : ∀ (t : Nat) (lv : List (Nat × Value)) (st : List Value) (σ : bl_S), K (bl_to es t) lv st σ → bl_Wx M t lv st σ Q)
    (hok : bl_ok M e = true) (h : bl_stp es K e r lv st σ Q) : bl_Wx M e.1 lv st σ Q := by
  obtain ⟨pc, i, len, a, b, c0, d, v, w, sw⟩ := e
  unfold bl_ok at hok
  rw [Bool.and_eq_true, decide_eq_true_eq] at hok
  obtain ⟨hdg, hc⟩ := hok
  have hn : ∀ (lv : List (Nat × Value)) (st : List Value) (σ : bl_S), K r lv st σ → bl_Wx M (pc + len) lv st σ Q := hn
  have hdg : decode M.2.1 pc = .ok (i, len) := hdg
  show bl_Wx M pc lv st σ Q
  cases i with
  | iconst n =>
    obtain ⟨h1, h2⟩ : Nat.beq len 1 = true ∧ Int32.ofInt n = v := by simpa only [bl_chk, Bool.and_eq_true, decide_eq_true_eq] using hc
    cases bl_beq h1
    refine bl_go (hn _ _ _ h) (fun p l e R s m args below meth c cells slots Qf D α cA A C H locs ls hP hS hl k => ?_)
    exact lv_iconst C.1 C.2.1 hdg h2 (k H locs ls hP hS hl)
  | bipush n =>
    obtain ⟨h1, h2⟩ : Nat.beq len 2 = true ∧ (Int8.ofInt n).toInt32 = v := by simpa only [bl_chk, Bool.and_eq_true, decide_eq_true_eq] using hc
    cases bl_beq h1
    refine bl_go (hn _ _ _ h) (fun p l e R s m args below meth c cells slots Qf D α cA A C H locs ls hP hS hl k => ?_)
    exact lv_bipush C.1 C.2.1 hdg h2 (k H locs ls hP hS hl)
  | sipush n =>
    obtain ⟨h1, h2⟩ : Nat.beq len 3 = true ∧ (Int16.ofInt n).toInt32 = v := by simpa only [bl_chk, Bool.and_eq_true, decide_eq_true_eq] using hc
    cases bl_beq h1
    refine bl_go (hn _ _ _ h) (fun p l e R s m args below meth c cells slots Qf D α cA A C H locs ls hP hS hl k => ?_)
    exact lv_sipush C.1 C.2.1 hdg h2 (k H locs ls hP hS hl)
  | lconst n =>
    obtain ⟨h1, h2⟩ : Nat.beq len 1 = true ∧ Int64.ofNat (n : Nat) = w := by simpa only [bl_chk, Bool.and_eq_true, decide_eq_true_eq] using hc
    cases bl_beq h1
    refine bl_go (hn _ _ _ h) (fun p l e R s m args below meth c cells slots Qf D α cA A C H locs ls hP hS hl k => ?_)
    exact lv_lconst C.1 C.2.1 hdg h2 (k H locs ls hP hS hl)
  | ldc n =>
    obtain ⟨h1, h2⟩ : Nat.beq len 2 = true ∧ Cond.constant M.1.cls n v ∈ M.2.2.2.2.2.2 := by simpa only [bl_chk, Bool.and_eq_true, decide_eq_true_eq] using hc
    cases bl_beq h1
    refine bl_go (hn _ _ _ h) (fun p l e R s m args below meth c cells slots Qf D α cA A C H locs ls hP hS hl k => ?_)
    exact lv_ldc C.1 C.2.1 C.2.2.2.2.2.1 (C.2.2.2.2.2.2.1 _ (hM _ h2)) hdg (k H locs ls hP hS hl)
  | ldc_w n =>
    obtain ⟨h1, h2⟩ : Nat.beq len 3 = true ∧ Cond.constant M.1.cls n v ∈ M.2.2.2.2.2.2 := by simpa only [bl_chk, Bool.and_eq_true, decide_eq_true_eq] using hc
    cases bl_beq h1
    refine bl_go (hn _ _ _ h) (fun p l e R s m args below meth c cells slots Qf D α cA A C H locs ls hP hS hl k => ?_)
    exact lv_ldcw C.1 C.2.1 C.2.2.2.2.2.1 (C.2.2.2.2.2.2.1 _ (hM _ h2)) hdg (k H locs ls hP hS hl)
  | ldc2_w n =>
    obtain ⟨h1, h2⟩ : Nat.beq len 3 = true ∧ Cond.constantLong M.1.cls n w ∈ M.2.2.2.2.2.2 := by simpa only [bl_chk, Bool.and_eq_true, decide_eq_true_eq] using hc
    cases bl_beq h1
    refine bl_go (hn _ _ _ h) (fun p l e R s m args below meth c cells slots Qf D α cA A C H locs ls hP hS hl k => ?_)
    exact lv_ldc2 C.1 C.2.1 C.2.2.2.2.2.1 (C.2.2.2.2.2.2.1 _ (hM _ h2)) hdg (k H locs ls hP hS hl)
  | iload_n n =>
    obtain ⟨h1, h2⟩ : Nat.beq len 1 = true ∧ Nat.beq (n : Nat) a = true := by simpa only [bl_chk, Bool.and_eq_true] using hc
    cases bl_beq h1
    obtain ⟨x, hx, h⟩ := bl_li_e h
    refine bl_go (hn _ _ _ h) (fun p l e R s m args below meth c cells slots Qf D α cA A C H locs ls hP hS hl k => ?_)
    exact lv_iload_n C.1 C.2.1 hdg (bl_beq h2) (bl_lk_has hl hx) (k H locs ls hP hS hl)
  | lload_n n =>
    obtain ⟨h1, h2⟩ : Nat.beq len 1 = true ∧ Nat.beq (n : Nat) a = true := by simpa only [bl_chk, Bool.and_eq_true] using hc
    cases bl_beq h1
    obtain ⟨x, hx, h⟩ := bl_ll_e h
    refine bl_go (hn _ _ _ h) (fun p l e R s m args below meth c cells slots Qf D α cA A C H locs ls hP hS hl k => ?_)
    exact lv_lload_n C.1 C.2.1 hdg (bl_beq h2) (bl_lk_has hl hx) (k H locs ls hP hS hl)
  | aload_n n =>
    obtain ⟨h1, h2⟩ : Nat.beq len 1 = true ∧ Nat.beq (n : Nat) a = true := by simpa only [bl_chk, Bool.and_eq_true] using hc
    cases bl_beq h1
    obtain ⟨x, hx, h⟩ := bl_lr_e h
    refine bl_go (hn _ _ _ h) (fun p l e R s m args below meth c cells slots Qf D α cA A C H locs ls hP hS hl k => ?_)
    exact lv_aload_n C.1 C.2.1 hdg (bl_beq h2) (bl_lk_has hl hx) (k H locs ls hP hS hl)
  | iload n =>
    obtain ⟨h1, h2⟩ : Nat.beq len 2 = true ∧ Nat.beq n a = true := by simpa only [bl_chk, Bool.and_eq_true] using hc
    cases bl_beq h1
    cases bl_beq h2
    obtain ⟨x, hx, h⟩ := bl_li_e h
    refine bl_go (hn _ _ _ h) (fun p l e R s m args below meth c cells slots Qf D α cA A C H locs ls hP hS hl k => ?_)
    exact lv_iload C.1 C.2.1 hdg (bl_lk_has hl hx) (k H locs ls hP hS hl)
  | lload n =>
    obtain ⟨h1, h2⟩ : Nat.beq len 2 = true ∧ Nat.beq n a = true := by simpa only [bl_chk, Bool.and_eq_true] using hc
    cases bl_beq h1
    cases bl_beq h2
    obtain ⟨x, hx, h⟩ := bl_ll_e h
    refine bl_go (hn _ _ _ h) (fun p l e R s m args below meth c cells slots Qf D α cA A C H locs ls hP hS hl k => ?_)
    exact lv_lload C.1 C.2.1 hdg (bl_lk_has hl hx) (k H locs ls hP hS hl)
  | aload n =>
    obtain ⟨h1, h2⟩ : Nat.beq len 2 = true ∧ Nat.beq n a = true := by simpa only [bl_chk, Bool.and_eq_true] using hc
    cases bl_beq h1
    cases bl_beq h2
    obtain ⟨x, hx, h⟩ := bl_lr_e h
    refine bl_go (hn _ _ _ h) (fun p l e R s m args below meth c cells slots Qf D α cA A C H locs ls hP hS hl k => ?_)
    exact lv_aload C.1 C.2.1 hdg (bl_lk_has hl hx) (k H locs ls hP hS hl)
  | istore_n n =>
    obtain ⟨⟨h1, h2⟩, h3⟩ : (Nat.beq len 1 = true ∧ Nat.beq (n : Nat) a = true) ∧ Nat.blt a M.2.2.1 = true := by simpa only [bl_chk, Bool.and_eq_true] using hc
    cases bl_beq h1
    obtain ⟨x, st2, hst, hz⟩ := bl_pi_e h
    clear h
    subst hst
    have h := hz
    refine bl_go (hn _ _ _ h) (fun p l e R s m args below meth c cells slots Qf D α cA A C H locs ls hP hS hl k => ?_)
    exact lv_istore_n C.1 C.2.1 hdg (bl_beq h2) hl (bl_blt h3) rfl (fun ls2 hl2 => k H locs ls2 hP hS (bl_s1_has hl2))
  | lstore_n n =>
    obtain ⟨⟨h1, h2⟩, h3⟩ : (Nat.beq len 1 = true ∧ Nat.beq (n : Nat) a = true) ∧ Nat.blt (a + 1) M.2.2.1 = true := by simpa only [bl_chk, Bool.and_eq_true] using hc
    cases bl_beq h1
    obtain ⟨x, st2, hst, hz⟩ := bl_pl_e h
    clear h
    subst hst
    have h := hz
    refine bl_go (hn _ _ _ h) (fun p l e R s m args below meth c cells slots Qf D α cA A C H locs ls hP hS hl k => ?_)
    exact lv_lstore_n C.1 C.2.1 hdg (bl_beq h2) hl (bl_blt h3) rfl (fun ls2 hl2 => k H locs ls2 hP hS (bl_s2_has hl2))
  | astore_n n =>
    obtain ⟨⟨h1, h2⟩, h3⟩ : (Nat.beq len 1 = true ∧ Nat.beq (n : Nat) a = true) ∧ Nat.blt a M.2.2.1 = true := by simpa only [bl_chk, Bool.and_eq_true] using hc
    cases bl_beq h1
    obtain ⟨x, st2, hst, hz⟩ := bl_pr_e h
    clear h
    subst hst
    have h := hz
    refine bl_go (hn _ _ _ h) (fun p l e R s m args below meth c cells slots Qf D α cA A C H locs ls hP hS hl k => ?_)
    exact lv_astore_n C.1 C.2.1 hdg (bl_beq h2) hl (bl_blt h3) rfl (fun ls2 hl2 => k H locs ls2 hP hS (bl_s1_has hl2))
  | istore n =>
    obtain ⟨⟨h1, h2⟩, h3⟩ : (Nat.beq len 2 = true ∧ Nat.beq n a = true) ∧ Nat.blt a M.2.2.1 = true := by simpa only [bl_chk, Bool.and_eq_true] using hc
    cases bl_beq h1
    cases bl_beq h2
    obtain ⟨x, st2, hst, hz⟩ := bl_pi_e h
    clear h
    subst hst
    have h := hz
    refine bl_go (hn _ _ _ h) (fun p l e R s m args below meth c cells slots Qf D α cA A C H locs ls hP hS hl k => ?_)
    exact lv_istore C.1 C.2.1 hdg hl (bl_blt h3) rfl (fun ls2 hl2 => k H locs ls2 hP hS (bl_s1_has hl2))
  | lstore n =>
    obtain ⟨⟨h1, h2⟩, h3⟩ : (Nat.beq len 2 = true ∧ Nat.beq n a = true) ∧ Nat.blt (a + 1) M.2.2.1 = true := by simpa only [bl_chk, Bool.and_eq_true] using hc
    cases bl_beq h1
    cases bl_beq h2
    obtain ⟨x, st2, hst, hz⟩ := bl_pl_e h
    clear h
    subst hst
    have h := hz
    refine bl_go (hn _ _ _ h) (fun p l e R s m args below meth c cells slots Qf D α cA A C H locs ls hP hS hl k => ?_)
    exact lv_lstore C.1 C.2.1 hdg hl (bl_blt h3) rfl (fun ls2 hl2 => k H locs ls2 hP hS (bl_s2_has hl2))
  | astore n =>
    obtain ⟨⟨h1, h2⟩, h3⟩ : (Nat.beq len 2 = true ∧ Nat.beq n a = true) ∧ Nat.blt a M.2.2.1 = true := by simpa only [bl_chk, Bool.and_eq_true] using hc
    cases bl_beq h1
    cases bl_beq h2
    obtain ⟨x, st2, hst, hz⟩ := bl_pr_e h
    clear h
    subst hst
    have h := hz
    refine bl_go (hn _ _ _ h) (fun p l e R s m args below meth c cells slots Qf D α cA A C H locs ls hP hS hl k => ?_)
    exact lv_astore C.1 C.2.1 hdg hl (bl_blt h3) rfl (fun ls2 hl2 => k H locs ls2 hP hS (bl_s1_has hl2))
  | iinc n q =>
    obtain ⟨⟨⟨h1, h2⟩, h3⟩, h4⟩ : ((Nat.beq len 3 = true ∧ Nat.beq n a = true) ∧ Nat.blt a M.2.2.1 = true) ∧ Int32.ofInt q = v := by simpa only [bl_chk, Bool.and_eq_true, decide_eq_true_eq] using hc
    cases bl_beq h1
    cases bl_beq h2
    obtain ⟨x, hx, h⟩ := bl_li_e h
    refine bl_go (hn _ _ _ h) (fun p l e R s m args below meth c cells slots Qf D α cA A C H locs ls hP hS hl k => ?_)
    obtain ⟨j, hj⟩ := List.getElem?_of_mem (List.mem_map.mpr ⟨_, bl_lk_mem hx, rfl⟩ : (a, bl_cv α (.int x)) ∈ bl_cl α lv)
    exact lv_iinc C.1 C.2.1 hdg hl hj (by rw [h4]) (bl_blt h3) rfl (fun ls2 hl2 => k H locs ls2 hP hS (bl_s1_has hl2))
  | iadd =>
    cases bl_beq (show Nat.beq len 1 = true from hc)
    obtain ⟨x, y, st2, hst, hz⟩ := bl_pii_e h
    clear h
    subst hst
    have h := hz
    refine bl_go (hn _ _ _ h) (fun p l e R s m args below meth c cells slots Qf D α cA A C H locs ls hP hS hl k => ?_)
    exact lv_iadd C.1 C.2.1 hdg (k H locs ls hP hS hl)
  | isub =>
    cases bl_beq (show Nat.beq len 1 = true from hc)
    obtain ⟨x, y, st2, hst, hz⟩ := bl_pii_e h
    clear h
    subst hst
    have h := hz
    refine bl_go (hn _ _ _ h) (fun p l e R s m args below meth c cells slots Qf D α cA A C H locs ls hP hS hl k => ?_)
    exact lv_isub C.1 C.2.1 hdg (k H locs ls hP hS hl)
  | imul =>
    cases bl_beq (show Nat.beq len 1 = true from hc)
    obtain ⟨x, y, st2, hst, hz⟩ := bl_pii_e h
    clear h
    subst hst
    have h := hz
    refine bl_go (hn _ _ _ h) (fun p l e R s m args below meth c cells slots Qf D α cA A C H locs ls hP hS hl k => ?_)
    exact lv_imul C.1 C.2.1 hdg (k H locs ls hP hS hl)
  | iand =>
    cases bl_beq (show Nat.beq len 1 = true from hc)
    obtain ⟨x, y, st2, hst, hz⟩ := bl_pii_e h
    clear h
    subst hst
    have h := hz
    refine bl_go (hn _ _ _ h) (fun p l e R s m args below meth c cells slots Qf D α cA A C H locs ls hP hS hl k => ?_)
    exact lv_iand C.1 C.2.1 hdg (k H locs ls hP hS hl)
  | ior =>
    cases bl_beq (show Nat.beq len 1 = true from hc)
    obtain ⟨x, y, st2, hst, hz⟩ := bl_pii_e h
    clear h
    subst hst
    have h := hz
    refine bl_go (hn _ _ _ h) (fun p l e R s m args below meth c cells slots Qf D α cA A C H locs ls hP hS hl k => ?_)
    exact lv_ior C.1 C.2.1 hdg (k H locs ls hP hS hl)
  | ixor =>
    cases bl_beq (show Nat.beq len 1 = true from hc)
    obtain ⟨x, y, st2, hst, hz⟩ := bl_pii_e h
    clear h
    subst hst
    have h := hz
    refine bl_go (hn _ _ _ h) (fun p l e R s m args below meth c cells slots Qf D α cA A C H locs ls hP hS hl k => ?_)
    exact lv_ixor C.1 C.2.1 hdg (k H locs ls hP hS hl)
  | ishl =>
    cases bl_beq (show Nat.beq len 1 = true from hc)
    obtain ⟨x, y, st2, hst, hz⟩ := bl_pii_e h
    clear h
    subst hst
    have h := hz
    refine bl_go (hn _ _ _ h) (fun p l e R s m args below meth c cells slots Qf D α cA A C H locs ls hP hS hl k => ?_)
    exact lv_ishl C.1 C.2.1 hdg (k H locs ls hP hS hl)
  | ishr =>
    cases bl_beq (show Nat.beq len 1 = true from hc)
    obtain ⟨x, y, st2, hst, hz⟩ := bl_pii_e h
    clear h
    subst hst
    have h := hz
    refine bl_go (hn _ _ _ h) (fun p l e R s m args below meth c cells slots Qf D α cA A C H locs ls hP hS hl k => ?_)
    exact lv_ishr C.1 C.2.1 hdg (k H locs ls hP hS hl)
  | idiv =>
    cases bl_beq (show Nat.beq len 1 = true from hc)
    obtain ⟨x, y, st2, hst, h0, hz⟩ := bl_pii_e h
    clear h
    subst hst
    have h := hz
    refine bl_go (hn _ _ _ h) (fun p l e R s m args below meth c cells slots Qf D α cA A C H locs ls hP hS hl k => ?_)
    exact lv_idiv C.1 C.2.1 hdg h0 (k H locs ls hP hS hl)
  | irem =>
    cases bl_beq (show Nat.beq len 1 = true from hc)
    obtain ⟨x, y, st2, hst, h0, hz⟩ := bl_pii_e h
    clear h
    subst hst
    have h := hz
    refine bl_go (hn _ _ _ h) (fun p l e R s m args below meth c cells slots Qf D α cA A C H locs ls hP hS hl k => ?_)
    exact lv_irem C.1 C.2.1 hdg h0 (k H locs ls hP hS hl)
  | ladd =>
    cases bl_beq (show Nat.beq len 1 = true from hc)
    obtain ⟨x, y, st2, hst, hz⟩ := bl_pll_e h
    clear h
    subst hst
    have h := hz
    refine bl_go (hn _ _ _ h) (fun p l e R s m args below meth c cells slots Qf D α cA A C H locs ls hP hS hl k => ?_)
    exact lv_ladd C.1 C.2.1 hdg (k H locs ls hP hS hl)
  | lsub =>
    cases bl_beq (show Nat.beq len 1 = true from hc)
    obtain ⟨x, y, st2, hst, hz⟩ := bl_pll_e h
    clear h
    subst hst
    have h := hz
    refine bl_go (hn _ _ _ h) (fun p l e R s m args below meth c cells slots Qf D α cA A C H locs ls hP hS hl k => ?_)
    exact lv_lsub C.1 C.2.1 hdg (k H locs ls hP hS hl)
  | lmul =>
    cases bl_beq (show Nat.beq len 1 = true from hc)
    obtain ⟨x, y, st2, hst, hz⟩ := bl_pll_e h
    clear h
    subst hst
    have h := hz
    refine bl_go (hn _ _ _ h) (fun p l e R s m args below meth c cells slots Qf D α cA A C H locs ls hP hS hl k => ?_)
    exact lv_lmul C.1 C.2.1 hdg (k H locs ls hP hS hl)
  | land =>
    cases bl_beq (show Nat.beq len 1 = true from hc)
    obtain ⟨x, y, st2, hst, hz⟩ := bl_pll_e h
    clear h
    subst hst
    have h := hz
    refine bl_go (hn _ _ _ h) (fun p l e R s m args below meth c cells slots Qf D α cA A C H locs ls hP hS hl k => ?_)
    exact lv_land C.1 C.2.1 hdg (k H locs ls hP hS hl)
  | lcmp =>
    cases bl_beq (show Nat.beq len 1 = true from hc)
    obtain ⟨x, y, st2, hst, hz⟩ := bl_pll_e h
    clear h
    subst hst
    have h := hz
    refine bl_go (hn _ _ _ h) (fun p l e R s m args below meth c cells slots Qf D α cA A C H locs ls hP hS hl k => ?_)
    exact W.lcmp C.1 C.2.1 hdg (k H locs ls hP hS hl)
  | ldiv =>
    cases bl_beq (show Nat.beq len 1 = true from hc)
    obtain ⟨x, y, st2, hst, h0, hz⟩ := bl_pll_e h
    clear h
    subst hst
    have h := hz
    refine bl_go (hn _ _ _ h) (fun p l e R s m args below meth c cells slots Qf D α cA A C H locs ls hP hS hl k => ?_)
    exact lv_ldiv C.1 C.2.1 hdg h0 (k H locs ls hP hS hl)
  | lrem =>
    cases bl_beq (show Nat.beq len 1 = true from hc)
    obtain ⟨x, y, st2, hst, h0, hz⟩ := bl_pll_e h
    clear h
    subst hst
    have h := hz
    refine bl_go (hn _ _ _ h) (fun p l e R s m args below meth c cells slots Qf D α cA A C H locs ls hP hS hl k => ?_)
    exact lv_lrem C.1 C.2.1 hdg h0 (k H locs ls hP hS hl)
  | i2l =>
    cases bl_beq (show Nat.beq len 1 = true from hc)
    obtain ⟨x, st2, hst, hz⟩ := bl_pi_e h
    clear h
    subst hst
    have h := hz
    refine bl_go (hn _ _ _ h) (fun p l e R s m args below meth c cells slots Qf D α cA A C H locs ls hP hS hl k => ?_)
    exact lv_i2l C.1 C.2.1 hdg rfl (k H locs ls hP hS hl)
  | l2i =>
    cases bl_beq (show Nat.beq len 1 = true from hc)
    obtain ⟨x, st2, hst, hz⟩ := bl_pl_e h
    clear h
    subst hst
    have h := hz
    refine bl_go (hn _ _ _ h) (fun p l e R s m args below meth c cells slots Qf D α cA A C H locs ls hP hS hl k => ?_)
    exact lv_l2i C.1 C.2.1 hdg rfl (k H locs ls hP hS hl)
  | i2c =>
    cases bl_beq (show Nat.beq len 1 = true from hc)
    obtain ⟨x, st2, hst, hz⟩ := bl_pi_e h
    clear h
    subst hst
    have h := hz
    refine bl_go (hn _ _ _ h) (fun p l e R s m args below meth c cells slots Qf D α cA A C H locs ls hP hS hl k => ?_)
    exact lv_i2c C.1 C.2.1 hdg rfl (k H locs ls hP hS hl)
  | dup =>
    cases bl_beq (show Nat.beq len 1 = true from hc)
    obtain ⟨x, st2, hst, h0, hz⟩ := bl_p1_e h
    clear h
    subst hst
    have h := hz
    refine bl_go (hn _ _ _ h) (fun p l e R s m args below meth c cells slots Qf D α cA A C H locs ls hP hS hl k => ?_)
    exact lv_dup C.1 C.2.1 hdg (by rw [bl_cv_cat]; exact h0) (k H locs ls hP hS hl)
  | pop =>
    cases bl_beq (show Nat.beq len 1 = true from hc)
    obtain ⟨x, st2, hst, h0, hz⟩ := bl_p1_e h
    clear h
    subst hst
    have h := hz
    refine bl_go (hn _ _ _ h) (fun p l e R s m args below meth c cells slots Qf D α cA A C H locs ls hP hS hl k => ?_)
    exact lv_pop C.1 C.2.1 hdg (by rw [bl_cv_cat]; exact h0) (k H locs ls hP hS hl)
  | dup2 =>
    cases bl_beq (show Nat.beq len 1 = true from hc)
    obtain ⟨x, y, st2, hst, h0, h1, hz⟩ := bl_p2_e h
    clear h
    subst hst
    have h := hz
    refine bl_go (hn _ _ _ h) (fun p l e R s m args below meth c cells slots Qf D α cA A C H locs ls hP hS hl k => ?_)
    exact lv_dup2_11 C.1 C.2.1 hdg (by rw [bl_cv_cat]; exact h0) (by rw [bl_cv_cat]; exact h1) (k H locs ls hP hS hl)
  | goto off =>
    obtain ⟨h1, h2⟩ : Nat.beq len 3 = true ∧ (pc : Int) + off = (a : Int) := by simpa only [bl_chk, bl_tgt, Bool.and_eq_true, decide_eq_true_eq] using hc
    cases bl_beq h1
    refine bl_go (hj _ _ _ _ h) (fun p l e R s m args below meth c cells slots Qf D α cA A C H locs ls hP hS hl k => ?_)
    exact lv_goto C.1 C.2.1 hdg h2 (k H locs ls hP hS hl)
  | ifCond cd off =>
    obtain ⟨h1, h2⟩ : Nat.beq len 3 = true ∧ (pc : Int) + off = (a : Int) := by simpa only [bl_chk, bl_tgt, Bool.and_eq_true, decide_eq_true_eq] using hc
    cases bl_beq h1
    obtain ⟨x, st2, hst, hz⟩ := bl_pi_e h
    clear h
    subst hst
    have h := hz
    intro p l e R s m args below meth c cells slots Qf D α cA A C hret H locs ls hP hS hl
    cases cd with
    | eq => exact lv_if_eq C.1 C.2.1 hdg h2 (fun q => (hj _ _ _ _ (h.1 q) p l e R s m args below meth c cells slots Qf D α cA A C hret H locs ls hP hS hl)) (fun q => (hn _ _ _ (h.2 q) p l e R s m args below meth c cells slots Qf D α cA A C hret H locs ls hP hS hl))
    | ne => exact lv_if_ne C.1 C.2.1 hdg h2 (fun q => (hj _ _ _ _ (h.2 q) p l e R s m args below meth c cells slots Qf D α cA A C hret H locs ls hP hS hl)) (fun q => (hn _ _ _ (h.1 q) p l e R s m args below meth c cells slots Qf D α cA A C hret H locs ls hP hS hl))
    | lt => exact lv_if_lt C.1 C.2.1 hdg h2 (fun q => (hj _ _ _ _ (h.1 q) p l e R s m args below meth c cells slots Qf D α cA A C hret H locs ls hP hS hl)) (fun q => (hn _ _ _ (h.2 q) p l e R s m args below meth c cells slots Qf D α cA A C hret H locs ls hP hS hl))
    | ge => exact lv_if_ge C.1 C.2.1 hdg h2 (fun q => (hj _ _ _ _ (h.2 (Int32.not_lt.mpr q)) p l e R s m args below meth c cells slots Qf D α cA A C hret H locs ls hP hS hl)) (fun q => (hn _ _ _ (h.1 (Int32.not_le.mp q)) p l e R s m args below meth c cells slots Qf D α cA A C hret H locs ls hP hS hl))
    | gt => exact lv_if_gt C.1 C.2.1 hdg h2 (fun q => (hj _ _ _ _ (h.1 q) p l e R s m args below meth c cells slots Qf D α cA A C hret H locs ls hP hS hl)) (fun q => (hn _ _ _ (h.2 q) p l e R s m args below meth c cells slots Qf D α cA A C hret H locs ls hP hS hl))
    | le => exact lv_if_le C.1 C.2.1 hdg h2 (fun q => (hj _ _ _ _ (h.2 (Int32.not_lt.mpr q)) p l e R s m args below meth c cells slots Qf D α cA A C hret H locs ls hP hS hl)) (fun q => (hn _ _ _ (h.1 (Int32.not_le.mp q)) p l e R s m args below meth c cells slots Qf D α cA A C hret H locs ls hP hS hl))
  | if_icmp cd off =>
    obtain ⟨h1, h2⟩ : Nat.beq len 3 = true ∧ (pc : Int) + off = (a : Int) := by simpa only [bl_chk, bl_tgt, Bool.and_eq_true, decide_eq_true_eq] using hc
    cases bl_beq h1
    obtain ⟨x, y, st2, hst, hz⟩ := bl_pii_e h
    clear h
    subst hst
    have h := hz
    intro p l e R s m args below meth c cells slots Qf D α cA A C hret H locs ls hP hS hl
    cases cd with
    | eq => exact lv_icmp_eq C.1 C.2.1 hdg h2 (fun q => (hj _ _ _ _ (h.1 q) p l e R s m args below meth c cells slots Qf D α cA A C hret H locs ls hP hS hl)) (fun q => (hn _ _ _ (h.2 q) p l e R s m args below meth c cells slots Qf D α cA A C hret H locs ls hP hS hl))
    | ne => exact lv_icmp_ne C.1 C.2.1 hdg h2 (fun q => (hj _ _ _ _ (h.2 q) p l e R s m args below meth c cells slots Qf D α cA A C hret H locs ls hP hS hl)) (fun q => (hn _ _ _ (h.1 q) p l e R s m args below meth c cells slots Qf D α cA A C hret H locs ls hP hS hl))
    | lt => exact lv_icmp_lt C.1 C.2.1 hdg h2 (fun q => (hj _ _ _ _ (h.1 q) p l e R s m args below meth c cells slots Qf D α cA A C hret H locs ls hP hS hl)) (fun q => (hn _ _ _ (h.2 q) p l e R s m args below meth c cells slots Qf D α cA A C hret H locs ls hP hS hl))
    | ge => exact lv_icmp_ge C.1 C.2.1 hdg h2 (fun q => (hj _ _ _ _ (h.2 (Int32.not_lt.mpr q)) p l e R s m args below meth c cells slots Qf D α cA A C hret H locs ls hP hS hl)) (fun q => (hn _ _ _ (h.1 (Int32.not_le.mp q)) p l e R s m args below meth c cells slots Qf D α cA A C hret H locs ls hP hS hl))
    | gt => exact lv_icmp_gt C.1 C.2.1 hdg h2 (fun q => (hj _ _ _ _ (h.1 q) p l e R s m args below meth c cells slots Qf D α cA A C hret H locs ls hP hS hl)) (fun q => (hn _ _ _ (h.2 q) p l e R s m args below meth c cells slots Qf D α cA A C hret H locs ls hP hS hl))
    | le => exact lv_icmp_le C.1 C.2.1 hdg h2 (fun q => (hj _ _ _ _ (h.2 (Int32.not_lt.mpr q)) p l e R s m args below meth c cells slots Qf D α cA A C hret H locs ls hP hS hl)) (fun q => (hn _ _ _ (h.1 (Int32.not_le.mp q)) p l e R s m args below meth c cells slots Qf D α cA A C hret H locs ls hP hS hl))
  | tableswitch df lo hi offs =>
    simp only [bl_chk, bl_tgt, Bool.and_eq_true, decide_eq_true_eq] at hc
    obtain ⟨⟨⟨g1, g2⟩, g3⟩, g4⟩ := hc
    obtain ⟨x, st2, hst, hz⟩ := bl_pi_e h
    clear h
    subst hst
    have h := hz
    intro p l e R s m args below meth c cells slots Qf D α cA A C hret H locs ls hP hS hl
    rcases bl_table g1 g2 g3 g4 h with ⟨t, h, off, f1, f2, f3, f4⟩ | ⟨f1, h⟩
    · exact lv_tableIn C.1 C.2.1 hdg f1 f2 f3 f4 (hj _ _ _ _ h p l e R s m args below meth c cells slots Qf D α cA A C hret H locs ls hP hS hl)
    · exact lv_tableOut C.1 C.2.1 hdg f1 g1 (hj _ _ _ _ h p l e R s m args below meth c cells slots Qf D α cA A C hret H locs ls hP hS hl)
  | lookupswitch df ps =>
    simp only [bl_chk, bl_tgt, Bool.and_eq_true, decide_eq_true_eq] at hc
    obtain ⟨⟨⟨g1, g2⟩, g3⟩, g4⟩ := hc
    obtain ⟨x, st2, hst, hz⟩ := bl_pi_e h
    clear h
    subst hst
    have h := hz
    intro p l e R s m args below meth c cells slots Qf D α cA A C hret H locs ls hP hS hl
    obtain ⟨t, h, f1⟩ := bl_lookup g1 ps.toList sw g2 (fun q hq => by have := List.all_eq_true.mp g4 q hq; simpa only [decide_eq_true_eq] using this) h
    exact lv_lookup C.1 C.2.1 hdg g3 rfl f1 (hj _ _ _ _ h p l e R s m args below meth c cells slots Qf D α cA A C hret H locs ls hP hS hl)
  | getfield idx =>
    simp only [bl_chk, Bool.and_eq_true] at hc
    obtain ⟨⟨g1, g2⟩, g3⟩ := hc
    cases bl_beq g1
    obtain ⟨CC, T, N, hv, hb, hlk, hT, hfr, -⟩ := bl_fld_e g2
    obtain ⟨q, st2, hst, hq, hz⟩ := bl_pr_e h
    clear h
    subst hst
    have h := hz
    refine bl_go (hn _ _ _ h) (fun p l e R s m args below meth c cells slots Qf D α cA A C H locs ls hP hS hl k => ?_)
    have hN := bl_ln_of hq (bl_blt g3) hv
    refine va_get C.1 C.2.1 C.2.2.2.2.2.2.1 (bl_cls_ws _ _ _ _ hv) C.2.2.2.2.2.1 C.2.2.2.2.2.2.2.1 hP q (by rw [bl_ws_at (bl_lt hq (by have := bl_blt g3; omega)), bl_cell_obj hq (bl_blt g3)]) hv b hb (C.2.2.2.2.2.2.1 _ (hM _ hlk)) (fun x hx => by rw [hT] at hx; exact hx) (v := bl_cv α (bif Nat.beq c0 1 then Value.ref (bl_rf q b) else Value.int (σ q b))) ?_ hdg (k H locs ls hP hS hl)
    rw [hN, List.getElem?_map, List.getElem?_range hb, Option.map_some, hfr]
    cases Nat.beq c0 1 <;> rfl
  | putfield idx =>
    simp only [bl_chk, Bool.and_eq_true, Bool.not_eq_true'] at hc
    obtain ⟨⟨⟨g1, g2⟩, g3⟩, g4⟩ := hc
    cases bl_beq g1
    obtain ⟨CC, T, N, hv, hb, hlk, hT, hfr, hpt⟩ := bl_fld_e g2
    obtain ⟨hfin, hds⟩ := hpt rfl
    obtain ⟨q, x, st2, hst, hq, hz⟩ := bl_pir_e h
    clear h
    subst hst
    have h := hz
    have hN := bl_ln_of hq (bl_blt g3) hv
    rw [g4] at hfr
    have hK : K r lv st2 (bl_up σ q b x) ∧ ∃ ty, parseFieldDescriptor (T b).2.2.1 = some ty ∧ narrow ty (.int x) = .int x ∧ fits ty (.int x) = true := by
      rw [hds]
      cases hc2 : Nat.beq c0 2 with
      | true =>
        rw [hc2] at h
        exact ⟨h.2, .boolean, by decide, (bl_bool h.1).1, (bl_bool h.1).2⟩
      | false =>
        rw [hc2] at h
        exact ⟨h, .int, by decide, rfl, rfl⟩
    obtain ⟨h, ty, t1, t2, t3⟩ := hK
    refine bl_go (hn _ _ _ h) (fun p l e R s m args below meth c cells slots Qf D α cA A C H locs ls hP hS hl k => ?_)
    refine va_put C.1 C.2.1 C.2.2.2.2.2.2.1 (bl_cls_ws _ _ _ _ hv) _ (bl_cls_ty _ _ _ _ hv) (bl_cls_nm _ _ _ _ hv) C.2.2.2.2.2.1 C.2.2.2.2.2.2.2.1 hP (bl_D C.2.2.2.2.2.2.2.2.1 C.2.2.2.2.2.2.2.2.2.1) hS q (by rw [bl_ws_at (bl_lt hq (by have := bl_blt g3; omega)), bl_cell_obj hq (bl_blt g3)]) hv b hb (C.2.2.2.2.2.2.1 _ (hM _ hlk)) (fun x hx => by rw [hT] at hx; exact hx) hfin t1 t2 t3 (by rw [List.length_map, List.length_range, hN]; exact hb) hdg (fun H1 locs1 hP1 hD1 hS1 => ?_)
    rw [show bl_cv α (Value.int x) = Value.int x from rfl, bl_ws_put hq (bl_blt g3) hfr] at hP1
    exact k H1 locs1 ls hP1 hS1 hl
  | iaload =>
    cases bl_beq (show Nat.beq len 1 = true from hc)
    obtain ⟨q, i, st2, hst, hz⟩ := bl_pir_e h
    clear h
    subst hst
    have h := hz
    cases hcc : Nat.beq c0 1 with
    | true =>
      rw [hcc] at h
      obtain ⟨hq, hin, h⟩ : bl_kd q = 26 ∧ vp_in i (bl_ln q) ∧ K r lv (.int (bl_ro q i.toNatClampNeg) :: st2) σ := h
      obtain ⟨j, hj, rfl⟩ : ∃ j, j < 4 ∧ q = bl_N + j := bl_ro_of hq
      refine bl_go (hn _ _ _ h) (fun p l e R s m args below meth c cells slots Qf D α cA A C H locs ls hP hS hl k => ?_)
      exact va_ti C.1 C.2.1 (C.2.2.2.2.2.2.2.2.2.2.1.1 j hj).2 hS hin rfl hdg (k H locs ls hP hS hl)
    | false =>
      rw [hcc] at h
      obtain ⟨hq, hin, h⟩ : bl_kd q = 20 ∧ vp_in i (bl_ln q) ∧ K r lv (.int (σ q i.toNatClampNeg) :: st2) σ := h
      have hqn := bl_lt hq (by omega)
      refine bl_go (hn _ _ _ h) (fun p l e R s m args below meth c cells slots Qf D α cA A C H locs ls hP hS hl k => ?_)
      exact va_iald C.1 C.2.1 C.2.2.2.2.2.2.2.1 hP q q (by rw [bl_ws_at hqn, bl_cell_arr hq (by omega) (by omega)]) (by rw [bl_tys_at hqn]; unfold bl_aty; rw [hq]; rfl) hin hdg (k H locs ls hP hS hl)
  | caload =>
    cases bl_beq (show Nat.beq len 1 = true from hc)
    obtain ⟨q, i, st2, hst, hq, hin, hz⟩ := bl_pir_e h
    clear h
    subst hst
    have h := hz
    have hqn := bl_lt hq (by omega)
    refine bl_go (hn _ _ _ h) (fun p l e R s m args below meth c cells slots Qf D α cA A C H locs ls hP hS hl k => ?_)
    exact va_cald C.1 C.2.1 C.2.2.2.2.2.2.2.1 hP q q (by rw [bl_ws_at hqn, bl_cell_arr hq (by omega) (by omega)]) (by rw [bl_tys_at hqn]; unfold bl_aty; rw [hq]; rfl) hin hdg (k H locs ls hP hS hl)
  | baload =>
    cases bl_beq (show Nat.beq len 1 = true from hc)
    obtain ⟨q, i, st2, hst, hq, hin, hz⟩ := bl_pir_e h
    clear h
    subst hst
    have h := hz
    have hqn := bl_lt hq (by omega)
    refine bl_go (hn _ _ _ h) (fun p l e R s m args below meth c cells slots Qf D α cA A C H locs ls hP hS hl k => ?_)
    exact va_zald C.1 C.2.1 C.2.2.2.2.2.2.2.1 hP q q (by rw [bl_ws_at hqn, bl_cell_arr hq (by omega) (by omega)]) (by rw [bl_tys_at hqn]; unfold bl_aty; rw [hq]; rfl) hin hdg (k H locs ls hP hS hl)
  | aaload =>
    simp only [bl_chk, Bool.and_eq_true] at hc
    obtain ⟨⟨g1, g2⟩, g3⟩ := hc
    cases bl_beq g1
    have g2 := bl_ble g2
    have g3 := bl_blt g3
    obtain ⟨q, i, st2, hst, hq, hin, hz⟩ := bl_pir_e h
    clear h
    subst hst
    have h := hz
    have hqn := bl_lt hq g3
    have hty : ∃ CC, bl_aty q = .object CC := by
      unfold bl_aty
      rw [hq]
      rcases (show a = 23 ∨ a = 24 ∨ a = 25 by omega) with rfl | rfl | rfl
      · exact ⟨_, rfl⟩
      · exact ⟨_, rfl⟩
      · exact ⟨_, rfl⟩
    obtain ⟨CC, hty⟩ := hty
    refine bl_go (hn _ _ _ h) (fun p l e R s m args below meth c cells slots Qf D α cA A C H locs ls hP hS hl k => ?_)
    exact va_aldq (f := fun j => some (α (bl_rf q j))) C.1 C.2.1 C.2.2.2.2.2.2.2.1 hP q q (by rw [bl_ws_at hqn, bl_cell_refs hq g2]) (by rw [bl_tys_at hqn, hty]) hin hdg (k H locs ls hP hS hl)
  | iastore =>
    cases bl_beq (show Nat.beq len 1 = true from hc)
    obtain ⟨q, i, x, st2, hst, hq, hin, hz⟩ := bl_piir_e h
    clear h
    subst hst
    have h := hz
    have hqn := bl_lt hq (by omega)
    refine bl_go (hn _ _ _ h) (fun p l e R s m args below meth c cells slots Qf D α cA A C H locs ls hP hS hl k => ?_)
    exact va_iast C.1 C.2.1 C.2.2.2.2.2.2.2.1 hP (bl_D C.2.2.2.2.2.2.2.2.1 C.2.2.2.2.2.2.2.2.2.1) hS q q (by rw [bl_ws_at hqn, bl_cell_arr hq (by omega) (by omega)]) (by rw [bl_tys_at hqn]; unfold bl_aty; rw [hq]; rfl) hin hdg (fun H1 locs1 hP1 hD1 hS1 => k H1 locs1 ls (by rw [bl_ws_ast hq (by omega) (by omega)] at hP1; exact hP1) hS1 hl)
  | castore =>
    cases bl_beq (show Nat.beq len 1 = true from hc)
    obtain ⟨q, i, x, st2, hst, hq, hin, hz⟩ := bl_piir_e h
    clear h
    subst hst
    have h := hz
    have hqn := bl_lt hq (by omega)
    refine bl_go (hn _ _ _ h) (fun p l e R s m args below meth c cells slots Qf D α cA A C H locs ls hP hS hl k => ?_)
    exact va_cast C.1 C.2.1 C.2.2.2.2.2.2.2.1 hP (bl_D C.2.2.2.2.2.2.2.2.1 C.2.2.2.2.2.2.2.2.2.1) hS q q (by rw [bl_ws_at hqn, bl_cell_arr hq (by omega) (by omega)]) (by rw [bl_tys_at hqn]; unfold bl_aty; rw [hq]; rfl) hin hdg (fun H1 locs1 hP1 hD1 hS1 => k H1 locs1 ls (by rw [bl_ws_ast hq (by omega) (by omega)] at hP1; exact hP1) hS1 hl)
  | bastore =>
    cases bl_beq (show Nat.beq len 1 = true from hc)
    obtain ⟨q, i, x, st2, hst, hq, hin, hz⟩ := bl_piir_e h
    clear h
    subst hst
    have h := hz
    have hqn := bl_lt hq (by omega)
    refine bl_go (hn _ _ _ h) (fun p l e R s m args below meth c cells slots Qf D α cA A C H locs ls hP hS hl k => ?_)
    exact va_zast C.1 C.2.1 C.2.2.2.2.2.2.2.1 hP (bl_D C.2.2.2.2.2.2.2.2.1 C.2.2.2.2.2.2.2.2.2.1) hS q q (by rw [bl_ws_at hqn, bl_cell_arr hq (by omega) (by omega)]) (by rw [bl_tys_at hqn]; unfold bl_aty; rw [hq]; rfl) hin hdg (fun H1 locs1 hP1 hD1 hS1 => k H1 locs1 ls (by rw [bl_ws_ast hq (by omega) (by omega)] at hP1; exact hP1) hS1 hl)
  | arraylength =>
    simp only [bl_chk, Bool.and_eq_true, Bool.or_eq_true] at hc
    obtain ⟨g1, g2⟩ := hc
    cases bl_beq g1
    obtain ⟨q, st2, hst, hq, hz⟩ := bl_pr_e h
    clear h
    subst hst
    have h := hz
    rcases g2 with g2 | g2
    · cases bl_beq g2
      have hqn := bl_lt hq (by omega)
      refine bl_go (hn _ _ _ h) (fun p l e R s m args below meth c cells slots Qf D α cA A C H locs ls hP hS hl k => ?_)
      exact va_alen (x := (bl_ln q, .inl (σ q))) C.1 C.2.1 C.2.2.2.2.2.2.2.1 hP q q (by rw [bl_ws_at hqn, bl_cell_arr hq (by omega) (by omega)]) (bl_tys_at hqn) rfl hdg (k H locs ls hP hS hl)
    · cases bl_beq g2
      obtain ⟨j, hj, rfl⟩ : ∃ j, j < 4 ∧ q = bl_N + j := bl_ro_of hq
      refine bl_go (hn _ _ _ h) (fun p l e R s m args below meth c cells slots Qf D α cA A C H locs ls hP hS hl k => ?_)
      exact va_tlen C.1 C.2.1 (C.2.2.2.2.2.2.2.2.2.2.1.1 j hj).2 hS rfl hdg (k H locs ls hP hS hl)
  | getstatic idx =>
    simp only [bl_chk, Bool.and_eq_true, decide_eq_true_eq] at hc
    obtain ⟨⟨g1, g2⟩, g3⟩ := hc
    cases bl_beq g1
    refine bl_go (hn _ _ _ h) (fun p l e R s m args below meth c cells slots Qf D α cA A C H locs ls hP hS hl k => ?_)
    exact va_gets C.1 C.2.1 (C.2.2.2.2.2.2.2.2.2.2.1.1 a (bl_blt g2)).1 hS C.2.2.2.2.2.1 (C.2.2.2.2.2.2.1 _ (hM _ g3)) (fun x hx => hx) hdg (k H locs ls hP hS hl)
  | invokevirtual idx =>
    simp only [bl_chk, Bool.and_eq_true, decide_eq_true_eq] at hc
    obtain ⟨⟨⟨⟨⟨⟨⟨g1, g2⟩, g3⟩, g4⟩, g5⟩, g6⟩, g7⟩, g8⟩ := hc
    cases bl_beq g1
    obtain ⟨m1, m2, m3, m4, m5, m6⟩ := bl_mth_e g2
    obtain ⟨hrc, h⟩ := h
    cases hcs : bl_cs st a with
    | false => rw [hcs] at h; exact h.elim
    | true =>
      rw [hcs] at h
      have h : bl_call (bl_mi d) c0 (bl_ar st a) σ (fun vs τ => K r lv (vs ++ bl_dr st a) τ) := h
      obtain ⟨r0, τ, vs, hcon, hvs, h⟩ := bl_call_e h
      intro p l e R s m args below meth c cells slots Qf D α cA A C hret H locs ls hP hS hl
      refine bl_invV C hP hS hl.1 (bl_mi_in d) hM hdg (bl_blt g3) hcs hrc g4 g5 g6 m2 m3 m4 m5 m6 g7 (bl_blt g8) hcon (fun H1 locs1 hP1 hS1 => ?_)
      have := hn _ _ _ h p l e R s m args below meth c cells slots Qf D α cA A C hret H1 locs1 ls hP1 hS1 hl
      rw [List.map_append, hvs α] at this
      exact this
  | invokestatic idx =>
    simp only [bl_chk, Bool.and_eq_true] at hc
    obtain ⟨g1, hc⟩ := hc
    cases bl_beq g1
    cases hc10 : Nat.blt c0 10 with
    | true =>
      have h : bif bl_cs st a then bl_call (bl_mi d) c0 (bl_ar st a) σ (fun vs τ => K r lv (vs ++ bl_dr st a) τ) else False := by have := h; unfold bl_stp at this; simp only [hc10, cond_true] at this; exact this
      rw [hc10] at hc
      simp only [cond_true, Bool.and_eq_true, decide_eq_true_eq] at hc
      obtain ⟨g2, g3⟩ := hc
      obtain ⟨m1, m2, m3, m4, m5, m6⟩ := bl_mth_e g2
      cases hcs : bl_cs st a with
      | false => rw [hcs] at h; exact h.elim
      | true =>
        rw [hcs] at h
        have h : bl_call (bl_mi d) c0 (bl_ar st a) σ (fun vs τ => K r lv (vs ++ bl_dr st a) τ) := h
        obtain ⟨r0, τ, vs, hcon, hvs, h⟩ := bl_call_e h
        intro p l e R s m args below meth c cells slots Qf D α cA A C hret H locs ls hP hS hl
        refine bl_invS C hP hS hl.1 (bl_mi_in d) hM hdg hcs m1 g3 m2 m3 m4 m5 m6 hcon (fun H1 locs1 hP1 hS1 => ?_)
        have := hn _ _ _ h p l e R s m args below meth c cells slots Qf D α cA A C hret H1 locs1 ls hP1 hS1 hl
        rw [List.map_append, hvs α] at this
        exact this
    | false =>
      exact bl_intr hM hn hdg hc10 hc h
  | ireturn =>
    simp only [bl_chk, Bool.and_eq_true] at hc
    obtain ⟨g1, hc⟩ := hc
    cases bl_beq g1
    obtain ⟨x, st2, hst, hz⟩ := bl_pi_e h
    clear h
    subst hst
    have h := hz
    cases st2 with
    | cons y st3 => exact h.elim
    | nil =>
      intro p l e R s m args below meth c cells slots Qf D α cA A C hret H locs ls hP hS hl
      have hQ : Q (some (.int x)) σ ∧ ∃ ty, M.2.2.2.1 = some ty ∧ narrow ty (.int x) = .int x := by
        cases hcc : Nat.beq c0 1 with
        | true =>
          rw [hcc] at h hc
          have h : bl_bz x (Q (some (.int x)) σ) := h
          exact ⟨h.2, .boolean, of_decide_eq_true hc, (bl_bool h.1).1⟩
        | false =>
          rw [hcc] at h hc
          exact ⟨h, .int, of_decide_eq_true hc, rfl⟩
      exact hret pc (some (.int x)) σ H locs ls hQ.1 hP hS ⟨hdg, hQ.2⟩
  | areturn =>
    simp only [bl_chk, Bool.and_eq_true, decide_eq_true_eq] at hc
    obtain ⟨g1, hc⟩ := hc
    cases bl_beq g1
    obtain ⟨x, st2, hst, hz⟩ := bl_pr_e h
    clear h
    subst hst
    have h := hz
    cases st2 with
    | cons y st3 => exact h.elim
    | nil =>
      intro p l e R s m args below meth c cells slots Qf D α cA A C hret H locs ls hP hS hl
      exact hret pc (some (.ref x)) σ H locs ls h hP hS ⟨hdg, .int, hc⟩
  | return_ =>
    simp only [bl_chk, Bool.and_eq_true, decide_eq_true_eq] at hc
    obtain ⟨g1, hc⟩ := hc
    cases bl_beq g1
    cases st with
    | cons y st3 => exact h.elim
    | nil =>
      intro p l e R s m args below meth c cells slots Qf D α cA A C hret H locs ls hP hS hl
      exact hret pc none σ H locs ls h hP hS ⟨hdg, hc⟩
  | _ => exact h.elim
