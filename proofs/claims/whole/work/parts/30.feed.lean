/-! tear, seed, feed -/
theorem c_X8_clearAll (σ : bl_S) : bl_Con (bl_mi 56) [.ref 6] σ (some (.int (σ 83 4 + σ 84 4 + σ 85 4))) (bl_up (bl_up (bl_up σ 83 4 0) 84 4 0) 85 4 0) :=
  bl_c (Nat.le_of_ble_eq_true rfl) (vc_X8_clearAll_0 σ ⟨rfl, rfl⟩)
theorem pr_tear {σ : bl_S} (h : Inv σ) : Pr 97 170 [] σ := by
  obtain ⟨nb, np, nt, a, b, c, hl, hb, hp, hz, ht, hs, hm⟩ := id h
  obtain ⟨s0, s1, s2, s3, s4, s5, s6, s7, s8, s9, s10, s11, s12, s13, s14⟩ := id hs
  refine ⟨σ 83 4 + σ 84 4 + σ 85 4, bl_up (bl_up (bl_up σ 83 4 0) 84 4 0) 85 4 0, bl_up (bl_up (bl_up (bl_up (bl_up (bl_up σ 83 4 0) 84 4 0) 85 4 0) 1 49 0) 1 53 0) 1 58 0, bl_c (Nat.le_of_ble_eq_true rfl) (vc_X10_tear_0 σ ⟨_, _, c_X8_clearAll σ, rfl, rfl⟩), bl_c (Nat.le_of_ble_eq_true rfl) (vc_X11_tear_0 _ ⟨?_, rfl⟩), ?_⟩
  · rw [bl_up_c (by omega), bl_up_c (by omega), bl_up_c (by omega), bl_up_c (by omega), bl_up_c (by omega), bl_up_c (by omega), bl_up_c (by omega), bl_up_c (by omega), bl_up_c (by omega), s3, s4, s6, s7, s9, s10]
  · refine (Iv.seen (a' := 0) (b' := 0) (c' := 0) ⟨hl, hb, hp, hz, ht, hs, hm⟩ (fun d z1 z2 z3 z4 => ?_) (fun k z1 z2 z3 => ?_) ?_).inv
    · rw [bl_up_ne z1, bl_up_ne z1, bl_up_ne z1, bl_up_ne (by omega), bl_up_ne (by omega), bl_up_ne (by omega)]
    · rw [bl_up_j z3, bl_up_j z2, bl_up_j z1, bl_up_c (by omega), bl_up_c (by omega), bl_up_c (by omega)]
    · refine ⟨by omega, by omega, by omega, ?_, ?_, ?_, ?_, ?_, ?_, ?_, ?_, ?_, fun i hi => by omega, fun i hi => by omega, fun i hi => by omega⟩
      · simp [bl_up]; rfl
      · simp [bl_up]; rfl
      · simp [bl_up]; exact s5
      · simp [bl_up]; rfl
      · simp [bl_up]; rfl
      · simp [bl_up]; exact s8
      · simp [bl_up]; rfl
      · simp [bl_up]; rfl
      · simp [bl_up]; exact s11
theorem pr_seed {σ : bl_S} (h : Inv σ) (x : Int32) : Pr 98 171 [.int x] σ := by
  obtain ⟨nb, np, nt, a, b, c, hl, hb, hp, hz, ht, hs, hm⟩ := id h
  have hn := hl.1
  have hn2 := hl.2.1
  by_cases g : x < 0
  · exact ⟨-1000000002, σ, σ, bl_c (Nat.le_of_ble_eq_true rfl) (vc_X10_seed_0 σ x ⟨fun _ => ⟨rfl, rfl⟩, fun q => absurd g q⟩), bl_c (Nat.le_of_ble_eq_true rfl) (vc_X11_seed_0 σ x ⟨fun _ => ⟨rfl, rfl⟩, fun q => absurd g q⟩), h⟩
  obtain ⟨a1, a2, a3, a4, a5, a6, a7, a8, a9, a10, a11, a12⟩ := id hl
  refine ⟨σ 10 6, bl_up σ 10 6 x, bl_up (bl_up σ 10 6 x) 1 21 x, bl_c (Nat.le_of_ble_eq_true rfl) (vc_X10_seed_0 σ x ⟨fun q => absurd q g, fun _ => ⟨rfl, rfl⟩⟩), bl_c (Nat.le_of_ble_eq_true rfl) (vc_X11_seed_0 _ x ⟨fun q => absurd q g, fun _ => ⟨by rw [bl_up_c (by omega), a9], rfl⟩⟩), ?_⟩
  have cc : ∀ d, d ≠ 1 → d ≠ 10 → bl_up (bl_up σ 10 6 x) 1 21 x d = σ d := fun d z1 z2 => by rw [bl_up_ne z1, bl_up_ne z2]
  have c1 : ∀ k, k ≠ 21 → bl_up (bl_up σ 10 6 x) 1 21 x 1 k = σ 1 k := fun k z => by rw [bl_up_j z, bl_up_c (by omega)]
  have c10 : ∀ k, k ≠ 6 → bl_up (bl_up σ 10 6 x) 1 21 x 10 k = σ 10 k := fun k z => by rw [bl_up_c (by omega), bl_up_j z]
  have v1 : bl_up (bl_up σ 10 6 x) 1 21 x 1 21 = x := by rw [bl_up_s]
  have v2 : bl_up (bl_up σ 10 6 x) 1 21 x 10 6 = x := by rw [bl_up_c (by omega), bl_up_s]
  generalize bl_up (bl_up σ 10 6 x) 1 21 x = τ at *
  refine ⟨nb, np, nt, a, b, c, ⟨a1, a2, by rw [c10 3 (by omega)]; exact a3, by rw [c1 4 (by omega)]; exact a4, by rw [c10 4 (by omega)]; exact a5, by rw [c1 11 (by omega)]; exact a6, fun k hk => by rw [cc 11 (by omega) (by omega), c1 k (by omega)]; exact a7 k hk, by rw [c10 5 (by omega), c1 20 (by omega)]; exact a8, v2.trans v1.symm, by rw [v1]; exact g, by rw [c1 0 (by omega), c1 1 (by omega), c1 2 (by omega)]; exact a11, by rw [c1 3 (by omega)]; exact a12⟩, hb.fr hn (fun d z => cc d (by omega) (by omega)), hp.fr hn2 (fun d z => cc d (by omega) (by omega)), hz.fr (fun d z => cc d (by omega) (by omega)), ht.fr (cc _ (by omega) (by omega)) (by rw [cc 2 (by omega) (by omega)]) (cc _ (by omega) (by omega)) (cc _ (by omega) (by omega)) (fun k z => c1 k (by omega)), hs.fr (fun d z => cc d (by omega) (by omega)) (fun k z => c1 k (by omega)), hm.fr hn hn2 (fun d z => cc d (by omega) (by omega)) (fun b k _ _ => by rw [cc (14 + b) (by omega) (by omega)]) (fun p k _ _ => by rw [cc (20 + p) (by omega) (by omega)])⟩
theorem nar_char {c : Nat} (h : c ≤ 255) : vp_nar .char (Int32.toUInt32 (nI c) % 65536).toInt32 = nI c := by
  rw [pk_vc, pk_char, pk_tn (by omega), Nat.mod_eq_of_lt (by omega)]
theorem pr_feed {σ : bl_S} (h : Inv σ) (x : Int32) : Pr 65 105 [.int x] σ := by
  obtain ⟨nb, np, nt, a, b, c, hl, hb, hp, hz, ht, hs, hm⟩ := id h
  have hn := hl.1
  have hn2 := hl.2.1
  by_cases g : wi x 0 255 = 0
  · exact ⟨-1000000002, σ, σ, bl_c (Nat.le_of_ble_eq_true rfl) (vc_X10_feed_0 σ x ⟨_, _, c_X10_within σ x 0 255, fun _ => ⟨rfl, rfl⟩, fun q => absurd g q⟩), bl_c (Nat.le_of_ble_eq_true rfl) (vc_X11_feed_0 σ x ⟨_, _, c_X11_in σ x 0 255 (by decide) (by decide), fun _ => ⟨rfl, rfl⟩, fun q => absurd g q⟩), h⟩
  obtain ⟨t1, t2, t3, t4, t5⟩ := id ht
  have rm : (230 : Int32) = nI 230 := rfl
  have hfull : bl_Con (bl_mi 42) [.ref 2] σ (some (.int (if σ 2 1 < 230 then 0 else 1))) σ := bl_c (Nat.le_of_ble_eq_true rfl) (vc_X7_isFull_0 σ (fun v e => ⟨by rw [e]; split <;> first | exact Or.inl rfl | exact Or.inr rfl, by rw [e], rfl⟩))
  by_cases hf : nt = 230
  · refine ⟨-1000000004, σ, σ, bl_c (Nat.le_of_ble_eq_true rfl) (vc_X10_feed_0 σ x ⟨_, _, c_X10_within σ x 0 255, fun q => absurd q g, fun _ => ⟨_, _, hfull, fun q => absurd q ?_, fun _ => ⟨rfl, rfl⟩⟩⟩), bl_c (Nat.le_of_ble_eq_true rfl) (vc_X11_feed_0 σ x ⟨_, _, c_X11_in σ x 0 255 (by decide) (by decide), fun q => absurd q g, fun _ => ⟨fun _ => ⟨rfl, rfl⟩, fun q => absurd ?_ q⟩⟩), h⟩
    · rw [t2, rm, if_neg (nI_nlt (by omega) (by omega))]
      decide
    · rw [t3, hf]
      rfl
  obtain ⟨ch, -, hch, rfl⟩ := wi_c (a := 0) (b := 255) (by omega) (by omega) g
  have hlt : nt < 230 := by omega
  have hv : vp_in (nI nt) 230 := vp_in_nI hlt (by omega)
  have hc : Int32.toNatClampNeg (nI nt) = nt := nI_clamp (by omega)
  have happ : bl_Con (bl_mi 43) [.ref 2, .int (Int32.toUInt32 (nI ch) % 65536).toInt32] σ (some (.int (nI (nt + 1)))) (bl_up (bl_up σ 67 nt (nI ch)) 2 1 (nI (nt + 1))) := by
    refine bl_c (Nat.le_of_ble_eq_true rfl) (vc_X7_append_0 σ _ ⟨fun _ => by rw [t2]; exact hv, fun s e => ?_⟩)
    rw [if_pos (by rw [t2, rm]; exact nI_lt hlt (by omega)), t2, hc, nI_1, nar_char hch] at e
    rw [e]
    exact ⟨by rw [bl_up_s], rfl⟩
  refine ⟨nI (nt + 1), bl_up (bl_up σ 67 nt (nI ch)) 2 1 (nI (nt + 1)), bl_up (bl_up (bl_up (bl_up σ 67 nt (nI ch)) 2 1 (nI (nt + 1))) 116 nt (nI ch)) 1 23 (nI (nt + 1)), bl_c (Nat.le_of_ble_eq_true rfl) (vc_X10_feed_0 σ _ ⟨_, _, c_X10_within σ _ 0 255, fun q => absurd q g, fun _ => ⟨_, _, hfull, fun _ => ⟨_, _, happ, rfl, rfl⟩, fun q => absurd ?_ q⟩⟩), bl_c (Nat.le_of_ble_eq_true rfl) (vc_X11_feed_0 _ _ ⟨_, _, c_X11_in _ _ 0 255 (by decide) (by decide), fun q => absurd q g, fun _ => ⟨fun q => absurd q ?_, fun _ => ?_⟩⟩), ?_⟩
  · rw [t2, rm, if_pos (nI_lt hlt (by omega))]
  · rw [bl_up_c (by omega), bl_up_c (by omega), t3, rm, nI_eq (by omega) (by omega)]
    exact hf
  · rw [bl_up_c (by omega), bl_up_c (by omega), t3, hc, nI_1]
    exact ⟨hv, rfl, rfl⟩
  · have cc : ∀ d, d ≠ 1 → d ≠ 2 → d ≠ 67 → d ≠ 116 → bl_up (bl_up (bl_up (bl_up σ 67 nt (nI ch)) 2 1 (nI (nt + 1))) 116 nt (nI ch)) 1 23 (nI (nt + 1)) d = σ d := fun d z1 z2 z3 z4 => by rw [bl_up_ne z1, bl_up_ne z4, bl_up_ne z2, bl_up_ne z3]
    have c1 : ∀ k, k ≠ 23 → bl_up (bl_up (bl_up (bl_up σ 67 nt (nI ch)) 2 1 (nI (nt + 1))) 116 nt (nI ch)) 1 23 (nI (nt + 1)) 1 k = σ 1 k := fun k z => by rw [bl_up_j z, bl_up_c (by omega), bl_up_c (by omega), bl_up_c (by omega)]
    have v1 : bl_up (bl_up (bl_up (bl_up σ 67 nt (nI ch)) 2 1 (nI (nt + 1))) 116 nt (nI ch)) 1 23 (nI (nt + 1)) 1 23 = nI (nt + 1) := by rw [bl_up_s]
    have v2 : bl_up (bl_up (bl_up (bl_up σ 67 nt (nI ch)) 2 1 (nI (nt + 1))) 116 nt (nI ch)) 1 23 (nI (nt + 1)) 2 1 = nI (nt + 1) := by rw [bl_up_c (by omega), bl_up_c (by omega), bl_up_s]
    have w1 : ∀ i, bl_up (bl_up (bl_up (bl_up σ 67 nt (nI ch)) 2 1 (nI (nt + 1))) 116 nt (nI ch)) 1 23 (nI (nt + 1)) 67 i = if i = nt then nI ch else σ 67 i := fun i => by
      rw [bl_up_c (by omega), bl_up_c (by omega), bl_up_c (by omega)]
      simp [bl_up]
    have w2 : ∀ i, bl_up (bl_up (bl_up (bl_up σ 67 nt (nI ch)) 2 1 (nI (nt + 1))) 116 nt (nI ch)) 1 23 (nI (nt + 1)) 116 i = if i = nt then nI ch else σ 116 i := fun i => by
      rw [bl_up_c (by omega)]
      simp [bl_up]
    generalize bl_up (bl_up (bl_up (bl_up σ 67 nt (nI ch)) 2 1 (nI (nt + 1))) 116 nt (nI ch)) 1 23 (nI (nt + 1)) = τ at *
    have g4 : ∀ d, d ≠ 1 ∧ d ≠ 2 ∧ d ≠ 67 ∧ d ≠ 116 → τ d = σ d := fun d z => cc d z.1 z.2.1 z.2.2.1 z.2.2.2
    refine ⟨nb, np, nt + 1, a, b, c, hl.fr (g4 _ (by omega)) (g4 _ (by omega)) (fun k z => c1 k (by omega)), hb.fr hn (fun d z => g4 d (by omega)), hp.fr hn2 (fun d z => g4 d (by omega)), hz.fr (fun d z => g4 d (by omega)), ⟨by omega, v2, v1, fun i hi => ?_, by rw [g4 0 (by omega), c1 24 (by omega)]; exact t5⟩, hs.fr (fun d z => g4 d (by omega)) (fun k z => c1 k (by omega)), hm.fr hn hn2 (fun d z => g4 d (by omega)) (fun b k _ _ => by rw [g4 (14 + b) (by omega)]) (fun p k _ _ => by rw [g4 (20 + p) (by omega)])⟩
    rw [w1, w2]
    by_cases e : i = nt
    · rw [if_pos e, if_pos e]
      exact ⟨rfl, ch, hch, rfl⟩
    · rw [if_neg e, if_neg e]
      exact t4 i (by omega)
