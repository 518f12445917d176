/-! the pairs that add to what is seen -/
theorem pr_left {σ : bl_S} (h : Inv σ) (x y z : Int32) : Pr 91 161 [.int x, .int y, .int z] σ := by
  obtain ⟨nb, np, nt, a, b, c, hl, hb, hp, hz, ht, hs, hm⟩ := id h
  have hn := hl.1
  have hn2 := hl.2.1
  by_cases g0 : wi x 0 (nI nb - 1) = 0
  · exact ⟨-1000000001, σ, σ, bl_c (Nat.le_of_ble_eq_true rfl) (vc_X10_left_0 σ x y z ⟨_, _, g69 hl x, fun _ => ⟨rfl, rfl⟩, fun q => absurd g0 q⟩), bl_c (Nat.le_of_ble_eq_true rfl) (vc_X11_left_0 σ x y z ⟨_, _, g103 hl x, fun _ => ⟨rfl, rfl⟩, fun q => absurd g0 q⟩), h⟩
  by_cases g1 : wi y 0 9 = 0
  · exact ⟨-1000000002, σ, σ, bl_c (Nat.le_of_ble_eq_true rfl) (vc_X10_left_0 σ x y z ⟨_, _, g69 hl x, fun q => absurd q g0, fun _ => ⟨_, _, c_X10_within σ y 0 9, fun _ => ⟨rfl, rfl⟩, fun q => absurd g1 q⟩⟩), bl_c (Nat.le_of_ble_eq_true rfl) (vc_X11_left_0 σ x y z ⟨_, _, g103 hl x, fun q => absurd q g0, fun _ => ⟨_, _, c_X11_in σ y 0 9 (by decide) (by decide), fun _ => ⟨rfl, rfl⟩, fun q => absurd g1 q⟩⟩), h⟩
  by_cases g2 : wi z 0 999 = 0
  · exact ⟨-1000000002, σ, σ, bl_c (Nat.le_of_ble_eq_true rfl) (vc_X10_left_0 σ x y z ⟨_, _, g69 hl x, fun q => absurd q g0, fun _ => ⟨_, _, c_X10_within σ y 0 9, fun q => absurd q g1, fun _ => ⟨_, _, c_X10_within σ z 0 999, fun _ => ⟨rfl, rfl⟩, fun q => absurd g2 q⟩⟩⟩), bl_c (Nat.le_of_ble_eq_true rfl) (vc_X11_left_0 σ x y z ⟨_, _, g103 hl x, fun q => absurd q g0, fun _ => ⟨_, _, c_X11_in σ y 0 9 (by decide) (by decide), fun q => absurd q g1, fun _ => ⟨_, _, c_X11_in σ z 0 999 (by decide) (by decide), fun _ => ⟨rfl, rfl⟩, fun q => absurd g2 q⟩⟩⟩), h⟩
  obtain ⟨s0, s1, s2, s3, s4, s5, s6, s7, s8, s9, s10, s11, s12, s13, s14⟩ := id hs
  have rm : (8 : Int32) = nI 8 := rfl
  have hS : isS 83 90 := by unfold isS; omega
  by_cases hf : a = 8
  · refine ⟨-1000000004, σ, σ, bl_c (Nat.le_of_ble_eq_true rfl) (vc_X10_left_0 σ x y z ⟨_, _, g69 hl x, fun q => absurd q g0, fun _ => ⟨_, _, c_X10_within σ y 0 9, fun q => absurd q g1, fun _ => ⟨_, _, c_X10_within σ z 0 999, fun q => absurd q g2, fun _ => ⟨_, _, c_X9_isFull σ hS, fun q => absurd q ?_, fun _ => ⟨rfl, rfl⟩⟩⟩⟩⟩), bl_c (Nat.le_of_ble_eq_true rfl) (vc_X11_left_0 σ x y z ⟨_, _, g103 hl x, fun q => absurd q g0, fun _ => ⟨_, _, c_X11_in σ y 0 9 (by decide) (by decide), fun q => absurd q g1, fun _ => ⟨_, _, c_X11_in σ z 0 999 (by decide) (by decide), fun q => absurd q g2, fun _ => ⟨fun _ => ⟨rfl, rfl⟩, fun q => absurd ?_ q⟩⟩⟩⟩), h⟩
    · rw [s3, s5, rm, if_neg (nI_nlt (by omega) (by omega))]
      decide
    · rw [s4, hf]
      rfl
  have hlt : a < 8 := by omega
  have cS : ∀ d, d ≠ 83 ∧ (d < 90 ∨ 93 < d) → apS σ 83 90 a (-1) x y z d = σ d := fun d z => apS_c z.1 (by omega)
  have hl2 : Jl nb np (apS σ 83 90 a (-1) x y z) := hl.fr (cS _ (by omega)) (cS _ (by omega)) (fun k _ => by rw [cS 1 (by omega)])
  refine ⟨nI (a + 1), (apS σ 83 90 a (-1) x y z), (bl_up (bl_up (bl_up (bl_up (apS σ 83 90 a (-1) x y z) 135 a x) 136 a y) 137 a z) 1 49 (nI (a + 1))), bl_c (Nat.le_of_ble_eq_true rfl) (vc_X10_left_0 σ x y z ⟨_, _, g69 hl x, fun q => absurd q g0, fun _ => ⟨_, _, c_X10_within σ y 0 9, fun q => absurd q g1, fun _ => ⟨_, _, c_X10_within σ z 0 999, fun q => absurd q g2, fun _ => ⟨_, _, c_X9_isFull σ hS, fun _ => ⟨_, _, c_X9_append σ (-1) x y z hS s3 (s5.trans rm) hlt (by omega), rfl, rfl⟩, fun q => absurd ?_ q⟩⟩⟩⟩), bl_c (Nat.le_of_ble_eq_true rfl) (vc_X11_left_0 _ x y z ⟨_, _, g103 hl2 x, fun q => absurd q g0, fun _ => ⟨_, _, c_X11_in _ y 0 9 (by decide) (by decide), fun q => absurd q g1, fun _ => ⟨_, _, c_X11_in _ z 0 999 (by decide) (by decide), fun q => absurd q g2, fun _ => ⟨fun q => absurd q ?_, fun _ => ?_⟩⟩⟩⟩), ?_⟩
  · rw [s3, s5, rm, if_pos (nI_lt hlt (by omega))]
  · rw [cS 1 (by omega), s4, rm, nI_eq (by omega) (by omega)]
    exact hf
  · rw [cS 1 (by omega), s4, nI_clamp (by omega), nI_1]
    exact ⟨vp_in_nI hlt (by omega), rfl, rfl⟩
  · have cc : ∀ d, d ≠ 1 → d ≠ 83 → (d < 90 ∨ 93 < d) → d ≠ 135 → d ≠ 136 → d ≠ 137 → (bl_up (bl_up (bl_up (bl_up (apS σ 83 90 a (-1) x y z) 135 a x) 136 a y) 137 a z) 1 49 (nI (a + 1))) d = σ d := fun d z1 z2 z3 y0 y1 y2 => by rw [bl_up_ne z1, bl_up_ne y2, bl_up_ne y1, bl_up_ne y0, cS d ⟨z2, z3⟩]
    have c1 : ∀ k, k ≠ 49 → (bl_up (bl_up (bl_up (bl_up (apS σ 83 90 a (-1) x y z) 135 a x) 136 a y) 137 a z) 1 49 (nI (a + 1))) 1 k = σ 1 k := fun k z => by rw [bl_up_j z, bl_up_c (by omega), bl_up_c (by omega), bl_up_c (by omega), cS 1 (by omega)]
    have cj : ∀ d j, d ≠ 1 → d ≠ 83 → j ≠ a → (bl_up (bl_up (bl_up (bl_up (apS σ 83 90 a (-1) x y z) 135 a x) 136 a y) 137 a z) 1 49 (nI (a + 1))) d j = σ d j := fun d j z1 z2 z3 => by rw [bl_up_c z1, bl_up_j z3, bl_up_j z3, bl_up_j z3, apS_j z2 z3]
    have v1 : (bl_up (bl_up (bl_up (bl_up (apS σ 83 90 a (-1) x y z) 135 a x) 136 a y) 137 a z) 1 49 (nI (a + 1))) 1 49 = nI (a + 1) := by rw [bl_up_s]
    have v4 : (bl_up (bl_up (bl_up (bl_up (apS σ 83 90 a (-1) x y z) 135 a x) 136 a y) 137 a z) 1 49 (nI (a + 1))) 83 4 = nI (a + 1) := by rw [bl_up_c (by omega), bl_up_c (by omega), bl_up_c (by omega), bl_up_c (by omega), apS_4]
    have v5 : (bl_up (bl_up (bl_up (bl_up (apS σ 83 90 a (-1) x y z) 135 a x) 136 a y) 137 a z) 1 49 (nI (a + 1))) 83 5 = σ 83 5 := by rw [bl_up_c (by omega), bl_up_c (by omega), bl_up_c (by omega), bl_up_c (by omega), apS_5 hS (by omega)]
    have w0 : (bl_up (bl_up (bl_up (bl_up (apS σ 83 90 a (-1) x y z) 135 a x) 136 a y) 137 a z) 1 49 (nI (a + 1))) 90 a = (-1) := by rw [bl_up_c (by omega), bl_up_c (by omega), bl_up_c (by omega), bl_up_c (by omega)]; exact apS_0 (by omega)
    have w1 : (bl_up (bl_up (bl_up (bl_up (apS σ 83 90 a (-1) x y z) 135 a x) 136 a y) 137 a z) 1 49 (nI (a + 1))) 91 a = x := by rw [bl_up_c (by omega), bl_up_c (by omega), bl_up_c (by omega), bl_up_c (by omega)]; exact apS_1 (by omega)
    have w2 : (bl_up (bl_up (bl_up (bl_up (apS σ 83 90 a (-1) x y z) 135 a x) 136 a y) 137 a z) 1 49 (nI (a + 1))) 92 a = y := by rw [bl_up_c (by omega), bl_up_c (by omega), bl_up_c (by omega), bl_up_c (by omega)]; exact apS_2 (by omega)
    have w3 : (bl_up (bl_up (bl_up (bl_up (apS σ 83 90 a (-1) x y z) 135 a x) 136 a y) 137 a z) 1 49 (nI (a + 1))) 93 a = z := by rw [bl_up_c (by omega), bl_up_c (by omega), bl_up_c (by omega), bl_up_c (by omega)]; exact apS_3 (by omega)
    have m0 : (bl_up (bl_up (bl_up (bl_up (apS σ 83 90 a (-1) x y z) 135 a x) 136 a y) 137 a z) 1 49 (nI (a + 1))) 135 a = x := by rw [bl_up_c (by omega), bl_up_c (by omega), bl_up_c (by omega), bl_up_s]
    have m1 : (bl_up (bl_up (bl_up (bl_up (apS σ 83 90 a (-1) x y z) 135 a x) 136 a y) 137 a z) 1 49 (nI (a + 1))) 136 a = y := by rw [bl_up_c (by omega), bl_up_c (by omega), bl_up_s]
    have m2 : (bl_up (bl_up (bl_up (bl_up (apS σ 83 90 a (-1) x y z) 135 a x) 136 a y) 137 a z) 1 49 (nI (a + 1))) 137 a = z := by rw [bl_up_c (by omega), bl_up_s]
    generalize (bl_up (bl_up (bl_up (bl_up (apS σ 83 90 a (-1) x y z) 135 a x) 136 a y) 137 a z) 1 49 (nI (a + 1))) = τ at *
    refine (Iv.seen (a' := a + 1) (b' := b) (c' := c) ⟨hl, hb, hp, hz, ht, hs, hm⟩ (fun d z1 z2 z3 z4 => cc d z1 (by omega) (by omega) (by omega) (by omega) (by omega)) (fun k z1 z2 z3 => c1 k (by omega)) ?_).inv
    refine ⟨(by omega), s1, s2, v4, v1, v5.trans s5, (by rw [cc 84 (by omega) (by omega) (by omega) (by omega) (by omega) (by omega)]; exact s6), (by rw [c1 53 (by omega)]; exact s7), (by rw [cc 84 (by omega) (by omega) (by omega) (by omega) (by omega) (by omega)]; exact s8), (by rw [cc 85 (by omega) (by omega) (by omega) (by omega) (by omega) (by omega)]; exact s9), (by rw [c1 58 (by omega)]; exact s10), (by rw [cc 85 (by omega) (by omega) (by omega) (by omega) (by omega) (by omega)]; exact s11), fun i hi => ?_, fun i hi => ?_, fun i hi => ?_⟩
    · by_cases e : i = a
      · subst e
        refine ⟨by rw [w1, m0], by rw [w2, m1], by rw [w3, m2], (by rw [m0]; exact wi_n (by omega) g0)⟩
      · rw [cj 91 i (by omega) (by omega) e, cj 92 i (by omega) (by omega) e, cj 93 i (by omega) (by omega) e, cj 135 i (by omega) (by omega) e, cj 136 i (by omega) (by omega) e, cj 137 i (by omega) (by omega) e]
        exact s12 i (by omega)
    · rw [cc 94 (by omega) (by omega) (by omega) (by omega) (by omega) (by omega), cc 95 (by omega) (by omega) (by omega) (by omega) (by omega) (by omega), cc 96 (by omega) (by omega) (by omega) (by omega) (by omega) (by omega), cc 97 (by omega) (by omega) (by omega) (by omega) (by omega) (by omega), cc 138 (by omega) (by omega) (by omega) (by omega) (by omega) (by omega), cc 139 (by omega) (by omega) (by omega) (by omega) (by omega) (by omega), cc 140 (by omega) (by omega) (by omega) (by omega) (by omega) (by omega), cc 141 (by omega) (by omega) (by omega) (by omega) (by omega) (by omega)]
      exact s13 i hi
    · rw [cc 98 (by omega) (by omega) (by omega) (by omega) (by omega) (by omega), cc 99 (by omega) (by omega) (by omega) (by omega) (by omega) (by omega), cc 101 (by omega) (by omega) (by omega) (by omega) (by omega) (by omega), cc 142 (by omega) (by omega) (by omega) (by omega) (by omega) (by omega), cc 143 (by omega) (by omega) (by omega) (by omega) (by omega) (by omega), cc 144 (by omega) (by omega) (by omega) (by omega) (by omega) (by omega)]
      exact s14 i hi
theorem pr_can {σ : bl_S} (h : Inv σ) (x y z w : Int32) : Pr 93 165 [.int x, .int y, .int z, .int w] σ := by
  obtain ⟨nb, np, nt, a, b, c, hl, hb, hp, hz, ht, hs, hm⟩ := id h
  have hn := hl.1
  have hn2 := hl.2.1
  by_cases g0 : wi x 0 (nI np - 1) = 0
  · exact ⟨-1000000001, σ, σ, bl_c (Nat.le_of_ble_eq_true rfl) (vc_X10_can_0 σ x y z w ⟨_, _, g71 hl x, fun _ => ⟨rfl, rfl⟩, fun q => absurd g0 q⟩), bl_c (Nat.le_of_ble_eq_true rfl) (vc_X11_can_0 σ x y z w ⟨_, _, g104 hl x, fun _ => ⟨rfl, rfl⟩, fun q => absurd g0 q⟩), h⟩
  by_cases g1 : wi y 0 (nI nb - 1) = 0
  · exact ⟨-1000000001, σ, σ, bl_c (Nat.le_of_ble_eq_true rfl) (vc_X10_can_0 σ x y z w ⟨_, _, g71 hl x, fun q => absurd q g0, fun _ => ⟨_, _, g69 hl y, fun _ => ⟨rfl, rfl⟩, fun q => absurd g1 q⟩⟩), bl_c (Nat.le_of_ble_eq_true rfl) (vc_X11_can_0 σ x y z w ⟨_, _, g104 hl x, fun q => absurd q g0, fun _ => ⟨_, _, g103 hl y, fun _ => ⟨rfl, rfl⟩, fun q => absurd g1 q⟩⟩), h⟩
  by_cases g2 : wi z 1 30 = 0
  · exact ⟨-1000000002, σ, σ, bl_c (Nat.le_of_ble_eq_true rfl) (vc_X10_can_0 σ x y z w ⟨_, _, g71 hl x, fun q => absurd q g0, fun _ => ⟨_, _, g69 hl y, fun q => absurd q g1, fun _ => ⟨_, _, c_X10_within σ z 1 30, fun _ => ⟨rfl, rfl⟩, fun q => absurd g2 q⟩⟩⟩), bl_c (Nat.le_of_ble_eq_true rfl) (vc_X11_can_0 σ x y z w ⟨_, _, g104 hl x, fun q => absurd q g0, fun _ => ⟨_, _, g103 hl y, fun q => absurd q g1, fun _ => ⟨_, _, c_X11_in σ z 1 30 (by decide) (by decide), fun _ => ⟨rfl, rfl⟩, fun q => absurd g2 q⟩⟩⟩), h⟩
  by_cases g3 : wi w 0 999 = 0
  · exact ⟨-1000000002, σ, σ, bl_c (Nat.le_of_ble_eq_true rfl) (vc_X10_can_0 σ x y z w ⟨_, _, g71 hl x, fun q => absurd q g0, fun _ => ⟨_, _, g69 hl y, fun q => absurd q g1, fun _ => ⟨_, _, c_X10_within σ z 1 30, fun q => absurd q g2, fun _ => ⟨_, _, c_X10_within σ w 0 999, fun _ => ⟨rfl, rfl⟩, fun q => absurd g3 q⟩⟩⟩⟩), bl_c (Nat.le_of_ble_eq_true rfl) (vc_X11_can_0 σ x y z w ⟨_, _, g104 hl x, fun q => absurd q g0, fun _ => ⟨_, _, g103 hl y, fun q => absurd q g1, fun _ => ⟨_, _, c_X11_in σ z 1 30 (by decide) (by decide), fun q => absurd q g2, fun _ => ⟨_, _, c_X11_in σ w 0 999 (by decide) (by decide), fun _ => ⟨rfl, rfl⟩, fun q => absurd g3 q⟩⟩⟩⟩), h⟩
  obtain ⟨s0, s1, s2, s3, s4, s5, s6, s7, s8, s9, s10, s11, s12, s13, s14⟩ := id hs
  have rm : (8 : Int32) = nI 8 := rfl
  have hS : isS 84 94 := by unfold isS; omega
  by_cases hf : b = 8
  · refine ⟨-1000000004, σ, σ, bl_c (Nat.le_of_ble_eq_true rfl) (vc_X10_can_0 σ x y z w ⟨_, _, g71 hl x, fun q => absurd q g0, fun _ => ⟨_, _, g69 hl y, fun q => absurd q g1, fun _ => ⟨_, _, c_X10_within σ z 1 30, fun q => absurd q g2, fun _ => ⟨_, _, c_X10_within σ w 0 999, fun q => absurd q g3, fun _ => ⟨_, _, c_X9_isFull σ hS, fun q => absurd q ?_, fun _ => ⟨rfl, rfl⟩⟩⟩⟩⟩⟩), bl_c (Nat.le_of_ble_eq_true rfl) (vc_X11_can_0 σ x y z w ⟨_, _, g104 hl x, fun q => absurd q g0, fun _ => ⟨_, _, g103 hl y, fun q => absurd q g1, fun _ => ⟨_, _, c_X11_in σ z 1 30 (by decide) (by decide), fun q => absurd q g2, fun _ => ⟨_, _, c_X11_in σ w 0 999 (by decide) (by decide), fun q => absurd q g3, fun _ => ⟨fun _ => ⟨rfl, rfl⟩, fun q => absurd ?_ q⟩⟩⟩⟩⟩), h⟩
    · rw [s6, s8, rm, if_neg (nI_nlt (by omega) (by omega))]
      decide
    · rw [s7, hf]
      rfl
  have hlt : b < 8 := by omega
  have cS : ∀ d, d ≠ 84 ∧ (d < 94 ∨ 97 < d) → apS σ 84 94 b x y z w d = σ d := fun d z => apS_c z.1 (by omega)
  have hl2 : Jl nb np (apS σ 84 94 b x y z w) := hl.fr (cS _ (by omega)) (cS _ (by omega)) (fun k _ => by rw [cS 1 (by omega)])
  refine ⟨nI (b + 1), (apS σ 84 94 b x y z w), (bl_up (bl_up (bl_up (bl_up (bl_up (apS σ 84 94 b x y z w) 138 b x) 139 b y) 140 b z) 141 b w) 1 53 (nI (b + 1))), bl_c (Nat.le_of_ble_eq_true rfl) (vc_X10_can_0 σ x y z w ⟨_, _, g71 hl x, fun q => absurd q g0, fun _ => ⟨_, _, g69 hl y, fun q => absurd q g1, fun _ => ⟨_, _, c_X10_within σ z 1 30, fun q => absurd q g2, fun _ => ⟨_, _, c_X10_within σ w 0 999, fun q => absurd q g3, fun _ => ⟨_, _, c_X9_isFull σ hS, fun _ => ⟨_, _, c_X9_append σ x y z w hS s6 (s8.trans rm) hlt (by omega), rfl, rfl⟩, fun q => absurd ?_ q⟩⟩⟩⟩⟩), bl_c (Nat.le_of_ble_eq_true rfl) (vc_X11_can_0 _ x y z w ⟨_, _, g104 hl2 x, fun q => absurd q g0, fun _ => ⟨_, _, g103 hl2 y, fun q => absurd q g1, fun _ => ⟨_, _, c_X11_in _ z 1 30 (by decide) (by decide), fun q => absurd q g2, fun _ => ⟨_, _, c_X11_in _ w 0 999 (by decide) (by decide), fun q => absurd q g3, fun _ => ⟨fun q => absurd q ?_, fun _ => ?_⟩⟩⟩⟩⟩), ?_⟩
  · rw [s6, s8, rm, if_pos (nI_lt hlt (by omega))]
  · rw [cS 1 (by omega), s7, rm, nI_eq (by omega) (by omega)]
    exact hf
  · rw [cS 1 (by omega), s7, nI_clamp (by omega), nI_1]
    exact ⟨vp_in_nI hlt (by omega), rfl, rfl⟩
  · have cc : ∀ d, d ≠ 1 → d ≠ 84 → (d < 94 ∨ 97 < d) → d ≠ 138 → d ≠ 139 → d ≠ 140 → d ≠ 141 → (bl_up (bl_up (bl_up (bl_up (bl_up (apS σ 84 94 b x y z w) 138 b x) 139 b y) 140 b z) 141 b w) 1 53 (nI (b + 1))) d = σ d := fun d z1 z2 z3 y0 y1 y2 y3 => by rw [bl_up_ne z1, bl_up_ne y3, bl_up_ne y2, bl_up_ne y1, bl_up_ne y0, cS d ⟨z2, z3⟩]
    have c1 : ∀ k, k ≠ 53 → (bl_up (bl_up (bl_up (bl_up (bl_up (apS σ 84 94 b x y z w) 138 b x) 139 b y) 140 b z) 141 b w) 1 53 (nI (b + 1))) 1 k = σ 1 k := fun k z => by rw [bl_up_j z, bl_up_c (by omega), bl_up_c (by omega), bl_up_c (by omega), bl_up_c (by omega), cS 1 (by omega)]
    have cj : ∀ d j, d ≠ 1 → d ≠ 84 → j ≠ b → (bl_up (bl_up (bl_up (bl_up (bl_up (apS σ 84 94 b x y z w) 138 b x) 139 b y) 140 b z) 141 b w) 1 53 (nI (b + 1))) d j = σ d j := fun d j z1 z2 z3 => by rw [bl_up_c z1, bl_up_j z3, bl_up_j z3, bl_up_j z3, bl_up_j z3, apS_j z2 z3]
    have v1 : (bl_up (bl_up (bl_up (bl_up (bl_up (apS σ 84 94 b x y z w) 138 b x) 139 b y) 140 b z) 141 b w) 1 53 (nI (b + 1))) 1 53 = nI (b + 1) := by rw [bl_up_s]
    have v4 : (bl_up (bl_up (bl_up (bl_up (bl_up (apS σ 84 94 b x y z w) 138 b x) 139 b y) 140 b z) 141 b w) 1 53 (nI (b + 1))) 84 4 = nI (b + 1) := by rw [bl_up_c (by omega), bl_up_c (by omega), bl_up_c (by omega), bl_up_c (by omega), bl_up_c (by omega), apS_4]
    have v5 : (bl_up (bl_up (bl_up (bl_up (bl_up (apS σ 84 94 b x y z w) 138 b x) 139 b y) 140 b z) 141 b w) 1 53 (nI (b + 1))) 84 5 = σ 84 5 := by rw [bl_up_c (by omega), bl_up_c (by omega), bl_up_c (by omega), bl_up_c (by omega), bl_up_c (by omega), apS_5 hS (by omega)]
    have w0 : (bl_up (bl_up (bl_up (bl_up (bl_up (apS σ 84 94 b x y z w) 138 b x) 139 b y) 140 b z) 141 b w) 1 53 (nI (b + 1))) 94 b = x := by rw [bl_up_c (by omega), bl_up_c (by omega), bl_up_c (by omega), bl_up_c (by omega), bl_up_c (by omega)]; exact apS_0 (by omega)
    have w1 : (bl_up (bl_up (bl_up (bl_up (bl_up (apS σ 84 94 b x y z w) 138 b x) 139 b y) 140 b z) 141 b w) 1 53 (nI (b + 1))) 95 b = y := by rw [bl_up_c (by omega), bl_up_c (by omega), bl_up_c (by omega), bl_up_c (by omega), bl_up_c (by omega)]; exact apS_1 (by omega)
    have w2 : (bl_up (bl_up (bl_up (bl_up (bl_up (apS σ 84 94 b x y z w) 138 b x) 139 b y) 140 b z) 141 b w) 1 53 (nI (b + 1))) 96 b = z := by rw [bl_up_c (by omega), bl_up_c (by omega), bl_up_c (by omega), bl_up_c (by omega), bl_up_c (by omega)]; exact apS_2 (by omega)
    have w3 : (bl_up (bl_up (bl_up (bl_up (bl_up (apS σ 84 94 b x y z w) 138 b x) 139 b y) 140 b z) 141 b w) 1 53 (nI (b + 1))) 97 b = w := by rw [bl_up_c (by omega), bl_up_c (by omega), bl_up_c (by omega), bl_up_c (by omega), bl_up_c (by omega)]; exact apS_3 (by omega)
    have m0 : (bl_up (bl_up (bl_up (bl_up (bl_up (apS σ 84 94 b x y z w) 138 b x) 139 b y) 140 b z) 141 b w) 1 53 (nI (b + 1))) 138 b = x := by rw [bl_up_c (by omega), bl_up_c (by omega), bl_up_c (by omega), bl_up_c (by omega), bl_up_s]
    have m1 : (bl_up (bl_up (bl_up (bl_up (bl_up (apS σ 84 94 b x y z w) 138 b x) 139 b y) 140 b z) 141 b w) 1 53 (nI (b + 1))) 139 b = y := by rw [bl_up_c (by omega), bl_up_c (by omega), bl_up_c (by omega), bl_up_s]
    have m2 : (bl_up (bl_up (bl_up (bl_up (bl_up (apS σ 84 94 b x y z w) 138 b x) 139 b y) 140 b z) 141 b w) 1 53 (nI (b + 1))) 140 b = z := by rw [bl_up_c (by omega), bl_up_c (by omega), bl_up_s]
    have m3 : (bl_up (bl_up (bl_up (bl_up (bl_up (apS σ 84 94 b x y z w) 138 b x) 139 b y) 140 b z) 141 b w) 1 53 (nI (b + 1))) 141 b = w := by rw [bl_up_c (by omega), bl_up_s]
    generalize (bl_up (bl_up (bl_up (bl_up (bl_up (apS σ 84 94 b x y z w) 138 b x) 139 b y) 140 b z) 141 b w) 1 53 (nI (b + 1))) = τ at *
    refine (Iv.seen (a' := a) (b' := b + 1) (c' := c) ⟨hl, hb, hp, hz, ht, hs, hm⟩ (fun d z1 z2 z3 z4 => cc d z1 (by omega) (by omega) (by omega) (by omega) (by omega) (by omega)) (fun k z1 z2 z3 => c1 k (by omega)) ?_).inv
    refine ⟨s0, (by omega), s2, (by rw [cc 83 (by omega) (by omega) (by omega) (by omega) (by omega) (by omega) (by omega)]; exact s3), (by rw [c1 49 (by omega)]; exact s4), (by rw [cc 83 (by omega) (by omega) (by omega) (by omega) (by omega) (by omega) (by omega)]; exact s5), v4, v1, v5.trans s8, (by rw [cc 85 (by omega) (by omega) (by omega) (by omega) (by omega) (by omega) (by omega)]; exact s9), (by rw [c1 58 (by omega)]; exact s10), (by rw [cc 85 (by omega) (by omega) (by omega) (by omega) (by omega) (by omega) (by omega)]; exact s11), fun i hi => ?_, fun i hi => ?_, fun i hi => ?_⟩
    · rw [cc 91 (by omega) (by omega) (by omega) (by omega) (by omega) (by omega) (by omega), cc 92 (by omega) (by omega) (by omega) (by omega) (by omega) (by omega) (by omega), cc 93 (by omega) (by omega) (by omega) (by omega) (by omega) (by omega) (by omega), cc 135 (by omega) (by omega) (by omega) (by omega) (by omega) (by omega) (by omega), cc 136 (by omega) (by omega) (by omega) (by omega) (by omega) (by omega) (by omega), cc 137 (by omega) (by omega) (by omega) (by omega) (by omega) (by omega) (by omega)]
      exact s12 i hi
    · by_cases e : i = b
      · subst e
        refine ⟨by rw [w0, m0], by rw [w1, m1], by rw [w2, m2], by rw [w3, m3], (by rw [m0]; exact wi_n (by omega) g0), (by rw [m1]; exact wi_n (by omega) g1), (by rw [m2]; obtain ⟨j, _, q2, q3⟩ := wi_c (a := 1) (b := 30) (by omega) (by omega) g2; exact ⟨j, q2, q3⟩)⟩
      · rw [cj 94 i (by omega) (by omega) e, cj 95 i (by omega) (by omega) e, cj 96 i (by omega) (by omega) e, cj 97 i (by omega) (by omega) e, cj 138 i (by omega) (by omega) e, cj 139 i (by omega) (by omega) e, cj 140 i (by omega) (by omega) e, cj 141 i (by omega) (by omega) e]
        exact s13 i (by omega)
    · rw [cc 98 (by omega) (by omega) (by omega) (by omega) (by omega) (by omega) (by omega), cc 99 (by omega) (by omega) (by omega) (by omega) (by omega) (by omega) (by omega), cc 101 (by omega) (by omega) (by omega) (by omega) (by omega) (by omega) (by omega), cc 142 (by omega) (by omega) (by omega) (by omega) (by omega) (by omega) (by omega), cc 143 (by omega) (by omega) (by omega) (by omega) (by omega) (by omega) (by omega), cc 144 (by omega) (by omega) (by omega) (by omega) (by omega) (by omega) (by omega)]
      exact s14 i hi
theorem pr_write {σ : bl_S} (h : Inv σ) (x y z : Int32) : Pr 95 168 [.int x, .int y, .int z] σ := by
  obtain ⟨nb, np, nt, a, b, c, hl, hb, hp, hz, ht, hs, hm⟩ := id h
  have hn := hl.1
  have hn2 := hl.2.1
  by_cases g0 : wi x 0 (nI np - 1) = 0
  · exact ⟨-1000000001, σ, σ, bl_c (Nat.le_of_ble_eq_true rfl) (vc_X10_write_0 σ x y z ⟨_, _, g71 hl x, fun _ => ⟨rfl, rfl⟩, fun q => absurd g0 q⟩), bl_c (Nat.le_of_ble_eq_true rfl) (vc_X11_write_0 σ x y z ⟨_, _, g104 hl x, fun _ => ⟨rfl, rfl⟩, fun q => absurd g0 q⟩), h⟩
  by_cases g1 : wi y 0 (nI nb - 1) = 0
  · exact ⟨-1000000001, σ, σ, bl_c (Nat.le_of_ble_eq_true rfl) (vc_X10_write_0 σ x y z ⟨_, _, g71 hl x, fun q => absurd q g0, fun _ => ⟨_, _, g69 hl y, fun _ => ⟨rfl, rfl⟩, fun q => absurd g1 q⟩⟩), bl_c (Nat.le_of_ble_eq_true rfl) (vc_X11_write_0 σ x y z ⟨_, _, g104 hl x, fun q => absurd q g0, fun _ => ⟨_, _, g103 hl y, fun _ => ⟨rfl, rfl⟩, fun q => absurd g1 q⟩⟩), h⟩
  by_cases g2 : wi z 0 20 = 0
  · exact ⟨-1000000002, σ, σ, bl_c (Nat.le_of_ble_eq_true rfl) (vc_X10_write_0 σ x y z ⟨_, _, g71 hl x, fun q => absurd q g0, fun _ => ⟨_, _, g69 hl y, fun q => absurd q g1, fun _ => ⟨_, _, c_X10_within σ z 0 20, fun _ => ⟨rfl, rfl⟩, fun q => absurd g2 q⟩⟩⟩), bl_c (Nat.le_of_ble_eq_true rfl) (vc_X11_write_0 σ x y z ⟨_, _, g104 hl x, fun q => absurd q g0, fun _ => ⟨_, _, g103 hl y, fun q => absurd q g1, fun _ => ⟨_, _, c_X11_in σ z 0 20 (by decide) (by decide), fun _ => ⟨rfl, rfl⟩, fun q => absurd g2 q⟩⟩⟩), h⟩
  obtain ⟨s0, s1, s2, s3, s4, s5, s6, s7, s8, s9, s10, s11, s12, s13, s14⟩ := id hs
  have rm : (20 : Int32) = nI 20 := rfl
  have hS : isS 85 98 := by unfold isS; omega
  by_cases hf : c = 20
  · refine ⟨-1000000004, σ, σ, bl_c (Nat.le_of_ble_eq_true rfl) (vc_X10_write_0 σ x y z ⟨_, _, g71 hl x, fun q => absurd q g0, fun _ => ⟨_, _, g69 hl y, fun q => absurd q g1, fun _ => ⟨_, _, c_X10_within σ z 0 20, fun q => absurd q g2, fun _ => ⟨_, _, c_X9_isFull σ hS, fun q => absurd q ?_, fun _ => ⟨rfl, rfl⟩⟩⟩⟩⟩), bl_c (Nat.le_of_ble_eq_true rfl) (vc_X11_write_0 σ x y z ⟨_, _, g104 hl x, fun q => absurd q g0, fun _ => ⟨_, _, g103 hl y, fun q => absurd q g1, fun _ => ⟨_, _, c_X11_in σ z 0 20 (by decide) (by decide), fun q => absurd q g2, fun _ => ⟨fun _ => ⟨rfl, rfl⟩, fun q => absurd ?_ q⟩⟩⟩⟩), h⟩
    · rw [s9, s11, rm, if_neg (nI_nlt (by omega) (by omega))]
      decide
    · rw [s10, hf]
      rfl
  have hlt : c < 20 := by omega
  have cS : ∀ d, d ≠ 85 ∧ (d < 98 ∨ 101 < d) → apS σ 85 98 c x y 1 z d = σ d := fun d z => apS_c z.1 (by omega)
  have hl2 : Jl nb np (apS σ 85 98 c x y 1 z) := hl.fr (cS _ (by omega)) (cS _ (by omega)) (fun k _ => by rw [cS 1 (by omega)])
  refine ⟨nI (c + 1), (apS σ 85 98 c x y 1 z), (bl_up (bl_up (bl_up (bl_up (apS σ 85 98 c x y 1 z) 142 c x) 143 c y) 144 c z) 1 58 (nI (c + 1))), bl_c (Nat.le_of_ble_eq_true rfl) (vc_X10_write_0 σ x y z ⟨_, _, g71 hl x, fun q => absurd q g0, fun _ => ⟨_, _, g69 hl y, fun q => absurd q g1, fun _ => ⟨_, _, c_X10_within σ z 0 20, fun q => absurd q g2, fun _ => ⟨_, _, c_X9_isFull σ hS, fun _ => ⟨_, _, c_X9_append σ x y 1 z hS s9 (s11.trans rm) hlt (by omega), rfl, rfl⟩, fun q => absurd ?_ q⟩⟩⟩⟩), bl_c (Nat.le_of_ble_eq_true rfl) (vc_X11_write_0 _ x y z ⟨_, _, g104 hl2 x, fun q => absurd q g0, fun _ => ⟨_, _, g103 hl2 y, fun q => absurd q g1, fun _ => ⟨_, _, c_X11_in _ z 0 20 (by decide) (by decide), fun q => absurd q g2, fun _ => ⟨fun q => absurd q ?_, fun _ => ?_⟩⟩⟩⟩), ?_⟩
  · rw [s9, s11, rm, if_pos (nI_lt hlt (by omega))]
  · rw [cS 1 (by omega), s10, rm, nI_eq (by omega) (by omega)]
    exact hf
  · rw [cS 1 (by omega), s10, nI_clamp (by omega), nI_1]
    exact ⟨vp_in_nI hlt (by omega), rfl, rfl⟩
  · have cc : ∀ d, d ≠ 1 → d ≠ 85 → (d < 98 ∨ 101 < d) → d ≠ 142 → d ≠ 143 → d ≠ 144 → (bl_up (bl_up (bl_up (bl_up (apS σ 85 98 c x y 1 z) 142 c x) 143 c y) 144 c z) 1 58 (nI (c + 1))) d = σ d := fun d z1 z2 z3 y0 y1 y2 => by rw [bl_up_ne z1, bl_up_ne y2, bl_up_ne y1, bl_up_ne y0, cS d ⟨z2, z3⟩]
    have c1 : ∀ k, k ≠ 58 → (bl_up (bl_up (bl_up (bl_up (apS σ 85 98 c x y 1 z) 142 c x) 143 c y) 144 c z) 1 58 (nI (c + 1))) 1 k = σ 1 k := fun k z => by rw [bl_up_j z, bl_up_c (by omega), bl_up_c (by omega), bl_up_c (by omega), cS 1 (by omega)]
    have cj : ∀ d j, d ≠ 1 → d ≠ 85 → j ≠ c → (bl_up (bl_up (bl_up (bl_up (apS σ 85 98 c x y 1 z) 142 c x) 143 c y) 144 c z) 1 58 (nI (c + 1))) d j = σ d j := fun d j z1 z2 z3 => by rw [bl_up_c z1, bl_up_j z3, bl_up_j z3, bl_up_j z3, apS_j z2 z3]
    have v1 : (bl_up (bl_up (bl_up (bl_up (apS σ 85 98 c x y 1 z) 142 c x) 143 c y) 144 c z) 1 58 (nI (c + 1))) 1 58 = nI (c + 1) := by rw [bl_up_s]
    have v4 : (bl_up (bl_up (bl_up (bl_up (apS σ 85 98 c x y 1 z) 142 c x) 143 c y) 144 c z) 1 58 (nI (c + 1))) 85 4 = nI (c + 1) := by rw [bl_up_c (by omega), bl_up_c (by omega), bl_up_c (by omega), bl_up_c (by omega), apS_4]
    have v5 : (bl_up (bl_up (bl_up (bl_up (apS σ 85 98 c x y 1 z) 142 c x) 143 c y) 144 c z) 1 58 (nI (c + 1))) 85 5 = σ 85 5 := by rw [bl_up_c (by omega), bl_up_c (by omega), bl_up_c (by omega), bl_up_c (by omega), apS_5 hS (by omega)]
    have w0 : (bl_up (bl_up (bl_up (bl_up (apS σ 85 98 c x y 1 z) 142 c x) 143 c y) 144 c z) 1 58 (nI (c + 1))) 98 c = x := by rw [bl_up_c (by omega), bl_up_c (by omega), bl_up_c (by omega), bl_up_c (by omega)]; exact apS_0 (by omega)
    have w1 : (bl_up (bl_up (bl_up (bl_up (apS σ 85 98 c x y 1 z) 142 c x) 143 c y) 144 c z) 1 58 (nI (c + 1))) 99 c = y := by rw [bl_up_c (by omega), bl_up_c (by omega), bl_up_c (by omega), bl_up_c (by omega)]; exact apS_1 (by omega)
    have w2 : (bl_up (bl_up (bl_up (bl_up (apS σ 85 98 c x y 1 z) 142 c x) 143 c y) 144 c z) 1 58 (nI (c + 1))) 100 c = 1 := by rw [bl_up_c (by omega), bl_up_c (by omega), bl_up_c (by omega), bl_up_c (by omega)]; exact apS_2 (by omega)
    have w3 : (bl_up (bl_up (bl_up (bl_up (apS σ 85 98 c x y 1 z) 142 c x) 143 c y) 144 c z) 1 58 (nI (c + 1))) 101 c = z := by rw [bl_up_c (by omega), bl_up_c (by omega), bl_up_c (by omega), bl_up_c (by omega)]; exact apS_3 (by omega)
    have m0 : (bl_up (bl_up (bl_up (bl_up (apS σ 85 98 c x y 1 z) 142 c x) 143 c y) 144 c z) 1 58 (nI (c + 1))) 142 c = x := by rw [bl_up_c (by omega), bl_up_c (by omega), bl_up_c (by omega), bl_up_s]
    have m1 : (bl_up (bl_up (bl_up (bl_up (apS σ 85 98 c x y 1 z) 142 c x) 143 c y) 144 c z) 1 58 (nI (c + 1))) 143 c = y := by rw [bl_up_c (by omega), bl_up_c (by omega), bl_up_s]
    have m2 : (bl_up (bl_up (bl_up (bl_up (apS σ 85 98 c x y 1 z) 142 c x) 143 c y) 144 c z) 1 58 (nI (c + 1))) 144 c = z := by rw [bl_up_c (by omega), bl_up_s]
    generalize (bl_up (bl_up (bl_up (bl_up (apS σ 85 98 c x y 1 z) 142 c x) 143 c y) 144 c z) 1 58 (nI (c + 1))) = τ at *
    refine (Iv.seen (a' := a) (b' := b) (c' := c + 1) ⟨hl, hb, hp, hz, ht, hs, hm⟩ (fun d z1 z2 z3 z4 => cc d z1 (by omega) (by omega) (by omega) (by omega) (by omega)) (fun k z1 z2 z3 => c1 k (by omega)) ?_).inv
    refine ⟨s0, s1, (by omega), (by rw [cc 83 (by omega) (by omega) (by omega) (by omega) (by omega) (by omega)]; exact s3), (by rw [c1 49 (by omega)]; exact s4), (by rw [cc 83 (by omega) (by omega) (by omega) (by omega) (by omega) (by omega)]; exact s5), (by rw [cc 84 (by omega) (by omega) (by omega) (by omega) (by omega) (by omega)]; exact s6), (by rw [c1 53 (by omega)]; exact s7), (by rw [cc 84 (by omega) (by omega) (by omega) (by omega) (by omega) (by omega)]; exact s8), v4, v1, v5.trans s11, fun i hi => ?_, fun i hi => ?_, fun i hi => ?_⟩
    · rw [cc 91 (by omega) (by omega) (by omega) (by omega) (by omega) (by omega), cc 92 (by omega) (by omega) (by omega) (by omega) (by omega) (by omega), cc 93 (by omega) (by omega) (by omega) (by omega) (by omega) (by omega), cc 135 (by omega) (by omega) (by omega) (by omega) (by omega) (by omega), cc 136 (by omega) (by omega) (by omega) (by omega) (by omega) (by omega), cc 137 (by omega) (by omega) (by omega) (by omega) (by omega) (by omega)]
      exact s12 i hi
    · rw [cc 94 (by omega) (by omega) (by omega) (by omega) (by omega) (by omega), cc 95 (by omega) (by omega) (by omega) (by omega) (by omega) (by omega), cc 96 (by omega) (by omega) (by omega) (by omega) (by omega) (by omega), cc 97 (by omega) (by omega) (by omega) (by omega) (by omega) (by omega), cc 138 (by omega) (by omega) (by omega) (by omega) (by omega) (by omega), cc 139 (by omega) (by omega) (by omega) (by omega) (by omega) (by omega), cc 140 (by omega) (by omega) (by omega) (by omega) (by omega) (by omega), cc 141 (by omega) (by omega) (by omega) (by omega) (by omega) (by omega)]
      exact s13 i hi
    · by_cases e : i = c
      · subst e
        refine ⟨by rw [w0, m0], by rw [w1, m1], by rw [w3, m2], (by rw [m0]; exact wi_n (by omega) g0), (by rw [m1]; exact wi_n (by omega) g1)⟩
      · rw [cj 98 i (by omega) (by omega) e, cj 99 i (by omega) (by omega) e, cj 101 i (by omega) (by omega) e, cj 142 i (by omega) (by omega) e, cj 143 i (by omega) (by omega) e, cj 144 i (by omega) (by omega) e]
        exact s14 i (by omega)
