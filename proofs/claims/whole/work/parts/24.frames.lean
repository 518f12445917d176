/-! FRAMES of the invariant's parts, and how a part is set anew -/
theorem Jl.fr {nb np : Nat} {σ τ : bl_S} (h : Jl nb np σ) (h10 : τ 10 = σ 10) (h11 : τ 11 = σ 11) (h1 : ∀ k, k ≤ 4 ∨ k = 11 ∨ k = 20 ∨ k = 21 → τ 1 k = σ 1 k) : Jl nb np τ := by
  obtain ⟨a1, a2, a3, a4, a5, a6, a7, a8, a9, a10, a11, a12⟩ := h
  refine ⟨a1, a2, by rw [h10]; exact a3, by rw [h1 4 (by omega)]; exact a4, by rw [h10]; exact a5, by rw [h1 11 (by omega)]; exact a6, fun k hk => by rw [h11, h1 k (by omega)]; exact a7 k hk, by rw [h10, h1 20 (by omega)]; exact a8, by rw [h10, h1 21 (by omega)]; exact a9, by rw [h1 21 (by omega)]; exact a10, ?_, by rw [h1 3 (by omega)]; exact a12⟩
  rw [h1 0 (by omega), h1 1 (by omega), h1 2 (by omega)]
  exact a11
theorem Jb.fr {nb : Nat} {σ τ : bl_S} (hn : nb ≤ 6) (h : Jb nb σ) (f : ∀ c, (14 ≤ c ∧ c ≤ 19) ∨ (102 ≤ c ∧ c ≤ 107) → τ c = σ c) : Jb nb τ := by
  intro b hb
  have := h b hb
  rw [f (14 + b) (by omega), f 102 (by omega), f 103 (by omega), f 104 (by omega), f 105 (by omega), f 106 (by omega), f 107 (by omega)]
  exact ⟨fun k hk => by rw [f (102 + k) (by omega)]; exact this.1 k hk, this.2⟩
theorem Jp.fr {np : Nat} {σ τ : bl_S} (hn : np ≤ 4) (h : Jp np σ) (f : ∀ c, (20 ≤ c ∧ c ≤ 23) ∨ (108 ≤ c ∧ c ≤ 115) → τ c = σ c) : Jp np τ := by
  intro b hb
  have := h b hb
  rw [f (20 + b) (by omega), f 108 (by omega), f 109 (by omega), f 110 (by omega), f 111 (by omega), f 112 (by omega)]
  exact ⟨fun k hk => by rw [f (108 + k) (by omega)]; exact this.1 k hk, this.2⟩
theorem Jz.fr {σ τ : bl_S} (h : Jz σ) (f : ∀ c, (20 ≤ c ∧ c ≤ 23) ∨ (34 ≤ c ∧ c ≤ 37) ∨ (48 ≤ c ∧ c ≤ 51) ∨ (62 ≤ c ∧ c ≤ 65) ∨ c = 71 ∨ c = 72 → τ c = σ c) : Jz τ := by
  intro p hp
  rw [f (20 + p) (by omega), f (34 + p) (by omega), f (48 + p) (by omega), f (62 + p) (by omega), f 71 (by omega), f 72 (by omega)]
  exact h p hp
theorem Jt.fr {n : Nat} {σ τ : bl_S} (h : Jt n σ) (h0 : τ 0 = σ 0) (h2 : τ 2 1 = σ 2 1) (h67 : τ 67 = σ 67) (h116 : τ 116 = σ 116) (h1 : ∀ k, k = 23 ∨ k = 24 → τ 1 k = σ 1 k) : Jt n τ := by
  unfold Jt at h ⊢
  rw [h0, h2, h67, h116, h1 23 (by omega), h1 24 (by omega)]
  exact h
theorem Js.fr {nb np a b c : Nat} {σ τ : bl_S} (h : Js nb np a b c σ) (f : ∀ d, (83 ≤ d ∧ d ≤ 85) ∨ (90 ≤ d ∧ d ≤ 101) ∨ (135 ≤ d ∧ d ≤ 144) → τ d = σ d) (h1 : ∀ k, k = 49 ∨ k = 53 ∨ k = 58 → τ 1 k = σ 1 k) : Js nb np a b c τ := by
  unfold Js at h ⊢
  rw [h1 49 (by omega), h1 53 (by omega), h1 58 (by omega), f 83 (by omega), f 84 (by omega), f 85 (by omega), f 91 (by omega), f 92 (by omega), f 93 (by omega), f 94 (by omega), f 95 (by omega), f 96 (by omega), f 97 (by omega), f 98 (by omega), f 99 (by omega), f 101 (by omega), f 135 (by omega), f 136 (by omega), f 137 (by omega), f 138 (by omega), f 139 (by omega), f 140 (by omega), f 141 (by omega), f 142 (by omega), f 143 (by omega), f 144 (by omega)]
  exact h
theorem Ji.fr2 {nb np B k0 : Nat} {σ τ : bl_S} (hb : nb ≤ 6) (hp : np ≤ 4) (hB : B = 24 ∨ B = 38) (h : Ji nb np B k0 σ) (f : ∀ c, (24 ≤ c ∧ c ≤ 51) ∨ c = 11 ∨ c = 145 → τ c = σ c) (fb : ∀ b k, b < nb → k < 3 → τ (14 + b) k = σ (14 + b) k) (fp : ∀ p k, p < np → k = 2 ∨ k = 3 → τ (20 + p) k = σ (20 + p) k) : Ji nb np B k0 τ := by
  obtain ⟨h1, h2, h3, h4, h5, h6, h7, h8⟩ := h
  have f145 := f 145 (by omega)
  have f11 := f 11 (by omega)
  have fB := f B (by omega)
  refine ⟨by rw [fB]; exact h1, by rw [fB]; exact h2, by rw [fB, f145]; exact h3, by rw [fB, f145]; exact h4, by rw [fB]; exact h5, fun k hk => by rw [f (B + 1) (by omega), f11]; exact h6 k hk, fun b hb2 => ?_, fun p hp2 => ?_⟩
  · obtain ⟨q1, q2⟩ := h7 b hb2
    rw [f (B + 4 + b) (by omega), f145]
    exact ⟨fun k hk => by rw [fb b k hb2 hk]; exact q1 k hk, q2⟩
  · rw [f (B + 10 + p) (by omega), fp p 2 hp2 (by omega), fp p 3 hp2 (by omega), f145]
    exact h8 p hp2
theorem Jm.fr {nb np : Nat} {σ τ : bl_S} (hb : nb ≤ 6) (hp : np ≤ 4) (h : Jm nb np σ) (f : ∀ c, (24 ≤ c ∧ c ≤ 51) ∨ c = 11 ∨ c = 66 ∨ c = 145 ∨ c = 146 → τ c = σ c) (fb : ∀ b k, b < nb → k < 3 → τ (14 + b) k = σ (14 + b) k) (fp : ∀ p k, p < np → k = 2 ∨ k = 3 → τ (20 + p) k = σ (20 + p) k) : Jm nb np τ := by
  intro i hi
  obtain ⟨q1, q2⟩ := h i hi
  rw [f 66 (by omega), f 146 (by omega)]
  exact ⟨q1, q2.imp id (fun q => ⟨q.1, q.2.fr2 hb hp (by omega) (fun c hc => f c (by omega)) fb fp⟩)⟩
theorem Jb.set {nb i : Nat} {σ τ : bl_S} (h : Jb nb σ) (hc : ∀ b, b < nb → b ≠ i → τ (14 + b) = σ (14 + b)) (hm : ∀ k b, k < 6 → b ≠ i → τ (102 + k) b = σ (102 + k) b) (hr : ∀ k, k < 6 → τ (14 + i) k = τ (102 + k) i) (hg : ∃ y s kd rd rp sf : Nat, y ≤ 99 ∧ s ≤ 1 ∧ kd ≤ 3 ∧ rd + rp + sf ≤ 900 ∧ τ 102 i = nI y ∧ τ 103 i = nI s ∧ τ 104 i = nI kd ∧ τ 105 i = nI rd ∧ τ 106 i = nI rp ∧ τ 107 i = nI sf) : Jb nb τ := by
  intro b hb
  by_cases e : b = i
  · subst e
    exact ⟨hr, hg⟩
  · obtain ⟨q1, q2⟩ := h b hb
    refine ⟨fun k hk => by rw [hc b hb e, hm k b hk e]; exact q1 k hk, ?_⟩
    rw [hm 0 b (by omega) e, hm 1 b (by omega) e, hm 2 b (by omega) e, hm 3 b (by omega) e, hm 4 b (by omega) e, hm 5 b (by omega) e]
    exact q2
theorem Jp.set {np i : Nat} {σ τ : bl_S} (h : Jp np σ) (hc : ∀ b, b < np → b ≠ i → τ (20 + b) = σ (20 + b)) (hm : ∀ k b, k < 8 → b ≠ i → τ (108 + k) b = σ (108 + k) b) (hr : ∀ k, k < 8 → τ (20 + i) k = τ (108 + k) i) (hg : ∃ y s q e h : Nat, y ≤ 99 ∧ s ≤ 1 ∧ 1 ≤ q ∧ q ≤ 20 ∧ e ≤ 9 ∧ h ≤ 1 ∧ τ 108 i = nI y ∧ τ 109 i = nI s ∧ τ 110 i = nI q ∧ τ 111 i = nI e ∧ τ 112 i = nI h) : Jp np τ := by
  intro b hb
  by_cases e : b = i
  · subst e
    exact ⟨hr, hg⟩
  · obtain ⟨q1, q2⟩ := h b hb
    refine ⟨fun k hk => by rw [hc b hb e, hm k b hk e]; exact q1 k hk, ?_⟩
    rw [hm 0 b (by omega) e, hm 1 b (by omega) e, hm 2 b (by omega) e, hm 3 b (by omega) e, hm 4 b (by omega) e]
    exact q2
/-- what a slot of a picker may hold -/
def Rg (k : Nat) (v : Int32) : Prop := (k = 0 → ∃ y : Nat, y ≤ 99 ∧ v = nI y) ∧ (k = 1 → ∃ y : Nat, y ≤ 1 ∧ v = nI y) ∧ (k = 4 → ∃ y : Nat, y ≤ 1 ∧ v = nI y)
/-- one slot of a picker, on both sides -/
theorem Inv.pk {σ : bl_S} {nb np nt a b c p k : Nat} {v : Int32} (hl : Jl nb np σ) (hb : Jb nb σ) (hp : Jp np σ) (hz : Jz σ) (ht : Jt nt σ) (hs : Js nb np a b c σ) (hm : Jm nb np σ) (hpn : p < np) (hk : k = 0 ∨ k = 1 ∨ k = 4 ∨ k = 5 ∨ k = 6 ∨ k = 7) (hrg : Rg k v) : Jl nb np (bl_up (bl_up σ (20 + p) k v) (108 + k) p v) ∧ Jb nb (bl_up (bl_up σ (20 + p) k v) (108 + k) p v) ∧ Jp np (bl_up (bl_up σ (20 + p) k v) (108 + k) p v) ∧ Jz (bl_up (bl_up σ (20 + p) k v) (108 + k) p v) ∧ Jt nt (bl_up (bl_up σ (20 + p) k v) (108 + k) p v) ∧ Js nb np a b c (bl_up (bl_up σ (20 + p) k v) (108 + k) p v) ∧ Jm nb np (bl_up (bl_up σ (20 + p) k v) (108 + k) p v) := by
  have hn := hl.1
  have hn2 := hl.2.1
  have hc : ∀ d, d ≠ 20 + p → d ≠ 108 + k → bl_up (bl_up σ (20 + p) k v) (108 + k) p v d = σ d := fun d h1 h2 => by rw [bl_up_ne h2, bl_up_ne h1]
  have hj : ∀ d j, j ≠ k → d ≠ 108 + k → bl_up (bl_up σ (20 + p) k v) (108 + k) p v d j = σ d j := fun d j h1 h2 => by rw [bl_up_ne h2, bl_up_j h1]
  have hx : ∀ d j, d ≠ 20 + p → j ≠ p → bl_up (bl_up σ (20 + p) k v) (108 + k) p v d j = σ d j := fun d j h1 h2 => by rw [bl_up_j h2, bl_up_ne h1]
  have hv1 : bl_up (bl_up σ (20 + p) k v) (108 + k) p v (20 + p) k = v := by rw [bl_up_c (by omega), bl_up_s]
  have hv2 : bl_up (bl_up σ (20 + p) k v) (108 + k) p v (108 + k) p = v := by rw [bl_up_s]
  generalize bl_up (bl_up σ (20 + p) k v) (108 + k) p v = τ at hc hj hx hv1 hv2 ⊢
  have hrel : ∀ k', k' < 8 → τ (20 + p) k' = τ (108 + k') p := by
    intro k' hk'
    by_cases e : k' = k
    · subst e
      rw [hv1, hv2]
    · rw [hj (20 + p) k' e (by omega), hc (108 + k') (by omega) (by omega)]
      exact (hp p hpn).1 k' hk'
  refine ⟨hl.fr (hc _ (by omega) (by omega)) (hc _ (by omega) (by omega)) (fun k _ => by rw [hc 1 (by omega) (by omega)]), hb.fr hn (fun c h => hc c (by omega) (by omega)), ?_, ?_, ht.fr (hc _ (by omega) (by omega)) (by rw [hc 2 (by omega) (by omega)]) (hc _ (by omega) (by omega)) (hc _ (by omega) (by omega)) (fun k _ => by rw [hc 1 (by omega) (by omega)]), hs.fr (fun d h => hc d (by omega) (by omega)) (fun k _ => by rw [hc 1 (by omega) (by omega)]), hm.fr hn hn2 (fun d h => hc d (by omega) (by omega)) (fun b k _ _ => by rw [hc (14 + b) (by omega) (by omega)]) (fun p' k' hp' hk' => ?_)⟩
  · refine hp.set (i := p) (fun b hb e => hc _ (by omega) (by omega)) (fun k' b hk' e => hx _ _ (by omega) e) hrel ?_
    obtain ⟨y, s, q, e, h, b1, b2, b3, b4, b5, b6, e1, e2, e3, e4, e5⟩ := (hp p hpn).2
    have e3' : τ 110 p = nI q := by rw [hc 110 (by omega) (by omega)]; exact e3
    have e4' : τ 111 p = nI e := by rw [hc 111 (by omega) (by omega)]; exact e4
    rcases hk with rfl | rfl | hk
    · obtain ⟨y', g1, g2⟩ := hrg.1 rfl
      exact ⟨y', s, q, e, h, g1, b2, b3, b4, b5, b6, hv2.trans g2, by rw [hc 109 (by omega) (by omega)]; exact e2, e3', e4', by rw [hc 112 (by omega) (by omega)]; exact e5⟩
    · obtain ⟨y', g1, g2⟩ := hrg.2.1 rfl
      exact ⟨y, y', q, e, h, b1, g1, b3, b4, b5, b6, by rw [hc 108 (by omega) (by omega)]; exact e1, hv2.trans g2, e3', e4', by rw [hc 112 (by omega) (by omega)]; exact e5⟩
    · have e1' : τ 108 p = nI y := by rw [hc 108 (by omega) (by omega)]; exact e1
      have e2' : τ 109 p = nI s := by rw [hc 109 (by omega) (by omega)]; exact e2
      by_cases k4 : k = 4
      · subst k4
        obtain ⟨y', g1, g2⟩ := hrg.2.2 rfl
        exact ⟨y, s, q, e, y', b1, b2, b3, b4, b5, g1, e1', e2', e3', e4', hv2.trans g2⟩
      · exact ⟨y, s, q, e, h, b1, b2, b3, b4, b5, b6, e1', e2', e3', e4', by rw [hc 112 (by omega) (by omega)]; exact e5⟩
  · intro p' hp'
    rw [hc (34 + p') (by omega) (by omega), hc (48 + p') (by omega) (by omega), hc (62 + p') (by omega) (by omega), hc 71 (by omega) (by omega), hc 72 (by omega) (by omega)]
    obtain ⟨z1, z2⟩ := hz p' hp'
    refine ⟨?_, z2⟩
    by_cases e : p' = p
    · subst e
      by_cases k4 : k = 4
      · subst k4
        rw [hv1]
        obtain ⟨y', g1, g2⟩ := hrg.2.2 rfl
        rw [g2]
        rcases (show y' = 0 ∨ y' = 1 by omega) with rfl | rfl
        · exact Or.inl rfl
        · exact Or.inr rfl
      · rw [hj (20 + p') 4 (by omega) (by omega)]
        exact z1
    · rw [hc (20 + p') (by omega) (by omega)]
      exact z1
  · by_cases e : p' = p
    · subst e
      exact hj _ _ (by omega) (by omega)
    · rw [hc (20 + p') (by omega) (by omega)]
