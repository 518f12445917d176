/-! THE REFERENCE READS: letters, numbers -/
theorem hereM {s : bl_S} {T : Nat → Nat} {n i : Nat} (hT : TX 116 T n s) (h23 : s 1 23 = nI n) (h25 : s 1 25 = nI i) (hi : i ≤ n) : bl_Con (bl_mi 106) [.ref 1] s (some (.int (if skp T n i < n then nI (T (skp T n i)) else -1))) (bl_up s 1 25 (nI (skp T n i))) := by
  obtain ⟨t1, t2, t3⟩ := hT
  have key : ∀ k i, n - i ≤ k → i ≤ n → bl_Wx (bl_mi 106) 0 [(0, .ref 1)] [] (bl_up s 1 25 (nI i)) (fun v τ => v = some (.int (if skp T n i < n then nI (T (skp T n i)) else -1)) ∧ τ = bl_up s 1 25 (nI (skp T n i))) := by
    intro k
    induction k with
    | zero =>
      intro i h hi
      have e : i = n := by omega
      subst e
      rw [skp_e (Nat.le_refl _), if_neg (Nat.lt_irrefl _)]
      refine vc_X11_here_0 _ ⟨fun z => absurd z ?_, fun _ => ⟨rfl, rfl⟩⟩
      rw [bl_up_s, bl_up_j (by omega), h23]
      exact nI_nlt (Nat.le_refl _) (by omega)
    | succ k ih =>
      intro i h hi
      by_cases c : i < n
      · rw [skp_s c]
        have hlt : bl_up s 1 25 (nI i) 1 25 < bl_up s 1 25 (nI i) 1 23 := by
          rw [bl_up_s, bl_up_j (by omega), h23]
          exact nI_lt c (by omega)
        have hle := t2 i c
        refine vc_X11_here_0 _ ⟨fun _ => ?_, fun z => absurd hlt z⟩
        rw [bl_up_s, nI_clamp (show i < 2 ^ 31 by omega), bl_up_c (by omega), t3 i c, bl_up_up, nI_1]
        refine ⟨vp_in_nI (by omega) (by omega), ?_⟩
        by_cases e : T i = 32
        · rw [if_pos e, e]
          exact ⟨fun _ => ih (i + 1) (by omega) (by omega), fun z => absurd rfl z⟩
        · rw [if_neg e, if_pos c]
          exact ⟨fun z => absurd ((nI_eq (b := 32) (by omega) (by omega)).mp z) e, fun _ => ⟨rfl, rfl⟩⟩
      · have e : i = n := by omega
        subst e
        rw [skp_e (Nat.le_refl _), if_neg (Nat.lt_irrefl _)]
        refine vc_X11_here_0 _ ⟨fun z => absurd z ?_, fun _ => ⟨rfl, rfl⟩⟩
        rw [bl_up_s, bl_up_j (by omega), h23]
        exact nI_nlt (Nat.le_refl _) (by omega)
  have := key (n - i) i (Nat.le_refl _) hi
  rw [bl_up_id' h25.symm] at this
  exact bl_c (Nat.le_of_ble_eq_true rfl) this
theorem failsM (s : bl_S) (x y : Int32) : bl_Con (bl_mi 107) [.ref 1, .int x, .int y] s (some (.int x)) (bl_up s 1 24 y) := bl_c (Nat.le_of_ble_eq_true rfl) (vc_X11_fails_0 s x y ⟨rfl, rfl⟩)
theorem tnM {s : bl_S} {T : Nat → Nat} {n i lo hi : Nat} (hT : TX 116 T n s) (h23 : s 1 23 = nI n) (h25 : s 1 25 = nI i) (hi' : i ≤ n) (hlo : lo ≤ 999) (hhi : hi ≤ 999) : ∃ τ, ((∀ d, d ≠ 1 → τ d = s d) ∧ (∀ j, ¬ (24 ≤ j ∧ j ≤ 27) → τ 1 j = s 1 j) ∧ (nf T n lo hi (skp T n i) = 0 → τ 1 24 = s 1 24 ∧ τ 1 25 = nI (nj T n (skp T n i)) ∧ τ 1 26 = nI (nv T n (skp T n i))) ∧ (nf T n lo hi (skp T n i) ≠ 0 → τ 1 24 = nI (skp T n i))) ∧ bl_Con (bl_mi 108) [.ref 1, .int (nI lo), .int (nI hi)] s (some (.int (nI (nf T n lo hi (skp T n i))))) τ := by
  obtain ⟨t1, t2, t3⟩ := id hT
  have hh := hereM hT h23 h25 hi'
  have qn := skp_le (T := T) hi'
  obtain ⟨q, eq⟩ : ∃ q, q = skp T n i := ⟨_, rfl⟩
  rw [← eq] at hh qn ⊢
  obtain ⟨f, ef⟩ : ∃ f, f = nf T n lo hi q := ⟨_, rfl⟩
  rw [← ef]
  obtain ⟨s1, e1⟩ : ∃ s1, s1 = bl_up s 1 25 (nI q) := ⟨_, rfl⟩
  rw [← e1] at hh
  have s1c : ∀ d, d ≠ 1 → s1 d = s d := fun d z => by rw [e1, bl_up_ne z]
  have s1j : ∀ j, j ≠ 25 → s1 1 j = s 1 j := fun j z => by rw [e1, bl_up_j z]
  have s125 : s1 1 25 = nI q := by rw [e1, bl_up_s]
  obtain ⟨y4, ey4⟩ : ∃ y4 : Int32, y4 = if q < n then nI (T q) else -1 := ⟨_, rfl⟩
  rw [← ey4] at hh
  have hin := c_X11_in s1 y4 48 57 (a := 48) (b := 57) (by decide) (by decide)
  by_cases dg : q < n ∧ 48 ≤ T q ∧ T q ≤ 57
  · have hle := t2 q dg.1
    have wy : wi y4 48 57 = 1 := by rw [ey4, if_pos dg.1, wi_dg hle, if_pos dg.2]
    -- what is so in the loop
    have key : ∀ k j s', n - j ≤ k → q < j → j ≤ n → (∀ k, k < j - q → T (q + k) ≤ 57) → nj T n q = nj T n j → ((∀ d, d ≠ 1 → s' d = s d) ∧ (∀ k, ¬ (24 ≤ k ∧ k ≤ 27) → s' 1 k = s 1 k) ∧ s' 1 24 = s 1 24 ∧ s' 1 25 = nI j ∧ s' 1 27 = nI q ∧ (j - q ≤ 3 → s' 1 26 = nI (vlF T q (j - q)))) → ∃ τ, ((∀ d, d ≠ 1 → τ d = s d) ∧ (∀ j, ¬ (24 ≤ j ∧ j ≤ 27) → τ 1 j = s 1 j) ∧ (f = 0 → τ 1 24 = s 1 24 ∧ τ 1 25 = nI (nj T n q) ∧ τ 1 26 = nI (nv T n q)) ∧ (f ≠ 0 → τ 1 24 = nI q)) ∧ bl_Wx (bl_mi 108) 42 [(0, .ref 1), (1, .int (nI lo)), (2, .int (nI hi)), (3, .int y4)] [] s' (fun v u => v = some (.int (nI f)) ∧ u = τ) := by
      -- at the end of the figures
      have fin : ∀ j s', q < j → j ≤ n → (∀ k, k < j - q → T (q + k) ≤ 57) → nj T n q = j → ((∀ d, d ≠ 1 → s' d = s d) ∧ (∀ k, ¬ (24 ≤ k ∧ k ≤ 27) → s' 1 k = s 1 k) ∧ s' 1 24 = s 1 24 ∧ s' 1 25 = nI j ∧ s' 1 27 = nI q ∧ (j - q ≤ 3 → s' 1 26 = nI (vlF T q (j - q)))) → ∃ τ, ((∀ d, d ≠ 1 → τ d = s d) ∧ (∀ j, ¬ (24 ≤ j ∧ j ≤ 27) → τ 1 j = s 1 j) ∧ (f = 0 → τ 1 24 = s 1 24 ∧ τ 1 25 = nI (nj T n q) ∧ τ 1 26 = nI (nv T n q)) ∧ (f ≠ 0 → τ 1 24 = nI q)) ∧ ((3 < ((s' 1 25) - (s' 1 27)) → (∃ (y43 : Int32) (τ40 : bl_S), bl_Con (bl_mi 107) [.ref 1, .int 2, .int (s' 1 27)] s' (some (.int y43)) τ40 ∧ (some (Value.int y43) = some (.int (nI f)) ∧ τ40 = τ))) ∧ (¬ 3 < ((s' 1 25) - (s' 1 27)) → (∃ (y47 : Int32) (τ44 : bl_S), bl_Con (bl_mi 101) [.long (Int32.toInt64 (s' 1 26)), .long (Int32.toInt64 (nI lo)), .long (Int32.toInt64 (nI hi))] s' (some (.int y47)) τ44 ∧ ((y47 = 0 → (∃ (y52 : Int32) (τ49 : bl_S), bl_Con (bl_mi 107) [.ref 1, .int 2, .int (τ44 1 27)] τ44 (some (.int y52)) τ49 ∧ (some (Value.int y52) = some (.int (nI f)) ∧ τ49 = τ))) ∧ (¬ y47 = 0 → (some (Value.int 0) = some (.int (nI f)) ∧ τ44 = τ)))))) := by
        intro j s' hqj hjn hdg ej ⟨a1, a2, a3, a4, a5, a6⟩
        have sub : s' 1 25 - s' 1 27 = nI (j - q) := by rw [a4, a5, pk_sub (by omega)]
        rw [sub]
        -- with a fault
        have bad : ((∀ d, d ≠ 1 → bl_up s' 1 24 (nI q) d = s d) ∧ (∀ j, ¬ (24 ≤ j ∧ j ≤ 27) → bl_up s' 1 24 (nI q) 1 j = s 1 j) ∧ (f ≠ 0 → bl_up s' 1 24 (nI q) 1 24 = nI q)) := ⟨fun d z => by rw [bl_up_ne z]; exact a1 d z, fun k z => by rw [bl_up_j (by omega)]; exact a2 k z, fun _ => by rw [bl_up_s]⟩
        by_cases c3 : 3 < j - q
        · have f1 : f = 2 := by
            rw [ef]
            unfold nf
            rw [if_neg (by omega), if_pos (by omega)]
          refine ⟨bl_up s' 1 24 (nI q), ⟨bad.1, bad.2.1, fun z => by omega, bad.2.2⟩, fun _ => ⟨_, _, failsM s' 2 _, by rw [f1]; rfl, by rw [a5]⟩, fun z => absurd (nI_lt (a := 3) c3 (by omega)) z⟩
        · have c3' : j - q ≤ 3 := by omega
          have v9 := vlF_999 (T := T) (i := q) c3' hdg
          have a6 := a6 c3'
          have env : nv T n q = vlF T q (j - q) := by unfold nv; rw [ej]
          have hw := c_X11_in s' (s' 1 26) (nI lo) (nI hi) rfl rfl
          have ewi : wi (s' 1 26) (nI lo) (nI hi) = if vlF T q (j - q) < lo then 0 else if hi < vlF T q (j - q) then 0 else 1 := by
            rw [a6, wi_N (by omega) (by omega) (by omega)]
          have n3 : ¬ (3 : Int32) < nI (j - q) := nI_nlt (b := j - q) (a := 3) (by omega) (by omega)
          by_cases ok : lo ≤ vlF T q (j - q) ∧ vlF T q (j - q) ≤ hi
          · have f1 : f = 0 := by
              rw [ef]
              unfold nf
              rw [if_neg (by omega), if_neg (by omega), env, if_neg (by omega), if_neg (by omega)]
            rw [if_neg (by omega), if_neg (by omega)] at ewi
            refine ⟨s', ⟨a1, a2, fun _ => ⟨a3, by rw [ej]; exact a4, by rw [env]; exact a6⟩, fun z => absurd f1 z⟩, fun z => absurd z n3, fun _ => ⟨_, _, hw, fun z => absurd z (by rw [ewi]; decide), fun _ => ⟨by rw [f1]; rfl, rfl⟩⟩⟩
          · have f1 : f = 2 := by
              rw [ef]
              unfold nf
              rw [if_neg (by omega), if_neg (by omega), env]
              by_cases a : vlF T q (j - q) < lo
              · rw [if_pos a]
              · rw [if_neg a, if_pos (by omega)]
            have w0 : wi (s' 1 26) (nI lo) (nI hi) = 0 := by
              rw [ewi]
              by_cases a : vlF T q (j - q) < lo
              · rw [if_pos a]
              · rw [if_neg a, if_pos (by omega)]
            refine ⟨bl_up s' 1 24 (nI q), ⟨bad.1, bad.2.1, fun z => by omega, bad.2.2⟩, fun z => absurd z n3, fun _ => ⟨_, _, hw, fun _ => ⟨_, _, failsM s' 2 _, by rw [f1]; rfl, by rw [a5]⟩, fun z => absurd w0 z⟩⟩
      intro k
      induction k with
      | zero =>
        intro j s' h hqj hjn hdg ej hI
        obtain ⟨τ, hP, hW⟩ := fin j s' hqj hjn hdg (by rw [ej, nj_e (by omega)]) hI
        obtain ⟨a1, a2, a3, a4, a5, a6⟩ := hI
        refine ⟨τ, hP, vc_X11_takeNumber_42 _ _ _ _ ⟨fun z => absurd z ?_, fun _ => hW⟩⟩
        rw [a4, a2 23 (by omega), h23]
        exact nI_nlt (by omega) (by omega)
      | succ k ih =>
        intro j s' h hqj hjn hdg ej hI
        obtain ⟨a1, a2, a3, a4, a5, a6⟩ := id hI
        by_cases c : j < n
        · have hlt : s' 1 25 < s' 1 23 := by
            rw [a4, a2 23 (by omega), h23]
            exact nI_lt c (by omega)
          have hle := t2 j c
          have ch : s' 116 j = nI (T j) := by rw [a1 116 (by omega)]; exact t3 j c
          have hw := c_X11_in s' (nI (T j)) 48 57 (a := 48) (b := 57) (by decide) (by decide)
          by_cases d : 48 ≤ T j ∧ T j ≤ 57
          · have wd : wi (nI (T j)) 48 57 = 1 := by rw [wi_dg hle, if_pos d]
            obtain ⟨v, ev⟩ : ∃ v, v = (if 10000 < s' 1 26 then s' 1 26 else 10 * s' 1 26 + nI (T j) - 48) := ⟨_, rfl⟩
            obtain ⟨s2, e2⟩ : ∃ s2, s2 = bl_up (bl_up s' 1 26 v) 1 25 (nI (j + 1)) := ⟨_, rfl⟩
            obtain ⟨τ, hP, hW⟩ := ih (j + 1) s2 (by omega) (by omega) (by omega) (fun k hk => by
              by_cases e : k = j - q
              · rw [show q + k = j by omega]
                exact d.2
              · exact hdg k (by omega)) (by rw [ej, nj_s c, if_pos d]) ⟨fun d z => by rw [e2, bl_up_ne z, bl_up_ne z]; exact a1 d z, fun k z => by rw [e2, bl_up_j (by omega), bl_up_j (by omega)]; exact a2 k z, by rw [e2, bl_up_j (by omega), bl_up_j (by omega)]; exact a3, by rw [e2, bl_up_s], by rw [e2, bl_up_j (by omega), bl_up_j (by omega)]; exact a5, fun z => by
              have a6 := a6 (by omega)
              have v9 := vlF_999 (T := T) (i := q) (k := j - q) (by omega) hdg
              rw [e2, bl_up_j (by omega), bl_up_s, ev, a6, if_neg (show ¬ (10000 : Int32) < nI (vlF T q (j - q)) from nI_nlt (a := 10000) (by omega) (by omega)), show j + 1 - q = j - q + 1 by omega]
              show 10 * nI (vlF T q (j - q)) + nI (T j) - 48 = nI (10 * vlF T q (j - q) + (T (q + (j - q)) - 48))
              rw [show q + (j - q) = j by omega, show (10 : Int32) = nI 10 from rfl, show (48 : Int32) = nI 48 from rfl, nI_mul, nI_add, pk_sub (by omega)]
              congr 1
              omega⟩
            refine ⟨τ, hP, vc_X11_takeNumber_42 _ _ _ _ ⟨fun _ => ?_, fun z => absurd hlt z⟩⟩
            rw [a4, nI_clamp (show j < 2 ^ 31 by omega), ch]
            refine ⟨vp_in_nI (by omega) (by omega), _, _, hw, fun z => absurd z (by rw [wd]; decide), fun _ => ⟨fun _ => ?_, fun v36 e36 => ?_⟩⟩
            · rw [a4]
              exact vp_in_nI (by omega) (by omega)
            · rw [a4, nI_clamp (show j < 2 ^ 31 by omega), ch, ← ev] at e36
              rw [e36, a4, nI_1, ← e2]
              exact hW
          · have wd : wi (nI (T j)) 48 57 = 0 := by rw [wi_dg hle, if_neg d]
            rw [wd] at hw
            obtain ⟨τ, hP, hW⟩ := fin j s' hqj hjn hdg (by rw [ej, nj_s c, if_neg d]) hI
            refine ⟨τ, hP, vc_X11_takeNumber_42 _ _ _ _ ⟨fun _ => ⟨?_, 0, s', ?_, fun _ => hW, fun z => absurd rfl z⟩, fun z => absurd hlt z⟩⟩
            · rw [a4]
              exact vp_in_nI (by omega) (by omega)
            · rw [a4, nI_clamp (show j < 2 ^ 31 by omega), ch]
              exact hw
        · obtain ⟨τ, hP, hW⟩ := fin j s' hqj hjn hdg (by rw [ej, nj_e (by omega)]) hI
          refine ⟨τ, hP, vc_X11_takeNumber_42 _ _ _ _ ⟨fun z => absurd z ?_, fun _ => hW⟩⟩
          rw [a4, a2 23 (by omega), h23]
          exact nI_nlt (by omega) (by omega)
    -- the first figure
    obtain ⟨s2, e2⟩ : ∃ s2, s2 = bl_up (bl_up s1 1 27 (nI q)) 1 26 0 := ⟨_, rfl⟩
    have b1 : ∀ d, d ≠ 1 → s2 d = s d := fun d z => by rw [e2, bl_up_ne z, bl_up_ne z, s1c d z]
    have b2 : ∀ k, ¬ (24 ≤ k ∧ k ≤ 27) → s2 1 k = s 1 k := fun k z => by rw [e2, bl_up_j (by omega), bl_up_j (by omega), s1j k (by omega)]
    have b25 : s2 1 25 = nI q := by rw [e2, bl_up_j (by omega), bl_up_j (by omega)]; exact s125
    have b26 : s2 1 26 = 0 := by rw [e2, bl_up_s]
    have ch : s2 116 q = nI (T q) := by rw [b1 116 (by omega)]; exact t3 q dg.1
    obtain ⟨s3, e3⟩ : ∃ s3, s3 = bl_up (bl_up s2 1 26 (nI (T q - 48))) 1 25 (nI (q + 1)) := ⟨_, rfl⟩
    obtain ⟨τ, hP, hW⟩ := key (n - (q + 1)) (q + 1) s3 (Nat.le_refl _) (by omega) (by omega) (fun k hk => by rw [show q + k = q by omega]; exact dg.2.2) (by rw [nj_s dg.1, if_pos dg.2]) ⟨fun d z => by rw [e3, bl_up_ne z, bl_up_ne z]; exact b1 d z, fun k z => by rw [e3, bl_up_j (by omega), bl_up_j (by omega)]; exact b2 k z, by rw [e3, bl_up_j (by omega), bl_up_j (by omega), e2, bl_up_j (by omega), bl_up_j (by omega)]; exact s1j 24 (by omega), by rw [e3, bl_up_s], by rw [e3, bl_up_j (by omega), bl_up_j (by omega), e2, bl_up_j (by omega), bl_up_s], fun _ => by
      rw [e3, bl_up_j (by omega), bl_up_s, show q + 1 - q = 0 + 1 by omega]
      show nI (T q - 48) = nI (10 * 0 + (T (q + 0) - 48))
      congr 1
      rw [Nat.add_zero]
      omega⟩
    refine ⟨τ, hP, bl_c (Nat.le_of_ble_eq_true rfl) (vc_X11_takeNumber_0 s _ _ ⟨_, _, hh, _, _, hin, fun z => absurd z (by rw [wy]; decide), fun _ => ?_⟩)⟩
    rw [s125, ← e2]
    have hw := c_X11_in s2 (nI (T q)) 48 57 (a := 48) (b := 57) (by decide) (by decide)
    refine vc_X11_takeNumber_42 _ _ _ _ ⟨fun _ => ?_, fun z => absurd ?_ z⟩
    · rw [b25, nI_clamp (show q < 2 ^ 31 by omega), ch]
      refine ⟨vp_in_nI (by omega) (by omega), _, _, hw, fun z => absurd z (by rw [wi_dg hle, if_pos dg.2]; decide), fun _ => ⟨fun _ => ?_, fun v36 e36 => ?_⟩⟩
      · rw [b25]
        exact vp_in_nI (by omega) (by omega)
      · rw [b25, nI_clamp (show q < 2 ^ 31 by omega), ch, b26] at e36
        have ev : v36 = nI (T q - 48) := by
          rw [e36, if_neg (by decide)]
          show (10 : Int32) * 0 + nI (T q) - 48 = nI (T q - 48)
          rw [show (10 : Int32) * 0 = nI 0 from rfl, nI_add, show (48 : Int32) = nI 48 from rfl, pk_sub (by omega)]
          congr 1
          omega
        rw [ev, b25, nI_1, ← e3]
        exact hW
    · rw [b25, b2 23 (by omega), h23]
      exact nI_lt dg.1 (by omega)
  · -- no figure there
    have ej : nj T n q = q := by
      by_cases c : q < n
      · rw [nj_s c, if_neg (fun z => dg ⟨c, z⟩)]
      · exact nj_e (by omega)
    have f1 : f = 1 := by
      rw [ef]
      unfold nf
      rw [if_pos ej]
    have w0 : wi y4 48 57 = 0 := by
      rw [ey4]
      by_cases c : q < n
      · rw [if_pos c, wi_dg (t2 q c), if_neg (fun z => dg ⟨c, z⟩)]
      · rw [if_neg c]
        rfl
    refine ⟨bl_up s1 1 24 (nI q), ⟨fun d z => by rw [bl_up_ne z, s1c d z], fun j z => by rw [bl_up_j (by omega), s1j j (by omega)], fun z => by omega, fun _ => by rw [bl_up_s]⟩, bl_c (Nat.le_of_ble_eq_true rfl) (vc_X11_takeNumber_0 s _ _ ⟨_, _, hh, _, _, hin, fun _ => ?_, fun z => absurd w0 z⟩)⟩
    rw [s125]
    exact ⟨_, _, failsM s1 1 (nI q), by rw [f1]; rfl, rfl⟩
