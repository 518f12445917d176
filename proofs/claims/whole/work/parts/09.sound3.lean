theorem bl_ofInt {n : Int} (h1 : -2147483648 ≤ n) (h2 : n ≤ 2147483647) : (Int32.ofInt n).toInt = n := Int32.toInt_ofInt_of_le (by simpa using h1) (by omega)
theorem bl_table {pc : Nat} {lo hi : Int} {offs : Array Int} {sw : List (Int32 × Nat)} {x : Int32} {K : Nat → Prop} {d : Nat} {df : Int} (hd : (pc : Int) + df = (d : Int)) (hm : (List.range offs.size).map (fun k : Nat => (Int32.ofInt (lo + (k : Int)), (offs[k]?).map (fun o => (pc : Int) + o))) = sw.map (fun q => (q.1, some (q.2 : Int)))) (hh : hi = lo + offs.size - 1) (hb : -2147483648 ≤ lo ∧ hi ≤ 2147483647) (h : bl_sw x sw K d) :
    (∃ t : Nat, K t ∧ ∃ off : Int, ¬ x.toInt < lo ∧ ¬ hi < x.toInt ∧ offs[(x.toInt - lo).toNat]? = some off ∧ (pc : Int) + off = (t : Int)) ∨ ((x.toInt < lo ∨ hi < x.toInt) ∧ K d) := by
  have hat : ∀ k : Nat, (sw.map (fun q => (q.1, some (q.2 : Int))))[k]? = if k < offs.size then some (Int32.ofInt (lo + (k : Int)), (offs[k]?).map (fun o => (pc : Int) + o)) else none := by
    intro k
    rw [← hm]
    by_cases hk : k < offs.size
    · simp [hk]
    · rw [if_neg hk, List.getElem?_eq_none (by simp; omega)]
  rcases bl_sw_e h with ⟨k, q, h1, h2, -, h4⟩ | ⟨h1, h2⟩
  · have h5 := hat k
    rw [List.getElem?_map, h1] at h5
    by_cases hk : k < offs.size
    · rw [if_pos hk] at h5
      have h6 := Option.some.inj h5
      have h7 : q.1 = Int32.ofInt (lo + k) := congrArg Prod.fst h6
      have h8 : some (q.2 : Int) = (offs[k]?).map (fun o => (pc : Int) + o) := congrArg Prod.snd h6
      have hx : x.toInt = lo + k := by rw [h2, h7]; exact bl_ofInt (by omega) (by omega)
      rw [Array.getElem?_eq_getElem hk] at h8
      refine Or.inl ⟨q.2, h4, offs[k], by omega, by omega, ?_, (Option.some.inj h8).symm⟩
      rw [hx, show (lo + (k : Int) - lo).toNat = k by omega, Array.getElem?_eq_getElem hk]
    · rw [if_neg hk] at h5
      cases h5
  · by_cases hr : x.toInt < lo ∨ hi < x.toInt
    · exact Or.inr ⟨hr, h2⟩
    · exfalso
      have hk : (x.toInt - lo).toNat < offs.size := by omega
      have h5 := hat (x.toInt - lo).toNat
      rw [if_pos hk, List.getElem?_map] at h5
      cases hq : sw[(x.toInt - lo).toNat]? with
      | none => rw [hq] at h5; cases h5
      | some q =>
        rw [hq] at h5
        have h7 : q.1 = Int32.ofInt (lo + (x.toInt - lo).toNat) := congrArg Prod.fst (Option.some.inj h5)
        refine h1 q (List.mem_of_getElem? hq) ?_
        rw [h7, show lo + ((x.toInt - lo).toNat : Int) = x.toInt by omega, Int32.ofInt_toInt]
theorem bl_lookup {pc : Nat} {x : Int32} {K : Nat → Prop} {d : Nat} {df : Int} (hd : (pc : Int) + df = (d : Int)) : ∀ (ps : List (Int × Int)) (sw : List (Int32 × Nat)), ps.map (fun q => (Int32.ofInt q.1, (pc : Int) + q.2)) = sw.map (fun q => (q.1, (q.2 : Int))) → (∀ q ∈ ps, -2147483648 ≤ q.1 ∧ q.1 ≤ 2147483647) → bl_sw x sw K d → ∃ t : Nat, K t ∧ (pc : Int) + Op.lookupswitch.offset ps df x.toInt = (t : Int)
  | [], [], _, _, h => ⟨d, h, hd⟩
  | [], _ :: _, hm, _, _ => by simp at hm
  | _ :: _, [], hm, _, _ => by simp at hm
  | (a, o) :: ps, q :: sw, hm, hb, h => by
    rw [List.map_cons, List.map_cons] at hm
    injection hm with m1 m2
    have e1 : Int32.ofInt a = q.1 := congrArg Prod.fst m1
    have e2 : (pc : Int) + o = (q.2 : Int) := congrArg Prod.snd m1
    have hab := hb (a, o) List.mem_cons_self
    rw [Op.lookupswitch.offset_cons]
    by_cases hx : x = q.1
    · have : x.toInt = a := by rw [hx, ← e1]; exact bl_ofInt hab.1 hab.2
      rw [if_pos this.symm]
      exact ⟨q.2, h.1 hx, e2⟩
    · have : ¬ x.toInt = a := fun z => hx (by rw [← e1, ← z, Int32.ofInt_toInt])
      rw [if_neg (fun z => this z.symm)]
      exact bl_lookup hd ps sw m2 (fun q hq => hb q (List.mem_cons_of_mem _ hq)) (h.2 hx)
theorem bl_fld_e {M : bl_MI} {a b idx c : Nat} {put : Bool} (h : bl_fld M a b idx c put = true) : ∃ (C : String) (T : u_T) (N : Nat), vwCl[a]? = some (C, T, N) ∧ b < N ∧ Cond.fieldLink M.1.cls idx C (T b).2.1 (T b).2.2.1 ∈ M.2.2.2.2.2.2 ∧ (T b).1 = C ∧ bl_fr a b = Nat.beq c 1 ∧ (put = true → (T b).2.2.2 = false ∧ (T b).2.2.1 = if Nat.beq c 2 then "Z" else "I") := by
  unfold bl_fld at h
  split at h
  · next C T N hv =>
    simp only [Bool.and_eq_true, decide_eq_true_eq, beq_iff_eq] at h
    obtain ⟨⟨⟨⟨h1, h2⟩, h3⟩, h4⟩, h5⟩ := h
    refine ⟨C, T, N, hv, bl_blt h1, h2, h3, h4, fun hp => ?_⟩
    rw [hp] at h5
    simp only [Bool.not_true, Bool.false_or, Bool.and_eq_true, Bool.not_eq_true'] at h5
    refine ⟨h5.1, ?_⟩
    have h6 := h5.2
    cases hc : Nat.beq c 2
    · rw [hc] at h6
      simp only [cond_false, decide_eq_true_eq] at h6
      rw [if_neg (by simp)]
      exact h6
    · rw [hc] at h6
      simp only [cond_true, decide_eq_true_eq] at h6
      rw [if_pos rfl]
      exact h6
  · cases h
theorem bl_mth_e {M Y : bl_MI} {idx n c : Nat} (h : bl_mth M Y idx n c = true) : (Cond.methodLink M.1.cls idx Y.1 ∈ M.2.2.2.2.2.2 ∨ (M.1.cls = RX7 ∧ idx = 104 ∧ Y.1 = yX10_within)) ∧ Cond.initialized Y.1.cls ∈ M.2.2.2.2.2.2 ∧ (Y.1.cls ≠ "java/lang/invoke/MethodHandle" ∧ Y.1.cls ≠ "java/lang/invoke/VarHandle") ∧ (parseMethodDescriptor Y.1.desc).map (fun d => d.parameters.length) = some n ∧ Y.2.2.2.2.1 + 1 ≤ M.2.2.2.2.1 ∧ 8 + (Y.2.2.1 + 11) + Y.2.2.2.2.2.1 ≤ M.2.2.2.2.2.1 := by
  unfold bl_mth at h
  simp only [Bool.and_eq_true, decide_eq_true_eq] at h
  obtain ⟨⟨⟨⟨⟨h1, h2⟩, h3⟩, h4⟩, h5⟩, h6⟩ := h
  exact ⟨h1, h2, h3, h4, bl_ble h5, bl_ble h6⟩
