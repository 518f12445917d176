theorem bl_Wx_sub {M : bl_MI} {pc : Nat} {lv lv' : List (Nat × Value)} {st : List Value} {σ : bl_S} {Q : Option Value → bl_S → Prop} (h : bl_Wx M pc lv' st σ Q) (hs : ∀ q ∈ lv', q ∈ lv) : bl_Wx M pc lv st σ Q :=
  bl_go h (fun p l e R s m args below meth c cells slots Qf D α cA A C H locs ls hP hS hl k => k H locs ls hP hS ⟨hl.1, hl.2.1, fun q hq => by
    obtain ⟨x, hx, rfl⟩ := List.mem_map.mp hq
    exact hl.2.2 _ (List.mem_map.mpr ⟨x, hs x hx, rfl⟩)⟩)
theorem bl_nx_ok {M : bl_MI} {cuts : List (Nat × List Nat)} {Q : Option Value → bl_S → Prop} {K : List bl_En → List (Nat × Value) → List Value → bl_S → Prop} {l : List bl_En} {lv : List (Nat × Value)} {st : List Value} {σ : bl_S} (h : bl_nx M cuts Q K l lv st σ) (hK : K l lv st σ → ∃ e r, l = e :: r ∧ bl_Wx M e.1 lv st σ Q) : ∃ e r, l = e :: r ∧ bl_Wx M e.1 lv st σ Q := by
  unfold bl_nx at h
  cases l with
  | nil => exact h.elim
  | cons e r =>
    refine ⟨e, r, rfl, ?_⟩
    cases hc : cuts.lookup e.1 with
    | none =>
      simp only [hc] at h
      obtain ⟨e', r', h1, h2⟩ := hK h
      injection h1 with a b
      rw [a]
      exact h2
    | some live =>
      simp only [hc] at h
      exact bl_Wx_sub h (fun q hq => (List.mem_filter.mp hq).1)
theorem bl_wp_ok {M : bl_MI} {es : List bl_En} {cuts : List (Nat × List Nat)} {Q : Option Value → bl_S → Prop} (hM : ∀ w ∈ M.2.2.2.2.2.2, w ∈ bl_gt) (hall : es.all (bl_ok M) = true) (hch : bl_chain es = true) : ∀ (n : Nat) (l : List bl_En) (lv : List (Nat × Value)) (st : List Value) (σ : bl_S), l <:+ es → bl_wp M es cuts Q n l lv st σ → ∃ e r, l = e :: r ∧ bl_Wx M e.1 lv st σ Q
  | 0, _, _, _, _, _, h => h.elim
  | n + 1, l, lv, st, σ, hs, h => by
    cases l with
    | nil => exact h.elim
    | cons e r =>
      have h : bl_stp es (bl_nx M cuts Q (bl_wp M es cuts Q n)) e r lv st σ Q := h
      refine ⟨e, r, rfl, bl_stp_ok hM ?_ ?_ (List.all_eq_true.mp hall e (hs.subset List.mem_cons_self)) h⟩
      · intro lv st σ hk
        have hr : r <:+ es := List.IsSuffix.trans (List.suffix_cons e r) hs
        obtain ⟨f, r', h1, h2⟩ := bl_nx_ok hk (fun hk => bl_wp_ok hM hall hch n r lv st σ hr hk)
        rw [← bl_chain_next hch hs f r' h1]
        exact h2
      · intro t lv st σ hk
        obtain ⟨f, r', h1, h2⟩ := bl_nx_ok hk (fun hk => bl_wp_ok hM hall hch n _ lv st σ (bl_to_suf es t) hk)
        rw [bl_to_head h1] at h2
        exact h2
def bl_okM (M : bl_MI) (es : List bl_En) : Bool := es.all (bl_ok M) && bl_chain es
/-- THE RULE: a stretch of code, run as a proposition -/
theorem bl_run {M : bl_MI} {es : List bl_En} {cuts : List (Nat × List Nat)} {Q : Option Value → bl_S → Prop} (n : Nat) {pc : Nat} {lv : List (Nat × Value)} {st : List Value} {σ : bl_S} (hM : M ∈ bl_all) (hok : bl_okM M es = true) (h : bl_wp M es cuts Q n (bl_to es pc) lv st σ) : bl_Wx M pc lv st σ Q := by
  unfold bl_okM at hok
  rw [Bool.and_eq_true] at hok
  obtain ⟨e, r, h1, h2⟩ := bl_wp_ok (bl_lks_ok M hM) hok.1 hok.2 n _ lv st σ (bl_to_suf es pc) h
  rw [bl_to_head h1] at h2
  exact h2
theorem bl_args (α : Nat → Nat) : ∀ (as : List Value) (i : Nat), lv_args i (as.map (bl_cv α)) = bl_cl α (lv_args i as)
  | [], _ => rfl
  | v :: vs, i => by
    show (i, bl_cv α v) :: lv_args (if (bl_cv α v).category = 2 then i + 2 else i + 1) (vs.map (bl_cv α)) = (i, bl_cv α v) :: bl_cl α (lv_args (if v.category = 2 then i + 2 else i + 1) vs)
    rw [bl_cv_cat, bl_args]
theorem bl_sl (α : Nat → Nat) (as : List Value) : (lg_sl (as.map (bl_cv α))).length = (lg_sl as).length := by
  unfold lg_sl
  induction as with
  | nil => rfl
  | cons v vs ih =>
    rw [List.map_cons, List.flatMap_cons, List.flatMap_cons, List.length_append, List.length_append, ih, bl_cv_cat]
    split <;> rfl
/-- a contract out of a walk -/
theorem bl_con {M : bl_MI} {as : List Value} {σ : bl_S} {r : Option Value} {σ' : bl_S} (hp : plainName M.1.cls = true) (hlen : (lg_sl as).length ≤ M.2.2.1) (h : bl_Wx M 0 (lv_args 0 as) [] σ (fun v τ => v = r ∧ τ = σ')) : bl_Con M as σ r σ' := by
  intro l D α cA
  refine Met.ofW (cc := M.2.1) (maxL := M.2.2.1) (ret := M.2.2.2.1) hp rfl ?_
  intro p e s m args below meth c s₁ B hml hv
  obtain ⟨rfl, hP, hK, hi, hR⟩ := hv
  have hts := atoms_spec (ws := bl_wz M) B.pre
  have hlocks := B.notSynchronized
  have C : bl_CX M D α cA (bl_A α) p (headSpec (bl_wz M) (bl_rm M)).room s m (as.map (bl_cv α)).toArray meth c 0 0 := ⟨B.exec, B.bytes, hml, B.returns, hlocks, findClass_of_methodNamed B.named, fun w hw => hts w (List.mem_cons_of_mem _ hw), hK, hi, fun k hk => ⟨k, hk, rfl⟩, hR, Nat.le_refl _, Nat.le_refl _, Nat.zero_le _, Nat.zero_le _⟩
  rw [lg_entry_eq]
  have hl := lv_entry (as.map (bl_cv α)) (n := M.2.2.1) (by rw [bl_sl]; exact hlen)
  rw [bl_args] at hl
  refine h p l e _ s m _ below meth c 0 0 _ D α cA (bl_A α) C ?_ s.heap [] _ hP va_S.rf hl
  intro pc v σ2 H locs ls hQ hP2 hS hr
  obtain ⟨rfl, rfl⟩ := hQ
  have hq : ∀ t : State, t.heap = H → s.WarmedH t.vm → bl_Qc D α cA v σ2 (as.map (bl_cv α)).toArray s (.returned (v.map (bl_cv α))) t := fun t ht _ => ⟨⟨rfl, by rw [ht]; exact hP2⟩, hS.F ht⟩
  cases v with
  | none => exact W.vret B.exec B.bytes (B.returns.trans hr.2) hq hS.2.2 hr.1
  | some v =>
    cases v with
    | int x =>
      obtain ⟨h1, ty, h2, h3⟩ := hr
      exact W.zret B.exec B.bytes (B.returns.trans h2) h3 hq hS.2.2 h1
    | ref x =>
      obtain ⟨h1, ty, h2⟩ := hr
      exact W.aret B.exec B.bytes (B.returns.trans h2) (Or.inr ⟨_, rfl⟩) (Or.inr ⟨_, rfl⟩) hq hS.2.2 h1
    | _ => exact hr.elim
theorem bl_plain : ∀ M ∈ bl_all, plainName M.1.cls = true := by decide +kernel
