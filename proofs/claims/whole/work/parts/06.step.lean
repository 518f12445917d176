def bl_cs (st : List Value) (a : Nat) : Bool := Nat.ble a st.length && bl_w8 (st.drop a)
def bl_bz (x : Int32) (P : Prop) : Prop := (x = 0 ∨ x = 1) ∧ P
def bl_if1 (cd : ClassFile.Cond) (x : Int32) (T F : Prop) : Prop := match cd with
  | .eq => (x = 0 → T) ∧ (¬ x = 0 → F)
  | .ne => (x = 0 → F) ∧ (¬ x = 0 → T)
  | .lt => (x < 0 → T) ∧ (¬ x < 0 → F)
  | .ge => (x < 0 → F) ∧ (¬ x < 0 → T)
  | .gt => (0 < x → T) ∧ (¬ 0 < x → F)
  | .le => (0 < x → F) ∧ (¬ 0 < x → T)
def bl_if2 (cd : ClassFile.Cond) (x y : Int32) (T F : Prop) : Prop := match cd with
  | .eq => (x = y → T) ∧ (¬ x = y → F)
  | .ne => (x = y → F) ∧ (¬ x = y → T)
  | .lt => (x < y → T) ∧ (¬ x < y → F)
  | .ge => (x < y → F) ∧ (¬ x < y → T)
  | .gt => (y < x → T) ∧ (¬ y < x → F)
  | .le => (y < x → F) ∧ (¬ y < x → T)
def bl_call (M : bl_MI) (c : Nat) (as : List Value) (σ : bl_S) (P : List Value → bl_S → Prop) : Prop :=
  bif Nat.beq c 0 then ∃ τ : bl_S, bl_Con M as σ none τ ∧ P [] τ else
  bif Nat.beq c 1 then ∃ (x : Int32) (τ : bl_S), bl_Con M as σ (some (.int x)) τ ∧ P [.int x] τ else
  ∃ (x : Nat) (τ : bl_S), bl_Con M as σ (some (.ref x)) τ ∧ P [.ref x] τ
def bl_stp (es : List bl_En) (K : List bl_En → List (Nat × Value) → List Value → bl_S → Prop) (e : bl_En) (r : List bl_En) (lv : List (Nat × Value)) (st : List Value) (σ : bl_S) (Q : Option Value → bl_S → Prop) : Prop :=
  match e with
  | (_, i, _, a, b, c, d, v, w, sw) => match i with
    | .iconst _ => K r lv (.int v :: st) σ
    | .bipush _ => K r lv (.int v :: st) σ
    | .sipush _ => K r lv (.int v :: st) σ
    | .ldc _ => K r lv (.int v :: st) σ
    | .ldc_w _ => K r lv (.int v :: st) σ
    | .lconst _ => K r lv (.long w :: st) σ
    | .ldc2_w _ => K r lv (.long w :: st) σ
    | .iload_n _ => bl_li lv a fun x => K r lv (.int x :: st) σ
    | .iload _ => bl_li lv a fun x => K r lv (.int x :: st) σ
    | .lload_n _ => bl_ll lv a fun x => K r lv (.long x :: st) σ
    | .lload _ => bl_ll lv a fun x => K r lv (.long x :: st) σ
    | .aload_n _ => bl_lr lv a fun x => K r lv (.ref x :: st) σ
    | .aload _ => bl_lr lv a fun x => K r lv (.ref x :: st) σ
    | .istore_n _ => bl_pi st fun x st' => K r (bl_s1 lv a (.int x)) st' σ
    | .istore _ => bl_pi st fun x st' => K r (bl_s1 lv a (.int x)) st' σ
    | .lstore_n _ => bl_pl st fun x st' => K r (bl_s2 lv a (.long x)) st' σ
    | .lstore _ => bl_pl st fun x st' => K r (bl_s2 lv a (.long x)) st' σ
    | .astore_n _ => bl_pr st fun x st' => K r (bl_s1 lv a (.ref x)) st' σ
    | .astore _ => bl_pr st fun x st' => K r (bl_s1 lv a (.ref x)) st' σ
    | .iinc _ _ => bl_li lv a fun x => K r (bl_s1 lv a (.int (x + v))) st σ
    | .iadd => bl_pii st fun x y st' => K r lv (.int (x + y) :: st') σ
    | .isub => bl_pii st fun x y st' => K r lv (.int (x - y) :: st') σ
    | .imul => bl_pii st fun x y st' => K r lv (.int (x * y) :: st') σ
    | .iand => bl_pii st fun x y st' => K r lv (.int (x &&& y) :: st') σ
    | .ior => bl_pii st fun x y st' => K r lv (.int (x ||| y) :: st') σ
    | .ixor => bl_pii st fun x y st' => K r lv (.int (x ^^^ y) :: st') σ
    | .ishl => bl_pii st fun x y st' => K r lv (.int (x <<< (y &&& 31)) :: st') σ
    | .ishr => bl_pii st fun x y st' => K r lv (.int (x >>> (y &&& 31)) :: st') σ
    | .idiv => bl_pii st fun x y st' => ¬ y = 0 ∧ K r lv (.int (x / y) :: st') σ
    | .irem => bl_pii st fun x y st' => ¬ y = 0 ∧ K r lv (.int (x - x / y * y) :: st') σ
    | .ladd => bl_pll st fun x y st' => K r lv (.long (x + y) :: st') σ
    | .lsub => bl_pll st fun x y st' => K r lv (.long (x - y) :: st') σ
    | .lmul => bl_pll st fun x y st' => K r lv (.long (x * y) :: st') σ
    | .land => bl_pll st fun x y st' => K r lv (.long (x &&& y) :: st') σ
    | .ldiv => bl_pll st fun x y st' => ¬ y = 0 ∧ K r lv (.long (x / y) :: st') σ
    | .lrem => bl_pll st fun x y st' => ¬ y = 0 ∧ K r lv (.long (x - x / y * y) :: st') σ
    | .lcmp => bl_pll st fun x y st' => K r lv (.int (lg_cmp x y) :: st') σ
    | .i2l => bl_pi st fun x st' => K r lv (.long x.toInt64 :: st') σ
    | .l2i => bl_pl st fun x st' => K r lv (.int x.toInt32 :: st') σ
    | .i2c => bl_pi st fun x st' => K r lv (.int (x.toUInt32 % 65536).toInt32 :: st') σ
    | .dup => bl_p1 st fun x st' => K r lv (x :: x :: st') σ
    | .pop => bl_p1 st fun _ st' => K r lv st' σ
    | .dup2 => bl_p2 st fun x y st' => K r lv (x :: y :: x :: y :: st') σ
    | .goto _ => K (bl_to es a) lv st σ
    | .ifCond cd _ => bl_pi st fun x st' => bl_if1 cd x (K (bl_to es a) lv st' σ) (K r lv st' σ)
    | .if_icmp cd _ => bl_pii st fun x y st' => bl_if2 cd x y (K (bl_to es a) lv st' σ) (K r lv st' σ)
    | .tableswitch _ _ _ _ => bl_pi st fun x st' => bl_sw x sw (fun t => K (bl_to es t) lv st' σ) a
    | .lookupswitch _ _ => bl_pi st fun x st' => bl_sw x sw (fun t => K (bl_to es t) lv st' σ) a
    | .getfield _ => bl_pr st fun q st' => bl_kd q = a ∧ K r lv ((bif Nat.beq c 1 then Value.ref (bl_rf q b) else Value.int (σ q b)) :: st') σ
    | .putfield _ => bl_pir st fun q x st' => bl_kd q = a ∧ (bif Nat.beq c 2 then bl_bz x (K r lv st' (bl_up σ q b x)) else K r lv st' (bl_up σ q b x))
    | .iaload => bl_pir st fun q i st' => bif Nat.beq c 1 then bl_kd q = 26 ∧ vp_in i (bl_ln q) ∧ K r lv (.int (bl_ro q i.toNatClampNeg) :: st') σ else bl_kd q = 20 ∧ vp_in i (bl_ln q) ∧ K r lv (.int (σ q i.toNatClampNeg) :: st') σ
    | .caload => bl_pir st fun q i st' => bl_kd q = 21 ∧ vp_in i (bl_ln q) ∧ K r lv (.int (σ q i.toNatClampNeg) :: st') σ
    | .baload => bl_pir st fun q i st' => bl_kd q = 22 ∧ vp_in i (bl_ln q) ∧ K r lv (.int (σ q i.toNatClampNeg) :: st') σ
    | .aaload => bl_pir st fun q i st' => bl_kd q = a ∧ vp_in i (bl_ln q) ∧ K r lv (.ref (bl_rf q i.toNatClampNeg) :: st') σ
    | .iastore => bl_piir st fun q i x st' => bl_kd q = 20 ∧ vp_in i (bl_ln q) ∧ K r lv st' (bl_up σ q i.toNatClampNeg x)
    | .castore => bl_piir st fun q i x st' => bl_kd q = 21 ∧ vp_in i (bl_ln q) ∧ K r lv st' (bl_up σ q i.toNatClampNeg (vp_nar .char x))
    | .bastore => bl_piir st fun q i x st' => bl_kd q = 22 ∧ vp_in i (bl_ln q) ∧ K r lv st' (bl_up σ q i.toNatClampNeg (vp_nar .boolean x))
    | .arraylength => bl_pr st fun q st' => bl_kd q = a ∧ K r lv (.int (Int32.ofNat (bl_ln q)) :: st') σ
    | .getstatic _ => K r lv (.ref (bl_N + a) :: st) σ
    | .invokevirtual _ => bl_rcv (bl_ar st a) b ∧ (bif bl_cs st a then bl_call (bl_mi d) c (bl_ar st a) σ (fun vs τ => K r lv (vs ++ bl_dr st a) τ) else False)
    | .invokestatic _ => bif Nat.blt c 10 then (bif bl_cs st a then bl_call (bl_mi d) c (bl_ar st a) σ (fun vs τ => K r lv (vs ++ bl_dr st a) τ) else False)
        else bif Nat.beq c 10 then bl_pii st fun x y st' => bif bl_w8 st' then K r lv (.int (if y < x then y else x) :: st') σ else False
        else bif Nat.beq c 11 then bl_pii st fun x y st' => bif bl_w8 st' then K r lv (.int (if x < y then y else x) :: st') σ else False
        else bif Nat.beq c 12 then bl_pi st fun x st' => bif bl_w8 st' then K r lv (.int (if 0 ≤ x then x else 0 - x) :: st') σ else False
        else bl_pcopy st fun a0 sp q dp n st' => bl_kd a0 = 20 ∧ bl_kd q = 20 ∧ ¬ sp < 0 ∧ ¬ dp < 0 ∧ ¬ n < 0 ∧ sp.toNatClampNeg + n.toNatClampNeg ≤ bl_ln a0 ∧ dp.toNatClampNeg + n.toNatClampNeg ≤ bl_ln q ∧ (bif bl_w8 st' then K r lv st' (bl_cpy σ a0 q sp.toNatClampNeg dp.toNatClampNeg n.toNatClampNeg) else False)
    | .ireturn => bl_pi st fun x st' => bif st'.isEmpty then (bif Nat.beq c 1 then bl_bz x (Q (some (.int x)) σ) else Q (some (.int x)) σ) else False
    | .areturn => bl_pr st fun x st' => bif st'.isEmpty then Q (some (.ref x)) σ else False
    | .return_ => bif st.isEmpty then Q none σ else False
    | _ => False
def bl_nx (M : bl_MI) (cuts : List (Nat × List Nat)) (Q : Option Value → bl_S → Prop) (K : List bl_En → List (Nat × Value) → List Value → bl_S → Prop) (l : List bl_En) (lv : List (Nat × Value)) (st : List Value) (σ : bl_S) : Prop :=
  match l with
  | [] => False
  | e :: _ => match cuts.lookup e.1 with
    | some live => bl_Wx M e.1 (lv.filter fun q => live.contains q.1) st σ Q
    | none => K l lv st σ
def bl_wp (M : bl_MI) (es : List bl_En) (cuts : List (Nat × List Nat)) (Q : Option Value → bl_S → Prop) : Nat → List bl_En → List (Nat × Value) → List Value → bl_S → Prop
  | 0, _, _, _, _ => False
  | n + 1, l, lv, st, σ => match l with
    | [] => False
    | e :: r => bl_stp es (bl_nx M cuts Q (bl_wp M es cuts Q n)) e r lv st σ Q
/-- the table of a method is right: each row decodes, and its numbers are what the links say -/
def bl_fld (M : bl_MI) (a b idx : Nat) (c : Nat) (put : Bool) : Bool := match vwCl[a]? with
  | some (C, T, N) => Nat.blt b N && decide (Cond.fieldLink M.1.cls idx C (T b).2.1 (T b).2.2.1 ∈ M.2.2.2.2.2.2) && decide ((T b).1 = C) && (bl_fr a b == Nat.beq c 1) && (!put || (!(T b).2.2.2 && (bif Nat.beq c 2 then decide ((T b).2.2.1 = "Z") else decide ((T b).2.2.1 = "I"))))
  | none => false
def bl_mth (M : bl_MI) (Y : bl_MI) (idx n : Nat) (c : Nat) : Bool :=
  decide (Cond.methodLink M.1.cls idx Y.1 ∈ M.2.2.2.2.2.2 ∨ (M.1.cls = RX7 ∧ idx = 104 ∧ Y.1 = yX10_within)) && decide (Cond.initialized Y.1.cls ∈ M.2.2.2.2.2.2) && decide (Y.1.cls ≠ "java/lang/invoke/MethodHandle" ∧ Y.1.cls ≠ "java/lang/invoke/VarHandle") && decide ((parseMethodDescriptor Y.1.desc).map (fun d => d.parameters.length) = some n)
    && Nat.ble (Y.2.2.2.2.1 + 1) M.2.2.2.2.1 && Nat.ble (8 + (Y.2.2.1 + 11) + Y.2.2.2.2.2.1) M.2.2.2.2.2.1
def bl_tgt (pc : Nat) (off : Int) (a : Nat) : Bool := decide ((pc : Int) + off = (a : Int))
def bl_chk (M : bl_MI) (e : bl_En) : Bool := match e with
  | (pc, i, len, a, b, c, d, v, w, sw) => match i with
    | .iconst n => Nat.beq len 1 && decide (Int32.ofInt n = v)
    | .bipush n => Nat.beq len 2 && decide ((Int8.ofInt n).toInt32 = v)
    | .sipush n => Nat.beq len 3 && decide ((Int16.ofInt n).toInt32 = v)
    | .ldc idx => Nat.beq len 2 && decide (Cond.constant M.1.cls idx v ∈ M.2.2.2.2.2.2)
    | .ldc_w idx => Nat.beq len 3 && decide (Cond.constant M.1.cls idx v ∈ M.2.2.2.2.2.2)
    | .lconst n => Nat.beq len 1 && decide (Int64.ofNat (n : Nat) = w)
    | .ldc2_w idx => Nat.beq len 3 && decide (Cond.constantLong M.1.cls idx w ∈ M.2.2.2.2.2.2)
    | .iload_n n => Nat.beq len 1 && Nat.beq (n : Nat) a
    | .iload n => Nat.beq len 2 && Nat.beq n a
    | .lload_n n => Nat.beq len 1 && Nat.beq (n : Nat) a
    | .lload n => Nat.beq len 2 && Nat.beq n a
    | .aload_n n => Nat.beq len 1 && Nat.beq (n : Nat) a
    | .aload n => Nat.beq len 2 && Nat.beq n a
    | .istore_n n => Nat.beq len 1 && Nat.beq (n : Nat) a && Nat.blt a M.2.2.1
    | .istore n => Nat.beq len 2 && Nat.beq n a && Nat.blt a M.2.2.1
    | .lstore_n n => Nat.beq len 1 && Nat.beq (n : Nat) a && Nat.blt (a + 1) M.2.2.1
    | .lstore n => Nat.beq len 2 && Nat.beq n a && Nat.blt (a + 1) M.2.2.1
    | .astore_n n => Nat.beq len 1 && Nat.beq (n : Nat) a && Nat.blt a M.2.2.1
    | .astore n => Nat.beq len 2 && Nat.beq n a && Nat.blt a M.2.2.1
    | .iinc n k => Nat.beq len 3 && Nat.beq n a && Nat.blt a M.2.2.1 && decide (Int32.ofInt k = v)
    | .goto off => Nat.beq len 3 && bl_tgt pc off a
    | .ifCond _ off => Nat.beq len 3 && bl_tgt pc off a
    | .if_icmp _ off => Nat.beq len 3 && bl_tgt pc off a
    | .tableswitch df lo hi offs => bl_tgt pc df a && decide ((List.range offs.size).map (fun k : Nat => (Int32.ofInt (lo + (k : Int)), (offs[k]?).map (fun o => (pc : Int) + o))) = sw.map (fun q => (q.1, some (q.2 : Int)))) && decide (hi = lo + offs.size - 1) && decide (-2147483648 ≤ lo ∧ hi ≤ 2147483647)
    | .lookupswitch df ps => bl_tgt pc df a && decide (ps.toList.map (fun q => (Int32.ofInt q.1, (pc : Int) + q.2)) = sw.map (fun q => (q.1, (q.2 : Int)))) && (ps.toList.zip (ps.toList.drop 1)).all (fun (a, next) => a.1 < next.1) && ps.toList.all (fun q => decide (-2147483648 ≤ q.1 ∧ q.1 ≤ 2147483647))
    | .getfield idx => Nat.beq len 3 && bl_fld M a b idx c false && Nat.blt a 20
    | .putfield idx => Nat.beq len 3 && bl_fld M a b idx c true && Nat.blt a 20 && !(Nat.beq c 1)
    | .aaload => Nat.beq len 1 && Nat.ble 23 a && Nat.blt a 26
    | .arraylength => Nat.beq len 1 && (Nat.beq a 20 || Nat.beq a 26)
    | .getstatic idx => Nat.beq len 3 && Nat.blt a 4 && decide (Cond.fieldLink M.1.cls idx RX7 (bl_rn a) "[I" ∈ M.2.2.2.2.2.2)
    | .invokevirtual idx => Nat.beq len 3 && bl_mth M (bl_mi d) idx (a - 1) c && Nat.blt 0 a && decide (Cond.methodLink M.1.cls idx (bl_mi d).1 ∈ M.2.2.2.2.2.2) && decide (Cond.instanceMethod (bl_mi d).1 ∈ M.2.2.2.2.2.2) && decide (Cond.selects (bl_mi d).1.cls (bl_mi d).1 (bl_mi d).1 ∈ M.2.2.2.2.2.2) && decide ((vwCl[b]?).map (fun q => q.1) = some (bl_mi d).1.cls) && Nat.blt b 20
    | .invokestatic idx => Nat.beq len 3 && (bif Nat.blt c 10 then bl_mth M (bl_mi d) idx a c && decide (Cond.static (bl_mi d).1 ∈ M.2.2.2.2.2.2)
        else bif Nat.beq c 13 then decide (Cond.methodLink M.1.cls idx arraycopyName ∈ M.2.2.2.2.2.2) && decide (Cond.static arraycopyName ∈ M.2.2.2.2.2.2) && decide (Cond.native arraycopyName ∈ M.2.2.2.2.2.2) && decide (Cond.initialized "java/lang/System" ∈ M.2.2.2.2.2.2) && Nat.ble 1 M.2.2.2.2.1 && Nat.ble 26 M.2.2.2.2.2.1
        else decide (Cond.initialized "java/lang/Math" ∈ M.2.2.2.2.2.2) && Nat.ble 1 M.2.2.2.2.1 && Nat.ble 21 M.2.2.2.2.2.1 && (
          bif Nat.beq c 10 then decide (Cond.methodLink M.1.cls idx Lib.Math.min.name ∈ M.2.2.2.2.2.2) && decide (Cond.static Lib.Math.min.name ∈ M.2.2.2.2.2.2)
          else bif Nat.beq c 11 then decide (Cond.methodLink M.1.cls idx Lib.Math.max.name ∈ M.2.2.2.2.2.2) && decide (Cond.static Lib.Math.max.name ∈ M.2.2.2.2.2.2)
          else bif Nat.beq c 12 then decide (Cond.methodLink M.1.cls idx Lib.Math.abs.name ∈ M.2.2.2.2.2.2) && decide (Cond.static Lib.Math.abs.name ∈ M.2.2.2.2.2.2) else false))
    | .ireturn => Nat.beq len 1 && (bif Nat.beq c 1 then decide (M.2.2.2.1 = some .boolean) else decide (M.2.2.2.1 = some .int))
    | .areturn => Nat.beq len 1 && decide (M.2.2.2.1 = some (.array .int))
    | .return_ => Nat.beq len 1 && decide (M.2.2.2.1 = none)
    | _ => Nat.beq len 1
def bl_ok (M : bl_MI) (e : bl_En) : Bool := decide (decode M.2.1 e.1 = .ok (e.2.1, e.2.2.1)) && bl_chk M e
def bl_chain : List bl_En → Bool
  | [] => true
  | e :: r => (match r with
    | [] => true
    | f :: _ => Nat.beq f.1 (e.1 + e.2.2.1)) && bl_chain r
theorem bl_beq {a b : Nat} (h : Nat.beq a b = true) : a = b := Nat.eq_of_beq_eq_true h
theorem bl_blt {a b : Nat} (h : Nat.blt a b = true) : a < b := Nat.le_of_ble_eq_true h
theorem bl_ble {a b : Nat} (h : Nat.ble a b = true) : a ≤ b := Nat.le_of_ble_eq_true h
theorem bl_to_suf (es : List bl_En) (t : Nat) : bl_to es t <:+ es := List.dropWhile_suffix _
theorem bl_to_head {es : List bl_En} {t : Nat} {e : bl_En} {r : List bl_En} (h : bl_to es t = e :: r) : e.1 = t := by
  unfold bl_to at h
  induction es with
  | nil => cases h
  | cons x xs ih =>
    rw [List.dropWhile_cons] at h
    cases hb : Nat.beq x.1 t with
    | true =>
      rw [hb] at h
      simp at h
      rw [← h.1]
      exact bl_beq hb
    | false =>
      rw [hb] at h
      simp at h
      exact ih h
theorem bl_chain_next : ∀ {es : List bl_En} {e : bl_En} {r : List bl_En}, bl_chain es = true → (e :: r) <:+ es → ∀ f r', r = f :: r' → f.1 = e.1 + e.2.2.1
  | [], e, r, _, hs, _, _, _ => by
    have := hs.length_le
    simp at this
  | x :: xs, e, r, hc, hs, f, r', hr => by
    unfold bl_chain at hc
    rw [Bool.and_eq_true] at hc
    rcases List.suffix_cons_iff.mp hs with h | h
    · have h1 : x = e ∧ xs = r := by
        injection h.symm with a b
        exact ⟨a, b⟩
      obtain ⟨rfl, rfl⟩ := h1
      subst hr
      exact bl_beq hc.1
    · exact bl_chain_next hc.2 h f r' hr
