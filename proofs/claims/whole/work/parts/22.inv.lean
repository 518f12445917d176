/-! THE INVARIANT between the class (cells 0, 2 .. 101) and the reference (cells 1, 102 .. 146) -/
/-- counts, law, day, seed -/
def Jl (nb np : Nat) (σ : bl_S) : Prop := nb ≤ 6 ∧ np ≤ 4 ∧ σ 10 3 = nI nb ∧ σ 1 4 = nI nb ∧ σ 10 4 = nI np ∧ σ 1 11 = nI np ∧ (∀ k, k < 4 → σ 11 k = σ 1 k) ∧ σ 10 5 = σ 1 20 ∧ σ 10 6 = σ 1 21 ∧ ¬ σ 1 21 < 0 ∧
  ((∃ a b c : Nat, 1 ≤ a ∧ a ≤ 20 ∧ 1 ≤ b ∧ b ≤ 20 ∧ 1 ≤ c ∧ c ≤ 20 ∧ σ 1 0 = nI a ∧ σ 1 1 = nI b ∧ σ 1 2 = nI c) ∨ (nb = 0 ∧ np = 0 ∧ σ 1 0 = 0 ∧ σ 1 1 = 0 ∧ σ 1 2 = 0)) ∧ (∃ h : Nat, 1 ≤ h ∧ h ≤ 999 ∧ σ 1 3 = nI h)
/-- bushes: the class's cell and the reference's rows, and their ranges -/
def Jb (nb : Nat) (σ : bl_S) : Prop := ∀ b, b < nb → (∀ k, k < 6 → σ (14 + b) k = σ (102 + k) b) ∧ ∃ y s kd rd rp sf : Nat, y ≤ 99 ∧ s ≤ 1 ∧ kd ≤ 3 ∧ rd + rp + sf ≤ 900 ∧ σ 102 b = nI y ∧ σ 103 b = nI s ∧ σ 104 b = nI kd ∧ σ 105 b = nI rd ∧ σ 106 b = nI rp ∧ σ 107 b = nI sf
def Jp (np : Nat) (σ : bl_S) : Prop := ∀ p, p < np → (∀ k, k < 8 → σ (20 + p) k = σ (108 + k) p) ∧ ∃ y s q e h : Nat, y ≤ 99 ∧ s ≤ 1 ∧ 1 ≤ q ∧ q ≤ 20 ∧ e ≤ 9 ∧ h ≤ 1 ∧ σ 108 p = nI y ∧ σ 109 p = nI s ∧ σ 110 p = nI q ∧ σ 111 p = nI e ∧ σ 112 p = nI h
/-- every picker's reach is 0 or 1; a draft's picker has nothing; of no bush nothing is gathered, on no way -/
def Jz (σ : bl_S) : Prop := ∀ p, p < 4 → (σ (20 + p) 4 = 0 ∨ σ (20 + p) 4 = 1) ∧ (σ (34 + p) 4 = 0 ∨ σ (34 + p) 4 = 1) ∧ (σ (48 + p) 4 = 0 ∨ σ (48 + p) 4 = 1) ∧ (σ (62 + p) 4 = 0 ∨ σ (62 + p) 4 = 1) ∧ σ (62 + p) 1 = 0 ∧ σ (62 + p) 5 = 0 ∧ σ (62 + p) 6 = 0 ∧ σ (62 + p) 7 = 0 ∧ (∀ a, a ≤ 6 → σ 71 (a * 64) = 0) ∧ ∀ t, t ≤ 24 → σ 72 t = 0
/-- the text, and the fault's place -/
def Jt (n : Nat) (σ : bl_S) : Prop := n ≤ 230 ∧ σ 2 1 = nI n ∧ σ 1 23 = nI n ∧ (∀ i, i < n → σ 67 i = σ 116 i ∧ ∃ c : Nat, c ≤ 255 ∧ σ 116 i = nI c) ∧ σ 0 10 = σ 1 24
/-- what was seen -/
def Js (nb np a b c : Nat) (σ : bl_S) : Prop := a ≤ 8 ∧ b ≤ 8 ∧ c ≤ 20 ∧ σ 83 4 = nI a ∧ σ 1 49 = nI a ∧ σ 83 5 = 8 ∧ σ 84 4 = nI b ∧ σ 1 53 = nI b ∧ σ 84 5 = 8 ∧ σ 85 4 = nI c ∧ σ 1 58 = nI c ∧ σ 85 5 = 20 ∧
  (∀ i, i < a → σ 91 i = σ 135 i ∧ σ 92 i = σ 136 i ∧ σ 93 i = σ 137 i ∧ ∃ j, j < nb ∧ σ 135 i = nI j) ∧
  (∀ i, i < b → σ 94 i = σ 138 i ∧ σ 95 i = σ 139 i ∧ σ 96 i = σ 140 i ∧ σ 97 i = σ 141 i ∧ (∃ j, j < np ∧ σ 138 i = nI j) ∧ (∃ j, j < nb ∧ σ 139 i = nI j) ∧ ∃ j, j ≤ 30 ∧ σ 140 i = nI j) ∧
  (∀ i, i < c → σ 98 i = σ 142 i ∧ σ 99 i = σ 143 i ∧ σ 101 i = σ 144 i ∧ (∃ j, j < np ∧ σ 142 i = nI j) ∧ ∃ j, j < nb ∧ σ 143 i = nI j)
/-- an image that is kept: lane at cell B, the reference's row from k0 on -/
def Ji (nb np : Nat) (B k0 : Nat) (σ : bl_S) : Prop := σ B 3 = nI nb ∧ σ B 4 = nI np ∧ σ B 5 = σ 145 (k0 + 42) ∧ σ B 6 = σ 145 (k0 + 43) ∧ ¬ σ B 6 < 0 ∧ (∀ k, k < 4 → σ (B + 1) k = σ 11 k) ∧
  (∀ b, b < nb → (∀ k, k < 3 → σ (B + 4 + b) k = σ (14 + b) k) ∧ σ (B + 4 + b) 3 = σ 145 (k0 + b) ∧ σ (B + 4 + b) 4 = σ 145 (k0 + 6 + b) ∧ σ (B + 4 + b) 5 = σ 145 (k0 + 12 + b) ∧ ∃ rd rp sf : Nat, rd + rp + sf ≤ 900 ∧ σ (B + 4 + b) 3 = nI rd ∧ σ (B + 4 + b) 4 = nI rp ∧ σ (B + 4 + b) 5 = nI sf) ∧
  (∀ p, p < np → σ (B + 10 + p) 2 = σ (20 + p) 2 ∧ σ (B + 10 + p) 3 = σ (20 + p) 3 ∧ σ (B + 10 + p) 0 = σ 145 (k0 + 18 + p) ∧ σ (B + 10 + p) 1 = σ 145 (k0 + 22 + p) ∧ σ (B + 10 + p) 5 = σ 145 (k0 + 26 + p) ∧ σ (B + 10 + p) 6 = σ 145 (k0 + 30 + p) ∧ σ (B + 10 + p) 7 = σ 145 (k0 + 34 + p) ∧ σ (B + 10 + p) 4 = σ 145 (k0 + 38 + p) ∧ ∃ y s : Nat, y ≤ 99 ∧ s ≤ 1 ∧ σ (B + 10 + p) 0 = nI y ∧ σ (B + 10 + p) 1 = nI s)
def Jm (nb np : Nat) (σ : bl_S) : Prop := ∀ i, i < 2 → σ 66 i = σ 146 i ∧ (σ 66 i = 0 ∨ (σ 66 i = 1 ∧ Ji nb np (24 + 14 * i) (50 * i) σ))
def Inv (σ : bl_S) : Prop := ∃ nb np nt a b c : Nat, Jl nb np σ ∧ Jb nb σ ∧ Jp np σ ∧ Jz σ ∧ Jt nt σ ∧ Js nb np a b c σ ∧ Jm nb np σ
/-- the cells that the invariant doesn't speak of -/
def bl_scr (c : Nat) : Bool := (Nat.ble 3 c && Nat.ble c 9) || Nat.beq c 12 || Nat.beq c 13 || (Nat.ble 68 c && Nat.ble c 70) || (Nat.ble 73 c && Nat.ble c 82) || (Nat.ble 86 c && Nat.ble c 89) || (Nat.ble 117 c && Nat.ble c 134)
/-- only cells that the invariant doesn't speak of may differ -/
def Fr (σ τ : bl_S) : Prop := ∀ c, bl_scr c = false → τ c = σ c
theorem Fr.rf {σ : bl_S} : Fr σ σ := fun _ _ => rfl
theorem Fr.tr {σ τ υ : bl_S} (h : Fr σ τ) (g : Fr τ υ) : Fr σ υ := fun c hc => (g c hc).trans (h c hc)
theorem Fr.up {σ τ : bl_S} {c j : Nat} {v : Int32} (h : Fr σ τ) (hc : bl_scr c = true) : Fr σ (bl_up τ c j v) := fun d hd => by
  have : d ≠ c := fun e => by rw [e, hc] at hd; cases hd
  rw [bl_up_ne this]
  exact h d hd
theorem Fr.cp {σ τ : bl_S} {n a b : Nat} (h : Fr σ τ) (hc : bl_scr a = true) : Fr σ (bl_cp n τ a b) := fun d hd => by
  have : d ≠ a := fun e => by rw [e, hc] at hd; cases hd
  rw [bl_cp_c this]
  exact h d hd
theorem bl_scrR {c lo hi : Nat} (h1 : lo ≤ c) (h2 : c ≤ hi) (h : ∀ d, d < hi + 1 → lo ≤ d → bl_scr d = false) : bl_scr c = false := h c (by omega) h1
theorem sc14 {b : Nat} (h : b < 6) : bl_scr (14 + b) = false := bl_scrR (lo := 14) (hi := 19) (by omega) (by omega) (by decide)
theorem sc20 {b : Nat} (h : b < 4) : bl_scr (20 + b) = false := bl_scrR (lo := 20) (hi := 23) (by omega) (by omega) (by decide)
theorem sc24 {c : Nat} (h1 : 14 ≤ c) (h2 : c ≤ 67) : bl_scr c = false := bl_scrR (lo := 14) (hi := 67) h1 h2 (by decide)
theorem sc102 {c : Nat} (h1 : 90 ≤ c) (h2 : c ≤ 116) : bl_scr c = false := bl_scrR (lo := 90) (hi := 116) h1 h2 (by decide)
theorem sc135 {c : Nat} (h1 : 135 ≤ c) (h2 : c ≤ 146) : bl_scr c = false := bl_scrR (lo := 135) (hi := 146) h1 h2 (by decide)
theorem Ji.fr {nb np B k0 : Nat} {σ τ : bl_S} (hb : nb ≤ 6) (hp : np ≤ 4) (hB : 24 ≤ B ∧ B ≤ 38) (h : Ji nb np B k0 σ) (f : Fr σ τ) : Ji nb np B k0 τ := by
  obtain ⟨h1, h2, h3, h4, h5, h6, h7, h8⟩ := h
  have f145 := f 145 (by decide)
  have f11 := f 11 (by decide)
  have fB := f B (sc24 (by omega) (by omega))
  refine ⟨by rw [fB]; exact h1, by rw [fB]; exact h2, by rw [fB, f145]; exact h3, by rw [fB, f145]; exact h4, by rw [fB]; exact h5, fun k hk => by rw [f (B + 1) (sc24 (by omega) (by omega)), f11]; exact h6 k hk, fun b hb2 => ?_, fun p hp2 => ?_⟩
  · rw [f (B + 4 + b) (sc24 (by omega) (by omega)), f (14 + b) (sc24 (by omega) (by omega)), f145]
    exact h7 b hb2
  · rw [f (B + 10 + p) (sc24 (by omega) (by omega)), f (20 + p) (sc24 (by omega) (by omega)), f145]
    exact h8 p hp2
theorem Inv.fr {σ τ : bl_S} (h : Inv σ) (f : Fr σ τ) : Inv τ := by
  obtain ⟨nb, np, nt, a, b, c, hl, hb, hp, hz, ht, hs, hm⟩ := h
  have f1 := f 1 (by decide)
  have f10 := f 10 (by decide)
  have f11 := f 11 (by decide)
  refine ⟨nb, np, nt, a, b, c, ?_, ?_, ?_, ?_, ?_, ?_, ?_⟩
  · unfold Jl at hl ⊢
    rw [f1, f10, f11]
    exact hl
  · intro i hi
    have := hb i hi
    have hl1 := hl.1
    rw [f (14 + i) (sc24 (by omega) (by omega)), f 102 (by decide), f 103 (by decide), f 104 (by decide), f 105 (by decide), f 106 (by decide), f 107 (by decide)]
    refine ⟨fun k hk => ?_, this.2⟩
    rw [f (102 + k) (sc102 (by omega) (by omega))]
    exact this.1 k hk
  · intro i hi
    have := hp i hi
    have hl1 := hl.2.1
    rw [f (20 + i) (sc24 (by omega) (by omega)), f 108 (by decide), f 109 (by decide), f 110 (by decide), f 111 (by decide), f 112 (by decide)]
    refine ⟨fun k hk => ?_, this.2⟩
    rw [f (108 + k) (sc102 (by omega) (by omega))]
    exact this.1 k hk
  · intro p hp2
    rw [f (20 + p) (sc24 (by omega) (by omega)), f (34 + p) (sc24 (by omega) (by omega)), f (48 + p) (sc24 (by omega) (by omega)), f (62 + p) (sc24 (by omega) (by omega)), f 71 (by decide), f 72 (by decide)]
    exact hz p hp2
  · unfold Jt at ht ⊢
    rw [f1, f 2 (by decide), f 67 (by decide), f 116 (by decide), f 0 (by decide)]
    exact ht
  · unfold Js at hs ⊢
    rw [f1, f 83 (by decide), f 84 (by decide), f 85 (by decide), f 91 (by decide), f 92 (by decide), f 93 (by decide), f 94 (by decide), f 95 (by decide), f 96 (by decide), f 97 (by decide), f 98 (by decide), f 99 (by decide), f 101 (by decide), f 135 (by decide), f 136 (by decide), f 137 (by decide), f 138 (by decide), f 139 (by decide), f 140 (by decide), f 141 (by decide), f 142 (by decide), f 143 (by decide), f 144 (by decide)]
    exact hs
  · intro i hi
    have := hm i hi
    rw [f 66 (by decide), f 146 (by decide)]
    refine ⟨this.1, this.2.imp id (fun q => ⟨q.1, q.2.fr hl.1 hl.2.1 (by omega) f⟩)⟩
/-- a call of both: the same answer, the invariant kept -/
def Pr (i j : Nat) (as : List Value) (σ : bl_S) : Prop := ∃ (r : Int32) (τ τ2 : bl_S), bl_Con (bl_mi i) (.ref 0 :: as) σ (some (.int r)) τ ∧ bl_Con (bl_mi j) (.ref 1 :: as) τ (some (.int r)) τ2 ∧ Inv τ2
