/-! THE WORLD AFTER THE MAKING of both objects: the cells in the order of the numbering -/
theorem ct_rg {wr wc : va_W} {n : Nat} (h : wr.length = n) : (List.range n).map (fun i => (wr ++ wc)[i]?) = wr.map some := by
  subst h
  apply List.ext_getElem?
  intro i
  by_cases hi : i < wr.length
  · rw [List.getElem?_map, List.getElem?_range hi, List.getElem?_map]
    show some ((wr ++ wc)[i]?) = _
    rw [List.getElem?_append_left hi, List.getElem?_eq_getElem hi]
    rfl
  · rw [List.getElem?_eq_none (by simp; omega), List.getElem?_eq_none (by simp; omega)]
theorem ct_ix {wr : va_W} {c : Nat × va_E} {n : Nat} (h : wr.length = n) : [n].map (fun i => (wr ++ [c])[i]?) = [c].map some := by
  subst h
  simp
theorem ct_lastP {D : va_G} {cl : List vw_C} {wr : va_W} {c : Nat × va_E} {H : Heap} (hP : va_P D cl (wr ++ [c]) H) : va_P D cl [c] H := by
  intro k q hq
  match k, hq with
  | 0, hq => exact hP wr.length q (by rw [List.getElem?_append_right (Nat.le_refl _), Nat.sub_self]; exact hq)
theorem ct_join {A0 : Nat → Prop} {D : va_G} {cl : List vw_C} {wr w1 : va_W} {c : Nat × va_E} {H H1 : Heap} {n : Nat} (hn : wr.length = n) (hnd : va_nd (List.range n) = true) (hP : va_P D cl (wr ++ [c]) H) (hD : va_D A0 (wr ++ [c]))
    (hk : ∀ q : Nat, q < H.size → ¬ va_A [c] H.size q → H1[q]? = H[q]?) (hF : ∀ q, va_A [c] H.size q → A0 q) (hP1 : va_P D cl w1 H1) (hD1 : va_D (va_A [c] H.size) w1) : va_P D cl (wr ++ w1) H1 ∧ va_D A0 (wr ++ w1) :=
  va_join (wc := [c]) hP hD [n] (List.range n) (ct_ix hn) (ct_rg hn) hnd (fun i hi => by
    have := List.mem_range.mp hi
    simp
    omega) hk hF hP1 hD1
def zw0 : bl_S := fun c => if c = 0 then (fun j => if j = 10 then -1 else 0) else if c = 1 then (fun j => if j = 3 then 999 else if j = 24 then -1 else 0) else if c = 2 then (fun j => if j = 2 then -1 else 0) else if c = 11 then (fun j => if j = 3 then 999 else 0) else if c = 25 then (fun j => if j = 3 then 999 else 0) else if c = 39 then (fun j => if j = 3 then 999 else 0) else if c = 53 then (fun j => if j = 3 then 999 else 0) else if c = 83 then (fun j => if j = 5 then 8 else 0) else if c = 84 then (fun j => if j = 5 then 8 else 0) else if c = 85 then (fun j => if j = 5 then 20 else 0) else fun _ => 0
def zwG (q0 q1 : Nat) (u : SX10) (v : SX11) : va_W := [(q0, .inr (10, [.ref (u.1 0), .ref (u.1 1), .ref (u.1 2), .ref (u.1 3), .ref (u.1 4), .ref (u.1 5), .ref (u.1 6), .ref (u.1 7), .ref (u.1 8), .ref (u.1 9), .int (-1)])), ((u.1 0), .inr (7, [.ref ((u.2.2.1).1 0), .int 0, .int (-1), .ref ((u.2.2.1).1 1), .ref ((u.2.2.1).1 2), .int 0, .int 0, .int 0])), (((u.2.2.1).1 0), .inr (3, [.ref (((u.2.2.1).2.2).1 0), .ref (((u.2.2.1).2.2).1 1), .ref (((u.2.2.1).2.2).1 2), .int 0, .int 0, .int 0, .int 0])), ((((u.2.2.1).2.2).1 0), .inr (4, [.int 0, .int 0, .int 0, .int 999])), ((((u.2.2.1).2.2).1 1), .inl ((((u.2.2.1).2.2).2 0), 6, .inr (.inr (.inr (.inr (va_up (va_up (va_up (va_up (va_up (va_up (fun _ => none) 0 (some (((u.2.2.1).2.2).1 3))) 1 (some (((u.2.2.1).2.2).1 4))) 2 (some (((u.2.2.1).2.2).1 5))) 3 (some (((u.2.2.1).2.2).1 6))) 4 (some (((u.2.2.1).2.2).1 7))) 5 (some (((u.2.2.1).2.2).1 8)))))))), ((((u.2.2.1).2.2).1 2), .inl ((((u.2.2.1).2.2).2 1), 4, .inr (.inr (.inr (.inr (va_up (va_up (va_up (va_up (fun _ => none) 0 (some (((u.2.2.1).2.2).1 9))) 1 (some (((u.2.2.1).2.2).1 10))) 2 (some (((u.2.2.1).2.2).1 11))) 3 (some (((u.2.2.1).2.2).1 12)))))))), ((((u.2.2.1).2.2).1 3), .inr (1, [.int 0, .int 0, .int 0, .int 0, .int 0, .int 0])), ((((u.2.2.1).2.2).1 4), .inr (1, [.int 0, .int 0, .int 0, .int 0, .int 0, .int 0])), ((((u.2.2.1).2.2).1 5), .inr (1, [.int 0, .int 0, .int 0, .int 0, .int 0, .int 0])), ((((u.2.2.1).2.2).1 6), .inr (1, [.int 0, .int 0, .int 0, .int 0, .int 0, .int 0])), ((((u.2.2.1).2.2).1 7), .inr (1, [.int 0, .int 0, .int 0, .int 0, .int 0, .int 0])), ((((u.2.2.1).2.2).1 8), .inr (1, [.int 0, .int 0, .int 0, .int 0, .int 0, .int 0])), ((((u.2.2.1).2.2).1 9), .inr (5, [.int 0, .int 0, .int 0, .int 0, .int 0, .int 0, .int 0, .int 0])), ((((u.2.2.1).2.2).1 10), .inr (5, [.int 0, .int 0, .int 0, .int 0, .int 0, .int 0, .int 0, .int 0])), ((((u.2.2.1).2.2).1 11), .inr (5, [.int 0, .int 0, .int 0, .int 0, .int 0, .int 0, .int 0, .int 0])), ((((u.2.2.1).2.2).1 12), .inr (5, [.int 0, .int 0, .int 0, .int 0, .int 0, .int 0, .int 0, .int 0])), (((u.2.2.1).1 1), .inl (((u.2.2.1).2.1 0), 230, .inl (fun _ => 0))), (((u.2.2.1).1 2), .inl (((u.2.2.1).2.1 1), 6, .inl (fun _ => 0))), ((u.1 1), .inr (3, [.ref ((u.2.2.2.1).1 0), .ref ((u.2.2.2.1).1 1), .ref ((u.2.2.2.1).1 2), .int 0, .int 0, .int 0, .int 0])), (((u.2.2.2.1).1 0), .inr (4, [.int 0, .int 0, .int 0, .int 999])), (((u.2.2.2.1).1 1), .inl (((u.2.2.2.1).2 0), 6, .inr (.inr (.inr (.inr (va_up (va_up (va_up (va_up (va_up (va_up (fun _ => none) 0 (some ((u.2.2.2.1).1 3))) 1 (some ((u.2.2.2.1).1 4))) 2 (some ((u.2.2.2.1).1 5))) 3 (some ((u.2.2.2.1).1 6))) 4 (some ((u.2.2.2.1).1 7))) 5 (some ((u.2.2.2.1).1 8)))))))), (((u.2.2.2.1).1 2), .inl (((u.2.2.2.1).2 1), 4, .inr (.inr (.inr (.inr (va_up (va_up (va_up (va_up (fun _ => none) 0 (some ((u.2.2.2.1).1 9))) 1 (some ((u.2.2.2.1).1 10))) 2 (some ((u.2.2.2.1).1 11))) 3 (some ((u.2.2.2.1).1 12)))))))), (((u.2.2.2.1).1 3), .inr (1, [.int 0, .int 0, .int 0, .int 0, .int 0, .int 0])), (((u.2.2.2.1).1 4), .inr (1, [.int 0, .int 0, .int 0, .int 0, .int 0, .int 0])), (((u.2.2.2.1).1 5), .inr (1, [.int 0, .int 0, .int 0, .int 0, .int 0, .int 0])), (((u.2.2.2.1).1 6), .inr (1, [.int 0, .int 0, .int 0, .int 0, .int 0, .int 0])), (((u.2.2.2.1).1 7), .inr (1, [.int 0, .int 0, .int 0, .int 0, .int 0, .int 0])), (((u.2.2.2.1).1 8), .inr (1, [.int 0, .int 0, .int 0, .int 0, .int 0, .int 0])), (((u.2.2.2.1).1 9), .inr (5, [.int 0, .int 0, .int 0, .int 0, .int 0, .int 0, .int 0, .int 0])), (((u.2.2.2.1).1 10), .inr (5, [.int 0, .int 0, .int 0, .int 0, .int 0, .int 0, .int 0, .int 0])), (((u.2.2.2.1).1 11), .inr (5, [.int 0, .int 0, .int 0, .int 0, .int 0, .int 0, .int 0, .int 0])), (((u.2.2.2.1).1 12), .inr (5, [.int 0, .int 0, .int 0, .int 0, .int 0, .int 0, .int 0, .int 0])), ((u.1 2), .inl ((u.2.1 0), 2, .inr (.inr (.inr (.inr (va_up (va_up (fun _ => none) 0 (some (u.1 10))) 1 (some (u.1 11)))))))), ((u.1 3), .inl ((u.2.1 1), 2, .inl (fun _ => 0))), ((u.1 4), .inr (0, [.int 0, .int 0, .ref ((u.2.2.2.2.1).1 0), .ref ((u.2.2.2.2.1).1 1), .ref ((u.2.2.2.2.1).1 2), .ref ((u.2.2.2.2.1).1 3), .ref ((u.2.2.2.2.1).1 4), .ref ((u.2.2.2.2.1).1 5), .ref ((u.2.2.2.2.1).1 6), .ref ((u.2.2.2.2.1).1 7), .ref ((u.2.2.2.2.1).1 8), .int 0, .int 0, .int 0, .int 0, .int 0])), (((u.2.2.2.2.1).1 0), .inl (((u.2.2.2.2.1).2 0), 6, .inl (fun _ => 0))), (((u.2.2.2.2.1).1 1), .inl (((u.2.2.2.2.1).2 1), 6, .inl (fun _ => 0))), (((u.2.2.2.2.1).1 2), .inl (((u.2.2.2.2.1).2 2), 448, .inl (fun _ => 0))), (((u.2.2.2.2.1).1 3), .inl (((u.2.2.2.2.1).2 3), 1600, .inl (fun _ => 0))), (((u.2.2.2.2.1).1 4), .inl (((u.2.2.2.2.1).2 4), 150, .inl (fun _ => 0))), (((u.2.2.2.2.1).1 5), .inl (((u.2.2.2.2.1).2 5), 6, .inl (fun _ => 0))), (((u.2.2.2.2.1).1 6), .inl (((u.2.2.2.2.1).2 6), 6, .inl (fun _ => 0))), (((u.2.2.2.2.1).1 7), .inl (((u.2.2.2.2.1).2 7), 42, .inl (fun _ => 0))), (((u.2.2.2.2.1).1 8), .inr (1, [.int 0, .int 0, .int 0, .int 0, .int 0, .int 0])), ((u.1 5), .inr (6, [.int 0, .ref ((u.2.2.2.2.2.1).1 0), .ref ((u.2.2.2.2.2.1).1 1), .ref ((u.2.2.2.2.2.1).1 2), .ref ((u.2.2.2.2.2.1).1 3), .int 0, .int 0])), (((u.2.2.2.2.2.1).1 0), .inl (((u.2.2.2.2.2.1).2 0), 24, .inl (fun _ => 0))), (((u.2.2.2.2.2.1).1 1), .inl (((u.2.2.2.2.2.1).2 1), 4, .inl (fun _ => 0))), (((u.2.2.2.2.2.1).1 2), .inl (((u.2.2.2.2.2.1).2 2), 4, .inl (fun _ => 0))), (((u.2.2.2.2.2.1).1 3), .inr (1, [.int 0, .int 0, .int 0, .int 0, .int 0, .int 0])), ((u.1 6), .inr (2, [.int 0, .int 0, .int 0, .int 0, .ref ((u.2.2.2.2.2.2.1).1 0)])), (((u.2.2.2.2.2.2.1).1 0), .inr (1, [.int 0, .int 0, .int 0, .int 0, .int 0, .int 0])), ((u.1 7), .inr (8, [.ref ((u.2.2.2.2.2.2.2.1).1 0), .ref ((u.2.2.2.2.2.2.2.1).1 1), .ref ((u.2.2.2.2.2.2.2.1).1 2), .int 0, .ref ((u.2.2.2.2.2.2.2.1).1 3), .ref ((u.2.2.2.2.2.2.2.1).1 4), .ref ((u.2.2.2.2.2.2.2.1).1 5), .ref ((u.2.2.2.2.2.2.2.1).1 6)])), (((u.2.2.2.2.2.2.2.1).1 0), .inr (9, [.ref (((u.2.2.2.2.2.2.2.1).2.2.1).1 0), .ref (((u.2.2.2.2.2.2.2.1).2.2.1).1 1), .ref (((u.2.2.2.2.2.2.2.1).2.2.1).1 2), .ref (((u.2.2.2.2.2.2.2.1).2.2.1).1 3), .int 0, .int (if (20 : Int32) < 8 then 20 else 8)])), ((((u.2.2.2.2.2.2.2.1).2.2.1).1 0), .inl ((((u.2.2.2.2.2.2.2.1).2.2.1).2 0), 20, .inl (fun _ => 0))), ((((u.2.2.2.2.2.2.2.1).2.2.1).1 1), .inl ((((u.2.2.2.2.2.2.2.1).2.2.1).2 1), 20, .inl (fun _ => 0))), ((((u.2.2.2.2.2.2.2.1).2.2.1).1 2), .inl ((((u.2.2.2.2.2.2.2.1).2.2.1).2 2), 20, .inl (fun _ => 0))), ((((u.2.2.2.2.2.2.2.1).2.2.1).1 3), .inl ((((u.2.2.2.2.2.2.2.1).2.2.1).2 3), 20, .inl (fun _ => 0))), (((u.2.2.2.2.2.2.2.1).1 1), .inr (9, [.ref (((u.2.2.2.2.2.2.2.1).2.2.2.1).1 0), .ref (((u.2.2.2.2.2.2.2.1).2.2.2.1).1 1), .ref (((u.2.2.2.2.2.2.2.1).2.2.2.1).1 2), .ref (((u.2.2.2.2.2.2.2.1).2.2.2.1).1 3), .int 0, .int (if (20 : Int32) < 8 then 20 else 8)])), ((((u.2.2.2.2.2.2.2.1).2.2.2.1).1 0), .inl ((((u.2.2.2.2.2.2.2.1).2.2.2.1).2 0), 20, .inl (fun _ => 0))), ((((u.2.2.2.2.2.2.2.1).2.2.2.1).1 1), .inl ((((u.2.2.2.2.2.2.2.1).2.2.2.1).2 1), 20, .inl (fun _ => 0))), ((((u.2.2.2.2.2.2.2.1).2.2.2.1).1 2), .inl ((((u.2.2.2.2.2.2.2.1).2.2.2.1).2 2), 20, .inl (fun _ => 0))), ((((u.2.2.2.2.2.2.2.1).2.2.2.1).1 3), .inl ((((u.2.2.2.2.2.2.2.1).2.2.2.1).2 3), 20, .inl (fun _ => 0))), (((u.2.2.2.2.2.2.2.1).1 2), .inr (9, [.ref (((u.2.2.2.2.2.2.2.1).2.2.2.2).1 0), .ref (((u.2.2.2.2.2.2.2.1).2.2.2.2).1 1), .ref (((u.2.2.2.2.2.2.2.1).2.2.2.2).1 2), .ref (((u.2.2.2.2.2.2.2.1).2.2.2.2).1 3), .int 0, .int (if (20 : Int32) < 20 then 20 else 20)])), ((((u.2.2.2.2.2.2.2.1).2.2.2.2).1 0), .inl ((((u.2.2.2.2.2.2.2.1).2.2.2.2).2 0), 20, .inl (fun _ => 0))), ((((u.2.2.2.2.2.2.2.1).2.2.2.2).1 1), .inl ((((u.2.2.2.2.2.2.2.1).2.2.2.2).2 1), 20, .inl (fun _ => 0))), ((((u.2.2.2.2.2.2.2.1).2.2.2.2).1 2), .inl ((((u.2.2.2.2.2.2.2.1).2.2.2.2).2 2), 20, .inl (fun _ => 0))), ((((u.2.2.2.2.2.2.2.1).2.2.2.2).1 3), .inl ((((u.2.2.2.2.2.2.2.1).2.2.2.2).2 3), 20, .inl (fun _ => 0))), (((u.2.2.2.2.2.2.2.1).1 3), .inr (1, [.int 0, .int 0, .int 0, .int 0, .int 0, .int 0])), (((u.2.2.2.2.2.2.2.1).1 4), .inr (1, [.int 0, .int 0, .int 0, .int 0, .int 0, .int 0])), (((u.2.2.2.2.2.2.2.1).1 5), .inr (5, [.int 0, .int 0, .int 0, .int 0, .int 0, .int 0, .int 0, .int 0])), (((u.2.2.2.2.2.2.2.1).1 6), .inl (((u.2.2.2.2.2.2.2.1).2.1 0), 6, .inl (fun _ => 0))), ((u.1 8), .inr (1, [.int 0, .int 0, .int 0, .int 0, .int 0, .int 0])), ((u.1 9), .inr (5, [.int 0, .int 0, .int 0, .int 0, .int 0, .int 0, .int 0, .int 0])), ((u.1 10), .inr (3, [.ref ((u.2.2.2.2.2.2.2.2.1).1 0), .ref ((u.2.2.2.2.2.2.2.2.1).1 1), .ref ((u.2.2.2.2.2.2.2.2.1).1 2), .int 0, .int 0, .int 0, .int 0])), (((u.2.2.2.2.2.2.2.2.1).1 0), .inr (4, [.int 0, .int 0, .int 0, .int 999])), (((u.2.2.2.2.2.2.2.2.1).1 1), .inl (((u.2.2.2.2.2.2.2.2.1).2 0), 6, .inr (.inr (.inr (.inr (va_up (va_up (va_up (va_up (va_up (va_up (fun _ => none) 0 (some ((u.2.2.2.2.2.2.2.2.1).1 3))) 1 (some ((u.2.2.2.2.2.2.2.2.1).1 4))) 2 (some ((u.2.2.2.2.2.2.2.2.1).1 5))) 3 (some ((u.2.2.2.2.2.2.2.2.1).1 6))) 4 (some ((u.2.2.2.2.2.2.2.2.1).1 7))) 5 (some ((u.2.2.2.2.2.2.2.2.1).1 8)))))))), (((u.2.2.2.2.2.2.2.2.1).1 2), .inl (((u.2.2.2.2.2.2.2.2.1).2 1), 4, .inr (.inr (.inr (.inr (va_up (va_up (va_up (va_up (fun _ => none) 0 (some ((u.2.2.2.2.2.2.2.2.1).1 9))) 1 (some ((u.2.2.2.2.2.2.2.2.1).1 10))) 2 (some ((u.2.2.2.2.2.2.2.2.1).1 11))) 3 (some ((u.2.2.2.2.2.2.2.2.1).1 12)))))))), (((u.2.2.2.2.2.2.2.2.1).1 3), .inr (1, [.int 0, .int 0, .int 0, .int 0, .int 0, .int 0])), (((u.2.2.2.2.2.2.2.2.1).1 4), .inr (1, [.int 0, .int 0, .int 0, .int 0, .int 0, .int 0])), (((u.2.2.2.2.2.2.2.2.1).1 5), .inr (1, [.int 0, .int 0, .int 0, .int 0, .int 0, .int 0])), (((u.2.2.2.2.2.2.2.2.1).1 6), .inr (1, [.int 0, .int 0, .int 0, .int 0, .int 0, .int 0])), (((u.2.2.2.2.2.2.2.2.1).1 7), .inr (1, [.int 0, .int 0, .int 0, .int 0, .int 0, .int 0])), (((u.2.2.2.2.2.2.2.2.1).1 8), .inr (1, [.int 0, .int 0, .int 0, .int 0, .int 0, .int 0])), (((u.2.2.2.2.2.2.2.2.1).1 9), .inr (5, [.int 0, .int 0, .int 0, .int 0, .int 0, .int 0, .int 0, .int 0])), (((u.2.2.2.2.2.2.2.2.1).1 10), .inr (5, [.int 0, .int 0, .int 0, .int 0, .int 0, .int 0, .int 0, .int 0])), (((u.2.2.2.2.2.2.2.2.1).1 11), .inr (5, [.int 0, .int 0, .int 0, .int 0, .int 0, .int 0, .int 0, .int 0])), (((u.2.2.2.2.2.2.2.2.1).1 12), .inr (5, [.int 0, .int 0, .int 0, .int 0, .int 0, .int 0, .int 0, .int 0])), ((u.1 11), .inr (3, [.ref ((u.2.2.2.2.2.2.2.2.2).1 0), .ref ((u.2.2.2.2.2.2.2.2.2).1 1), .ref ((u.2.2.2.2.2.2.2.2.2).1 2), .int 0, .int 0, .int 0, .int 0])), (((u.2.2.2.2.2.2.2.2.2).1 0), .inr (4, [.int 0, .int 0, .int 0, .int 999])), (((u.2.2.2.2.2.2.2.2.2).1 1), .inl (((u.2.2.2.2.2.2.2.2.2).2 0), 6, .inr (.inr (.inr (.inr (va_up (va_up (va_up (va_up (va_up (va_up (fun _ => none) 0 (some ((u.2.2.2.2.2.2.2.2.2).1 3))) 1 (some ((u.2.2.2.2.2.2.2.2.2).1 4))) 2 (some ((u.2.2.2.2.2.2.2.2.2).1 5))) 3 (some ((u.2.2.2.2.2.2.2.2.2).1 6))) 4 (some ((u.2.2.2.2.2.2.2.2.2).1 7))) 5 (some ((u.2.2.2.2.2.2.2.2.2).1 8)))))))), (((u.2.2.2.2.2.2.2.2.2).1 2), .inl (((u.2.2.2.2.2.2.2.2.2).2 1), 4, .inr (.inr (.inr (.inr (va_up (va_up (va_up (va_up (fun _ => none) 0 (some ((u.2.2.2.2.2.2.2.2.2).1 9))) 1 (some ((u.2.2.2.2.2.2.2.2.2).1 10))) 2 (some ((u.2.2.2.2.2.2.2.2.2).1 11))) 3 (some ((u.2.2.2.2.2.2.2.2.2).1 12)))))))), (((u.2.2.2.2.2.2.2.2.2).1 3), .inr (1, [.int 0, .int 0, .int 0, .int 0, .int 0, .int 0])), (((u.2.2.2.2.2.2.2.2.2).1 4), .inr (1, [.int 0, .int 0, .int 0, .int 0, .int 0, .int 0])), (((u.2.2.2.2.2.2.2.2.2).1 5), .inr (1, [.int 0, .int 0, .int 0, .int 0, .int 0, .int 0])), (((u.2.2.2.2.2.2.2.2.2).1 6), .inr (1, [.int 0, .int 0, .int 0, .int 0, .int 0, .int 0])), (((u.2.2.2.2.2.2.2.2.2).1 7), .inr (1, [.int 0, .int 0, .int 0, .int 0, .int 0, .int 0])), (((u.2.2.2.2.2.2.2.2.2).1 8), .inr (1, [.int 0, .int 0, .int 0, .int 0, .int 0, .int 0])), (((u.2.2.2.2.2.2.2.2.2).1 9), .inr (5, [.int 0, .int 0, .int 0, .int 0, .int 0, .int 0, .int 0, .int 0])), (((u.2.2.2.2.2.2.2.2.2).1 10), .inr (5, [.int 0, .int 0, .int 0, .int 0, .int 0, .int 0, .int 0, .int 0])), (((u.2.2.2.2.2.2.2.2.2).1 11), .inr (5, [.int 0, .int 0, .int 0, .int 0, .int 0, .int 0, .int 0, .int 0])), (((u.2.2.2.2.2.2.2.2.2).1 12), .inr (5, [.int 0, .int 0, .int 0, .int 0, .int 0, .int 0, .int 0, .int 0])), (q1, .inr (11, [.int 0, .int 0, .int 0, .int 999, .int 0, .ref (v.1 0), .ref (v.1 1), .ref (v.1 2), .ref (v.1 3), .ref (v.1 4), .ref (v.1 5), .int 0, .ref (v.1 6), .ref (v.1 7), .ref (v.1 8), .ref (v.1 9), .ref (v.1 10), .ref (v.1 11), .ref (v.1 12), .ref (v.1 13), .int 0, .int 0, .ref (v.1 14), .int 0, .int (-1), .int 0, .int 0, .int 0, .ref (v.1 15), .int 0, .ref (v.1 16), .int 0, .ref (v.1 17), .ref (v.1 18), .ref (v.1 19), .ref (v.1 20), .ref (v.1 21), .ref (v.1 22), .int 0, .ref (v.1 23), .ref (v.1 24), .ref (v.1 25), .ref (v.1 26), .ref (v.1 27), .ref (v.1 28), .ref (v.1 29), .ref (v.1 30), .ref (v.1 31), .ref (v.1 32), .int 0, .ref (v.1 33), .ref (v.1 34), .ref (v.1 35), .int 0, .ref (v.1 36), .ref (v.1 37), .ref (v.1 38), .ref (v.1 39), .int 0, .ref (v.1 40), .ref (v.1 41), .ref (v.1 42), .ref (v.1 43), .ref (v.1 44)])), ((v.1 0), .inl ((v.2 0), 6, .inl (fun _ => 0))), ((v.1 1), .inl ((v.2 1), 6, .inl (fun _ => 0))), ((v.1 2), .inl ((v.2 2), 6, .inl (fun _ => 0))), ((v.1 3), .inl ((v.2 3), 6, .inl (fun _ => 0))), ((v.1 4), .inl ((v.2 4), 6, .inl (fun _ => 0))), ((v.1 5), .inl ((v.2 5), 6, .inl (fun _ => 0))), ((v.1 6), .inl ((v.2 6), 4, .inl (fun _ => 0))), ((v.1 7), .inl ((v.2 7), 4, .inl (fun _ => 0))), ((v.1 8), .inl ((v.2 8), 4, .inl (fun _ => 0))), ((v.1 9), .inl ((v.2 9), 4, .inl (fun _ => 0))), ((v.1 10), .inl ((v.2 10), 4, .inl (fun _ => 0))), ((v.1 11), .inl ((v.2 11), 4, .inl (fun _ => 0))), ((v.1 12), .inl ((v.2 12), 4, .inl (fun _ => 0))), ((v.1 13), .inl ((v.2 13), 4, .inl (fun _ => 0))), ((v.1 14), .inl ((v.2 14), 230, .inl (fun _ => 0))), ((v.1 15), .inl ((v.2 15), 3, .inl (fun _ => 0))), ((v.1 16), .inl ((v.2 16), 1, .inl (fun _ => 0))), ((v.1 17), .inl ((v.2 17), 6, .inl (fun _ => 0))), ((v.1 18), .inl ((v.2 18), 6, .inl (fun _ => 0))), ((v.1 19), .inl ((v.2 19), 6, .inl (fun _ => 0))), ((v.1 20), .inl ((v.2 20), 6, .inl (fun _ => 0))), ((v.1 21), .inl ((v.2 21), 6, .inl (fun _ => 0))), ((v.1 22), .inl ((v.2 22), 6, .inl (fun _ => 0))), ((v.1 23), .inl ((v.2 23), 4, .inl (fun _ => 0))), ((v.1 24), .inl ((v.2 24), 4, .inl (fun _ => 0))), ((v.1 25), .inl ((v.2 25), 4, .inl (fun _ => 0))), ((v.1 26), .inl ((v.2 26), 4, .inl (fun _ => 0))), ((v.1 27), .inl ((v.2 27), 6, .inl (fun _ => 0))), ((v.1 28), .inl ((v.2 28), 6, .inl (fun _ => 0))), ((v.1 29), .inl ((v.2 29), 6, .inl (fun _ => 0))), ((v.1 30), .inl ((v.2 30), 150, .inl (fun _ => 0))), ((v.1 31), .inl ((v.2 31), 11200, .inl (fun _ => 0))), ((v.1 32), .inl ((v.2 32), 24, .inl (fun _ => 0))), ((v.1 33), .inl ((v.2 33), 8, .inl (fun _ => 0))), ((v.1 34), .inl ((v.2 34), 8, .inl (fun _ => 0))), ((v.1 35), .inl ((v.2 35), 8, .inl (fun _ => 0))), ((v.1 36), .inl ((v.2 36), 8, .inl (fun _ => 0))), ((v.1 37), .inl ((v.2 37), 8, .inl (fun _ => 0))), ((v.1 38), .inl ((v.2 38), 8, .inl (fun _ => 0))), ((v.1 39), .inl ((v.2 39), 8, .inl (fun _ => 0))), ((v.1 40), .inl ((v.2 40), 20, .inl (fun _ => 0))), ((v.1 41), .inl ((v.2 41), 20, .inl (fun _ => 0))), ((v.1 42), .inl ((v.2 42), 20, .inl (fun _ => 0))), ((v.1 43), .inl ((v.2 43), 100, .inl (fun _ => 0))), ((v.1 44), .inl ((v.2 44), 2, .inl (fun _ => 0)))]
def zwT (u : SX10) (v : SX11) : List (ClassId × FieldType) := [((((u.2.2.1).2.2).2 0), .object RX1), ((((u.2.2.1).2.2).2 1), .object RX5), (((u.2.2.1).2.1 0), .char), (((u.2.2.1).2.1 1), .int), (((u.2.2.2.1).2 0), .object RX1), (((u.2.2.2.1).2 1), .object RX5), ((u.2.1 0), .object RX3), ((u.2.1 1), .boolean), (((u.2.2.2.2.1).2 0), .int), (((u.2.2.2.2.1).2 1), .int), (((u.2.2.2.2.1).2 2), .int), (((u.2.2.2.2.1).2 3), .int), (((u.2.2.2.2.1).2 4), .int), (((u.2.2.2.2.1).2 5), .int), (((u.2.2.2.2.1).2 6), .int), (((u.2.2.2.2.1).2 7), .int), (((u.2.2.2.2.2.1).2 0), .int), (((u.2.2.2.2.2.1).2 1), .int), (((u.2.2.2.2.2.1).2 2), .int), ((((u.2.2.2.2.2.2.2.1).2.2.1).2 0), .int), ((((u.2.2.2.2.2.2.2.1).2.2.1).2 1), .int), ((((u.2.2.2.2.2.2.2.1).2.2.1).2 2), .int), ((((u.2.2.2.2.2.2.2.1).2.2.1).2 3), .int), ((((u.2.2.2.2.2.2.2.1).2.2.2.1).2 0), .int), ((((u.2.2.2.2.2.2.2.1).2.2.2.1).2 1), .int), ((((u.2.2.2.2.2.2.2.1).2.2.2.1).2 2), .int), ((((u.2.2.2.2.2.2.2.1).2.2.2.1).2 3), .int), ((((u.2.2.2.2.2.2.2.1).2.2.2.2).2 0), .int), ((((u.2.2.2.2.2.2.2.1).2.2.2.2).2 1), .int), ((((u.2.2.2.2.2.2.2.1).2.2.2.2).2 2), .int), ((((u.2.2.2.2.2.2.2.1).2.2.2.2).2 3), .int), (((u.2.2.2.2.2.2.2.1).2.1 0), .int), (((u.2.2.2.2.2.2.2.2.1).2 0), .object RX1), (((u.2.2.2.2.2.2.2.2.1).2 1), .object RX5), (((u.2.2.2.2.2.2.2.2.2).2 0), .object RX1), (((u.2.2.2.2.2.2.2.2.2).2 1), .object RX5), ((v.2 0), .int), ((v.2 1), .int), ((v.2 2), .int), ((v.2 3), .int), ((v.2 4), .int), ((v.2 5), .int), ((v.2 6), .int), ((v.2 7), .int), ((v.2 8), .int), ((v.2 9), .int), ((v.2 10), .boolean), ((v.2 11), .int), ((v.2 12), .int), ((v.2 13), .int), ((v.2 14), .int), ((v.2 15), .int), ((v.2 16), .int), ((v.2 17), .int), ((v.2 18), .int), ((v.2 19), .int), ((v.2 20), .int), ((v.2 21), .int), ((v.2 22), .int), ((v.2 23), .int), ((v.2 24), .int), ((v.2 25), .int), ((v.2 26), .int), ((v.2 27), .int), ((v.2 28), .int), ((v.2 29), .int), ((v.2 30), .int), ((v.2 31), .int), ((v.2 32), .int), ((v.2 33), .int), ((v.2 34), .int), ((v.2 35), .int), ((v.2 36), .int), ((v.2 37), .int), ((v.2 38), .int), ((v.2 39), .int), ((v.2 40), .int), ((v.2 41), .int), ((v.2 42), .int), ((v.2 43), .int), ((v.2 44), .boolean)]
theorem zw_G (q0 q1 : Nat) (u : SX10) (v : SX11) : gX10 q0 u ++ gX11 q1 v = zwG q0 q1 u v := rfl
theorem zw_T (u : SX10) (v : SX11) : tX10 u ++ tX11 v = zwT u v := rfl
def zwA (q0 q1 : Nat) (u : SX10) (v : SX11) (t : Nat → Nat) (k : Nat) : Nat := ([q0, q1, u.1 0, u.1 4, u.1 5, u.1 6, u.1 7, u.1 8, u.1 9, u.1 2, u.1 1, u.2.2.2.1.1 0, u.2.2.2.1.1 1, u.2.2.2.1.1 2, u.2.2.2.1.1 3, u.2.2.2.1.1 4, u.2.2.2.1.1 5, u.2.2.2.1.1 6, u.2.2.2.1.1 7, u.2.2.2.1.1 8, u.2.2.2.1.1 9, u.2.2.2.1.1 10, u.2.2.2.1.1 11, u.2.2.2.1.1 12, u.1 10, u.2.2.2.2.2.2.2.2.1.1 0, u.2.2.2.2.2.2.2.2.1.1 1, u.2.2.2.2.2.2.2.2.1.1 2, u.2.2.2.2.2.2.2.2.1.1 3, u.2.2.2.2.2.2.2.2.1.1 4, u.2.2.2.2.2.2.2.2.1.1 5, u.2.2.2.2.2.2.2.2.1.1 6, u.2.2.2.2.2.2.2.2.1.1 7, u.2.2.2.2.2.2.2.2.1.1 8, u.2.2.2.2.2.2.2.2.1.1 9, u.2.2.2.2.2.2.2.2.1.1 10, u.2.2.2.2.2.2.2.2.1.1 11, u.2.2.2.2.2.2.2.2.1.1 12, u.1 11, u.2.2.2.2.2.2.2.2.2.1 0, u.2.2.2.2.2.2.2.2.2.1 1, u.2.2.2.2.2.2.2.2.2.1 2, u.2.2.2.2.2.2.2.2.2.1 3, u.2.2.2.2.2.2.2.2.2.1 4, u.2.2.2.2.2.2.2.2.2.1 5, u.2.2.2.2.2.2.2.2.2.1 6, u.2.2.2.2.2.2.2.2.2.1 7, u.2.2.2.2.2.2.2.2.2.1 8, u.2.2.2.2.2.2.2.2.2.1 9, u.2.2.2.2.2.2.2.2.2.1 10, u.2.2.2.2.2.2.2.2.2.1 11, u.2.2.2.2.2.2.2.2.2.1 12, u.2.2.1.1 0, u.2.2.1.2.2.1 0, u.2.2.1.2.2.1 1, u.2.2.1.2.2.1 2, u.2.2.1.2.2.1 3, u.2.2.1.2.2.1 4, u.2.2.1.2.2.1 5, u.2.2.1.2.2.1 6, u.2.2.1.2.2.1 7, u.2.2.1.2.2.1 8, u.2.2.1.2.2.1 9, u.2.2.1.2.2.1 10, u.2.2.1.2.2.1 11, u.2.2.1.2.2.1 12, u.1 3, u.2.2.1.1 1, u.2.2.1.1 2, u.2.2.2.2.1.1 0, u.2.2.2.2.1.1 1, u.2.2.2.2.1.1 2, u.2.2.2.2.1.1 3, u.2.2.2.2.1.1 4, u.2.2.2.2.1.1 5, u.2.2.2.2.1.1 6, u.2.2.2.2.1.1 7, u.2.2.2.2.1.1 8, u.2.2.2.2.2.1.1 0, u.2.2.2.2.2.1.1 1, u.2.2.2.2.2.1.1 2, u.2.2.2.2.2.1.1 3, u.2.2.2.2.2.2.1.1 0, u.2.2.2.2.2.2.2.1.1 0, u.2.2.2.2.2.2.2.1.1 1, u.2.2.2.2.2.2.2.1.1 2, u.2.2.2.2.2.2.2.1.1 3, u.2.2.2.2.2.2.2.1.1 4, u.2.2.2.2.2.2.2.1.1 5, u.2.2.2.2.2.2.2.1.1 6, u.2.2.2.2.2.2.2.1.2.2.1.1 0, u.2.2.2.2.2.2.2.1.2.2.1.1 1, u.2.2.2.2.2.2.2.1.2.2.1.1 2, u.2.2.2.2.2.2.2.1.2.2.1.1 3, u.2.2.2.2.2.2.2.1.2.2.2.1.1 0, u.2.2.2.2.2.2.2.1.2.2.2.1.1 1, u.2.2.2.2.2.2.2.1.2.2.2.1.1 2, u.2.2.2.2.2.2.2.1.2.2.2.1.1 3, u.2.2.2.2.2.2.2.1.2.2.2.2.1 0, u.2.2.2.2.2.2.2.1.2.2.2.2.1 1, u.2.2.2.2.2.2.2.1.2.2.2.2.1 2, u.2.2.2.2.2.2.2.1.2.2.2.2.1 3, v.1 0, v.1 1, v.1 2, v.1 3, v.1 4, v.1 5, v.1 6, v.1 7, v.1 8, v.1 9, v.1 10, v.1 11, v.1 12, v.1 13, v.1 14, v.1 15, v.1 16, v.1 17, v.1 18, v.1 19, v.1 20, v.1 21, v.1 22, v.1 23, v.1 24, v.1 25, v.1 26, v.1 27, v.1 28, v.1 29, v.1 30, v.1 31, v.1 32, v.1 33, v.1 34, v.1 35, v.1 36, v.1 37, v.1 38, v.1 39, v.1 40, v.1 41, v.1 42, v.1 43, v.1 44, t 0, t 1, t 2, t 3] : List Nat).getD k 0
def zwC (u : SX10) (v : SX11) (k : Nat) : ClassId := ([v.2 0, v.2 0, v.2 0, v.2 0, v.2 0, v.2 0, v.2 0, v.2 0, v.2 0, u.2.1 0, v.2 0, v.2 0, u.2.2.2.1.2 0, u.2.2.2.1.2 1, v.2 0, v.2 0, v.2 0, v.2 0, v.2 0, v.2 0, v.2 0, v.2 0, v.2 0, v.2 0, v.2 0, v.2 0, u.2.2.2.2.2.2.2.2.1.2 0, u.2.2.2.2.2.2.2.2.1.2 1, v.2 0, v.2 0, v.2 0, v.2 0, v.2 0, v.2 0, v.2 0, v.2 0, v.2 0, v.2 0, v.2 0, v.2 0, u.2.2.2.2.2.2.2.2.2.2 0, u.2.2.2.2.2.2.2.2.2.2 1, v.2 0, v.2 0, v.2 0, v.2 0, v.2 0, v.2 0, v.2 0, v.2 0, v.2 0, v.2 0, v.2 0, v.2 0, u.2.2.1.2.2.2 0, u.2.2.1.2.2.2 1, v.2 0, v.2 0, v.2 0, v.2 0, v.2 0, v.2 0, v.2 0, v.2 0, v.2 0, v.2 0, u.2.1 1, u.2.2.1.2.1 0, u.2.2.1.2.1 1, u.2.2.2.2.1.2 0, u.2.2.2.2.1.2 1, u.2.2.2.2.1.2 2, u.2.2.2.2.1.2 3, u.2.2.2.2.1.2 4, u.2.2.2.2.1.2 5, u.2.2.2.2.1.2 6, u.2.2.2.2.1.2 7, v.2 0, u.2.2.2.2.2.1.2 0, u.2.2.2.2.2.1.2 1, u.2.2.2.2.2.1.2 2, v.2 0, v.2 0, v.2 0, v.2 0, v.2 0, v.2 0, v.2 0, v.2 0, u.2.2.2.2.2.2.2.1.2.1 0, u.2.2.2.2.2.2.2.1.2.2.1.2 0, u.2.2.2.2.2.2.2.1.2.2.1.2 1, u.2.2.2.2.2.2.2.1.2.2.1.2 2, u.2.2.2.2.2.2.2.1.2.2.1.2 3, u.2.2.2.2.2.2.2.1.2.2.2.1.2 0, u.2.2.2.2.2.2.2.1.2.2.2.1.2 1, u.2.2.2.2.2.2.2.1.2.2.2.1.2 2, u.2.2.2.2.2.2.2.1.2.2.2.1.2 3, u.2.2.2.2.2.2.2.1.2.2.2.2.2 0, u.2.2.2.2.2.2.2.1.2.2.2.2.2 1, u.2.2.2.2.2.2.2.1.2.2.2.2.2 2, u.2.2.2.2.2.2.2.1.2.2.2.2.2 3, v.2 0, v.2 1, v.2 2, v.2 3, v.2 4, v.2 5, v.2 6, v.2 7, v.2 8, v.2 9, v.2 10, v.2 11, v.2 12, v.2 13, v.2 14, v.2 15, v.2 16, v.2 17, v.2 18, v.2 19, v.2 20, v.2 21, v.2 22, v.2 23, v.2 24, v.2 25, v.2 26, v.2 27, v.2 28, v.2 29, v.2 30, v.2 31, v.2 32, v.2 33, v.2 34, v.2 35, v.2 36, v.2 37, v.2 38, v.2 39, v.2 40, v.2 41, v.2 42, v.2 43, v.2 44] : List ClassId).getD k (v.2 0)
def zwPosT : List Nat := [0, 101, 1, 34, 44, 49, 51, 71, 72, 32, 18, 19, 20, 21, 22, 23, 24, 25, 26, 27, 28, 29, 30, 31, 73, 74, 75, 76, 77, 78, 79, 80, 81, 82, 83, 84, 85, 86, 87, 88, 89, 90, 91, 92, 93, 94, 95, 96, 97, 98, 99, 100, 2, 3, 4, 5, 6, 7, 8, 9, 10, 11, 12, 13, 14, 15, 33, 16, 17, 35, 36, 37, 38, 39, 40, 41, 42, 43, 45, 46, 47, 48, 50, 52, 57, 62, 67, 68, 69, 70, 53, 54, 55, 56, 58, 59, 60, 61, 63, 64, 65, 66, 102, 103, 104, 105, 106, 107, 108, 109, 110, 111, 112, 113, 114, 115, 116, 117, 118, 119, 120, 121, 122, 123, 124, 125, 126, 127, 128, 129, 130, 131, 132, 133, 134, 135, 136, 137, 138, 139, 140, 141, 142, 143, 144, 145, 146]
def zwInvT : List Nat := [0, 2, 52, 53, 54, 55, 56, 57, 58, 59, 60, 61, 62, 63, 64, 65, 67, 68, 10, 11, 12, 13, 14, 15, 16, 17, 18, 19, 20, 21, 22, 23, 9, 66, 3, 69, 70, 71, 72, 73, 74, 75, 76, 77, 4, 78, 79, 80, 81, 5, 82, 6, 83, 90, 91, 92, 93, 84, 94, 95, 96, 97, 85, 98, 99, 100, 101, 86, 87, 88, 89, 7, 8, 24, 25, 26, 27, 28, 29, 30, 31, 32, 33, 34, 35, 36, 37, 38, 39, 40, 41, 42, 43, 44, 45, 46, 47, 48, 49, 50, 51, 1, 102, 103, 104, 105, 106, 107, 108, 109, 110, 111, 112, 113, 114, 115, 116, 117, 118, 119, 120, 121, 122, 123, 124, 125, 126, 127, 128, 129, 130, 131, 132, 133, 134, 135, 136, 137, 138, 139, 140, 141, 142, 143, 144, 145, 146]
def zwTpT : List Nat := [36, 36, 36, 36, 36, 36, 36, 36, 36, 6, 36, 36, 4, 5, 36, 36, 36, 36, 36, 36, 36, 36, 36, 36, 36, 36, 32, 33, 36, 36, 36, 36, 36, 36, 36, 36, 36, 36, 36, 36, 34, 35, 36, 36, 36, 36, 36, 36, 36, 36, 36, 36, 36, 36, 0, 1, 36, 36, 36, 36, 36, 36, 36, 36, 36, 36, 7, 2, 3, 8, 9, 10, 11, 12, 13, 14, 15, 36, 16, 17, 18, 36, 36, 36, 36, 36, 36, 36, 36, 31, 19, 20, 21, 22, 23, 24, 25, 26, 27, 28, 29, 30, 36, 37, 38, 39, 40, 41, 42, 43, 44, 45, 46, 47, 48, 49, 50, 51, 52, 53, 54, 55, 56, 57, 58, 59, 60, 61, 62, 63, 64, 65, 66, 67, 68, 69, 70, 71, 72, 73, 74, 75, 76, 77, 78, 79, 80]
def zwAt (q0 q1 : Nat) (u : SX10) (v : SX11) (t : Nat → Nat) (k : Nat) : Prop := (∃ E : va_E, (zwG q0 q1 u v)[zwPosT.getD k 0]? = some (zwA q0 q1 u v t k, E) ∧ ∀ (D : va_G) (H : Heap), va_at D vwCl (zwA q0 q1 u v t k, E) H → va_at D vwCl (zwA q0 q1 u v t k, bl_cell (zwA q0 q1 u v t) (zwC u v) zw0 k) H) ∧ (zwT u v)[zwTpT.getD k 0]? = some (zwC u v k, bl_aty k)
theorem zw_refs {D : va_G} {cl : List vw_C} {a n : Nat} {c : ClassId} {f g : Nat → Option Nat} {H : Heap} (e : ∀ j, j < n → f j = g j) (h : va_at D cl (a, .inl (c, n, .inr (.inr (.inr (.inr f))))) H) : va_at D cl (a, .inl (c, n, .inr (.inr (.inr (.inr g))))) H := by
  have h1 : H[a]? = some (arrV c n (fun j => va_rf (f j))) := h
  show H[a]? = some (arrV c n (fun j => va_rf (g j)))
  rw [h1]
  have h2 : (fun j : Fin n => va_rf (f j.val)) = fun j : Fin n => va_rf (g j.val) := by
    funext j
    rw [e j.val j.isLt]
  unfold arrV
  rw [h2]
theorem zw_lt {P : Nat → Prop} {n : Nat} (h : P n) (r : ∀ k, k < n → P k) : ∀ k, k < n + 1 → P k := fun k hk => by
  rcases Nat.lt_or_ge k n with q | q
  · exact r k q
  · rw [show k = n by omega]
    exact h
theorem zw_z {P : Nat → Prop} : ∀ k, k < 0 → P k := fun k hk => absurd hk (Nat.not_lt_zero k)
set_option maxRecDepth 100000
theorem zw_0 (q0 q1 : Nat) (u : SX10) (v : SX11) (t : Nat → Nat) : zwAt q0 q1 u v t 0 := ⟨⟨bl_cell (zwA q0 q1 u v t) (zwC u v) zw0 0, rfl, fun _ _ h => h⟩, rfl⟩
theorem zw_1 (q0 q1 : Nat) (u : SX10) (v : SX11) (t : Nat → Nat) : zwAt q0 q1 u v t 1 := ⟨⟨bl_cell (zwA q0 q1 u v t) (zwC u v) zw0 1, rfl, fun _ _ h => h⟩, rfl⟩
theorem zw_2 (q0 q1 : Nat) (u : SX10) (v : SX11) (t : Nat → Nat) : zwAt q0 q1 u v t 2 := ⟨⟨bl_cell (zwA q0 q1 u v t) (zwC u v) zw0 2, rfl, fun _ _ h => h⟩, rfl⟩
theorem zw_3 (q0 q1 : Nat) (u : SX10) (v : SX11) (t : Nat → Nat) : zwAt q0 q1 u v t 3 := ⟨⟨bl_cell (zwA q0 q1 u v t) (zwC u v) zw0 3, rfl, fun _ _ h => h⟩, rfl⟩
theorem zw_4 (q0 q1 : Nat) (u : SX10) (v : SX11) (t : Nat → Nat) : zwAt q0 q1 u v t 4 := ⟨⟨bl_cell (zwA q0 q1 u v t) (zwC u v) zw0 4, rfl, fun _ _ h => h⟩, rfl⟩
theorem zw_5 (q0 q1 : Nat) (u : SX10) (v : SX11) (t : Nat → Nat) : zwAt q0 q1 u v t 5 := ⟨⟨bl_cell (zwA q0 q1 u v t) (zwC u v) zw0 5, rfl, fun _ _ h => h⟩, rfl⟩
theorem zw_6 (q0 q1 : Nat) (u : SX10) (v : SX11) (t : Nat → Nat) : zwAt q0 q1 u v t 6 := ⟨⟨bl_cell (zwA q0 q1 u v t) (zwC u v) zw0 6, rfl, fun _ _ h => h⟩, rfl⟩
theorem zw_7 (q0 q1 : Nat) (u : SX10) (v : SX11) (t : Nat → Nat) : zwAt q0 q1 u v t 7 := ⟨⟨bl_cell (zwA q0 q1 u v t) (zwC u v) zw0 7, rfl, fun _ _ h => h⟩, rfl⟩
theorem zw_8 (q0 q1 : Nat) (u : SX10) (v : SX11) (t : Nat → Nat) : zwAt q0 q1 u v t 8 := ⟨⟨bl_cell (zwA q0 q1 u v t) (zwC u v) zw0 8, rfl, fun _ _ h => h⟩, rfl⟩
theorem zw_9 (q0 q1 : Nat) (u : SX10) (v : SX11) (t : Nat → Nat) : zwAt q0 q1 u v t 9 := ⟨⟨_, rfl, fun D H h => zw_refs (n := 2) (g := fun j => some (zwA q0 q1 u v t (bl_rf 9 j))) (fun j hj => by rcases (show j = 0 ∨ j = 1 by omega) with rfl | rfl <;> rfl) h⟩, rfl⟩
theorem zw_10 (q0 q1 : Nat) (u : SX10) (v : SX11) (t : Nat → Nat) : zwAt q0 q1 u v t 10 := ⟨⟨bl_cell (zwA q0 q1 u v t) (zwC u v) zw0 10, rfl, fun _ _ h => h⟩, rfl⟩
theorem zw_11 (q0 q1 : Nat) (u : SX10) (v : SX11) (t : Nat → Nat) : zwAt q0 q1 u v t 11 := ⟨⟨bl_cell (zwA q0 q1 u v t) (zwC u v) zw0 11, rfl, fun _ _ h => h⟩, rfl⟩
theorem zw_12 (q0 q1 : Nat) (u : SX10) (v : SX11) (t : Nat → Nat) : zwAt q0 q1 u v t 12 := ⟨⟨_, rfl, fun D H h => zw_refs (n := 6) (g := fun j => some (zwA q0 q1 u v t (bl_rf 12 j))) (fun j hj => by rcases (show j = 0 ∨ j = 1 ∨ j = 2 ∨ j = 3 ∨ j = 4 ∨ j = 5 by omega) with rfl | rfl | rfl | rfl | rfl | rfl <;> rfl) h⟩, rfl⟩
theorem zw_13 (q0 q1 : Nat) (u : SX10) (v : SX11) (t : Nat → Nat) : zwAt q0 q1 u v t 13 := ⟨⟨_, rfl, fun D H h => zw_refs (n := 4) (g := fun j => some (zwA q0 q1 u v t (bl_rf 13 j))) (fun j hj => by rcases (show j = 0 ∨ j = 1 ∨ j = 2 ∨ j = 3 by omega) with rfl | rfl | rfl | rfl <;> rfl) h⟩, rfl⟩
theorem zw_14 (q0 q1 : Nat) (u : SX10) (v : SX11) (t : Nat → Nat) : zwAt q0 q1 u v t 14 := ⟨⟨bl_cell (zwA q0 q1 u v t) (zwC u v) zw0 14, rfl, fun _ _ h => h⟩, rfl⟩
theorem zw_15 (q0 q1 : Nat) (u : SX10) (v : SX11) (t : Nat → Nat) : zwAt q0 q1 u v t 15 := ⟨⟨bl_cell (zwA q0 q1 u v t) (zwC u v) zw0 15, rfl, fun _ _ h => h⟩, rfl⟩
theorem zw_16 (q0 q1 : Nat) (u : SX10) (v : SX11) (t : Nat → Nat) : zwAt q0 q1 u v t 16 := ⟨⟨bl_cell (zwA q0 q1 u v t) (zwC u v) zw0 16, rfl, fun _ _ h => h⟩, rfl⟩
theorem zw_17 (q0 q1 : Nat) (u : SX10) (v : SX11) (t : Nat → Nat) : zwAt q0 q1 u v t 17 := ⟨⟨bl_cell (zwA q0 q1 u v t) (zwC u v) zw0 17, rfl, fun _ _ h => h⟩, rfl⟩
theorem zw_18 (q0 q1 : Nat) (u : SX10) (v : SX11) (t : Nat → Nat) : zwAt q0 q1 u v t 18 := ⟨⟨bl_cell (zwA q0 q1 u v t) (zwC u v) zw0 18, rfl, fun _ _ h => h⟩, rfl⟩
theorem zw_19 (q0 q1 : Nat) (u : SX10) (v : SX11) (t : Nat → Nat) : zwAt q0 q1 u v t 19 := ⟨⟨bl_cell (zwA q0 q1 u v t) (zwC u v) zw0 19, rfl, fun _ _ h => h⟩, rfl⟩
theorem zw_20 (q0 q1 : Nat) (u : SX10) (v : SX11) (t : Nat → Nat) : zwAt q0 q1 u v t 20 := ⟨⟨bl_cell (zwA q0 q1 u v t) (zwC u v) zw0 20, rfl, fun _ _ h => h⟩, rfl⟩
theorem zw_21 (q0 q1 : Nat) (u : SX10) (v : SX11) (t : Nat → Nat) : zwAt q0 q1 u v t 21 := ⟨⟨bl_cell (zwA q0 q1 u v t) (zwC u v) zw0 21, rfl, fun _ _ h => h⟩, rfl⟩
theorem zw_22 (q0 q1 : Nat) (u : SX10) (v : SX11) (t : Nat → Nat) : zwAt q0 q1 u v t 22 := ⟨⟨bl_cell (zwA q0 q1 u v t) (zwC u v) zw0 22, rfl, fun _ _ h => h⟩, rfl⟩
theorem zw_23 (q0 q1 : Nat) (u : SX10) (v : SX11) (t : Nat → Nat) : zwAt q0 q1 u v t 23 := ⟨⟨bl_cell (zwA q0 q1 u v t) (zwC u v) zw0 23, rfl, fun _ _ h => h⟩, rfl⟩
theorem zw_24 (q0 q1 : Nat) (u : SX10) (v : SX11) (t : Nat → Nat) : zwAt q0 q1 u v t 24 := ⟨⟨bl_cell (zwA q0 q1 u v t) (zwC u v) zw0 24, rfl, fun _ _ h => h⟩, rfl⟩
theorem zw_25 (q0 q1 : Nat) (u : SX10) (v : SX11) (t : Nat → Nat) : zwAt q0 q1 u v t 25 := ⟨⟨bl_cell (zwA q0 q1 u v t) (zwC u v) zw0 25, rfl, fun _ _ h => h⟩, rfl⟩
theorem zw_26 (q0 q1 : Nat) (u : SX10) (v : SX11) (t : Nat → Nat) : zwAt q0 q1 u v t 26 := ⟨⟨_, rfl, fun D H h => zw_refs (n := 6) (g := fun j => some (zwA q0 q1 u v t (bl_rf 26 j))) (fun j hj => by rcases (show j = 0 ∨ j = 1 ∨ j = 2 ∨ j = 3 ∨ j = 4 ∨ j = 5 by omega) with rfl | rfl | rfl | rfl | rfl | rfl <;> rfl) h⟩, rfl⟩
theorem zw_27 (q0 q1 : Nat) (u : SX10) (v : SX11) (t : Nat → Nat) : zwAt q0 q1 u v t 27 := ⟨⟨_, rfl, fun D H h => zw_refs (n := 4) (g := fun j => some (zwA q0 q1 u v t (bl_rf 27 j))) (fun j hj => by rcases (show j = 0 ∨ j = 1 ∨ j = 2 ∨ j = 3 by omega) with rfl | rfl | rfl | rfl <;> rfl) h⟩, rfl⟩
theorem zw_28 (q0 q1 : Nat) (u : SX10) (v : SX11) (t : Nat → Nat) : zwAt q0 q1 u v t 28 := ⟨⟨bl_cell (zwA q0 q1 u v t) (zwC u v) zw0 28, rfl, fun _ _ h => h⟩, rfl⟩
theorem zw_29 (q0 q1 : Nat) (u : SX10) (v : SX11) (t : Nat → Nat) : zwAt q0 q1 u v t 29 := ⟨⟨bl_cell (zwA q0 q1 u v t) (zwC u v) zw0 29, rfl, fun _ _ h => h⟩, rfl⟩
theorem zw_30 (q0 q1 : Nat) (u : SX10) (v : SX11) (t : Nat → Nat) : zwAt q0 q1 u v t 30 := ⟨⟨bl_cell (zwA q0 q1 u v t) (zwC u v) zw0 30, rfl, fun _ _ h => h⟩, rfl⟩
theorem zw_31 (q0 q1 : Nat) (u : SX10) (v : SX11) (t : Nat → Nat) : zwAt q0 q1 u v t 31 := ⟨⟨bl_cell (zwA q0 q1 u v t) (zwC u v) zw0 31, rfl, fun _ _ h => h⟩, rfl⟩
theorem zw_32 (q0 q1 : Nat) (u : SX10) (v : SX11) (t : Nat → Nat) : zwAt q0 q1 u v t 32 := ⟨⟨bl_cell (zwA q0 q1 u v t) (zwC u v) zw0 32, rfl, fun _ _ h => h⟩, rfl⟩
theorem zw_33 (q0 q1 : Nat) (u : SX10) (v : SX11) (t : Nat → Nat) : zwAt q0 q1 u v t 33 := ⟨⟨bl_cell (zwA q0 q1 u v t) (zwC u v) zw0 33, rfl, fun _ _ h => h⟩, rfl⟩
theorem zw_34 (q0 q1 : Nat) (u : SX10) (v : SX11) (t : Nat → Nat) : zwAt q0 q1 u v t 34 := ⟨⟨bl_cell (zwA q0 q1 u v t) (zwC u v) zw0 34, rfl, fun _ _ h => h⟩, rfl⟩
theorem zw_35 (q0 q1 : Nat) (u : SX10) (v : SX11) (t : Nat → Nat) : zwAt q0 q1 u v t 35 := ⟨⟨bl_cell (zwA q0 q1 u v t) (zwC u v) zw0 35, rfl, fun _ _ h => h⟩, rfl⟩
theorem zw_36 (q0 q1 : Nat) (u : SX10) (v : SX11) (t : Nat → Nat) : zwAt q0 q1 u v t 36 := ⟨⟨bl_cell (zwA q0 q1 u v t) (zwC u v) zw0 36, rfl, fun _ _ h => h⟩, rfl⟩
theorem zw_37 (q0 q1 : Nat) (u : SX10) (v : SX11) (t : Nat → Nat) : zwAt q0 q1 u v t 37 := ⟨⟨bl_cell (zwA q0 q1 u v t) (zwC u v) zw0 37, rfl, fun _ _ h => h⟩, rfl⟩
theorem zw_38 (q0 q1 : Nat) (u : SX10) (v : SX11) (t : Nat → Nat) : zwAt q0 q1 u v t 38 := ⟨⟨bl_cell (zwA q0 q1 u v t) (zwC u v) zw0 38, rfl, fun _ _ h => h⟩, rfl⟩
theorem zw_39 (q0 q1 : Nat) (u : SX10) (v : SX11) (t : Nat → Nat) : zwAt q0 q1 u v t 39 := ⟨⟨bl_cell (zwA q0 q1 u v t) (zwC u v) zw0 39, rfl, fun _ _ h => h⟩, rfl⟩
theorem zw_40 (q0 q1 : Nat) (u : SX10) (v : SX11) (t : Nat → Nat) : zwAt q0 q1 u v t 40 := ⟨⟨_, rfl, fun D H h => zw_refs (n := 6) (g := fun j => some (zwA q0 q1 u v t (bl_rf 40 j))) (fun j hj => by rcases (show j = 0 ∨ j = 1 ∨ j = 2 ∨ j = 3 ∨ j = 4 ∨ j = 5 by omega) with rfl | rfl | rfl | rfl | rfl | rfl <;> rfl) h⟩, rfl⟩
theorem zw_41 (q0 q1 : Nat) (u : SX10) (v : SX11) (t : Nat → Nat) : zwAt q0 q1 u v t 41 := ⟨⟨_, rfl, fun D H h => zw_refs (n := 4) (g := fun j => some (zwA q0 q1 u v t (bl_rf 41 j))) (fun j hj => by rcases (show j = 0 ∨ j = 1 ∨ j = 2 ∨ j = 3 by omega) with rfl | rfl | rfl | rfl <;> rfl) h⟩, rfl⟩
theorem zw_42 (q0 q1 : Nat) (u : SX10) (v : SX11) (t : Nat → Nat) : zwAt q0 q1 u v t 42 := ⟨⟨bl_cell (zwA q0 q1 u v t) (zwC u v) zw0 42, rfl, fun _ _ h => h⟩, rfl⟩
theorem zw_43 (q0 q1 : Nat) (u : SX10) (v : SX11) (t : Nat → Nat) : zwAt q0 q1 u v t 43 := ⟨⟨bl_cell (zwA q0 q1 u v t) (zwC u v) zw0 43, rfl, fun _ _ h => h⟩, rfl⟩
theorem zw_44 (q0 q1 : Nat) (u : SX10) (v : SX11) (t : Nat → Nat) : zwAt q0 q1 u v t 44 := ⟨⟨bl_cell (zwA q0 q1 u v t) (zwC u v) zw0 44, rfl, fun _ _ h => h⟩, rfl⟩
theorem zw_45 (q0 q1 : Nat) (u : SX10) (v : SX11) (t : Nat → Nat) : zwAt q0 q1 u v t 45 := ⟨⟨bl_cell (zwA q0 q1 u v t) (zwC u v) zw0 45, rfl, fun _ _ h => h⟩, rfl⟩
theorem zw_46 (q0 q1 : Nat) (u : SX10) (v : SX11) (t : Nat → Nat) : zwAt q0 q1 u v t 46 := ⟨⟨bl_cell (zwA q0 q1 u v t) (zwC u v) zw0 46, rfl, fun _ _ h => h⟩, rfl⟩
theorem zw_47 (q0 q1 : Nat) (u : SX10) (v : SX11) (t : Nat → Nat) : zwAt q0 q1 u v t 47 := ⟨⟨bl_cell (zwA q0 q1 u v t) (zwC u v) zw0 47, rfl, fun _ _ h => h⟩, rfl⟩
theorem zw_48 (q0 q1 : Nat) (u : SX10) (v : SX11) (t : Nat → Nat) : zwAt q0 q1 u v t 48 := ⟨⟨bl_cell (zwA q0 q1 u v t) (zwC u v) zw0 48, rfl, fun _ _ h => h⟩, rfl⟩
theorem zw_49 (q0 q1 : Nat) (u : SX10) (v : SX11) (t : Nat → Nat) : zwAt q0 q1 u v t 49 := ⟨⟨bl_cell (zwA q0 q1 u v t) (zwC u v) zw0 49, rfl, fun _ _ h => h⟩, rfl⟩
theorem zw_50 (q0 q1 : Nat) (u : SX10) (v : SX11) (t : Nat → Nat) : zwAt q0 q1 u v t 50 := ⟨⟨bl_cell (zwA q0 q1 u v t) (zwC u v) zw0 50, rfl, fun _ _ h => h⟩, rfl⟩
theorem zw_51 (q0 q1 : Nat) (u : SX10) (v : SX11) (t : Nat → Nat) : zwAt q0 q1 u v t 51 := ⟨⟨bl_cell (zwA q0 q1 u v t) (zwC u v) zw0 51, rfl, fun _ _ h => h⟩, rfl⟩
theorem zw_52 (q0 q1 : Nat) (u : SX10) (v : SX11) (t : Nat → Nat) : zwAt q0 q1 u v t 52 := ⟨⟨bl_cell (zwA q0 q1 u v t) (zwC u v) zw0 52, rfl, fun _ _ h => h⟩, rfl⟩
theorem zw_53 (q0 q1 : Nat) (u : SX10) (v : SX11) (t : Nat → Nat) : zwAt q0 q1 u v t 53 := ⟨⟨bl_cell (zwA q0 q1 u v t) (zwC u v) zw0 53, rfl, fun _ _ h => h⟩, rfl⟩
theorem zw_54 (q0 q1 : Nat) (u : SX10) (v : SX11) (t : Nat → Nat) : zwAt q0 q1 u v t 54 := ⟨⟨_, rfl, fun D H h => zw_refs (n := 6) (g := fun j => some (zwA q0 q1 u v t (bl_rf 54 j))) (fun j hj => by rcases (show j = 0 ∨ j = 1 ∨ j = 2 ∨ j = 3 ∨ j = 4 ∨ j = 5 by omega) with rfl | rfl | rfl | rfl | rfl | rfl <;> rfl) h⟩, rfl⟩
theorem zw_55 (q0 q1 : Nat) (u : SX10) (v : SX11) (t : Nat → Nat) : zwAt q0 q1 u v t 55 := ⟨⟨_, rfl, fun D H h => zw_refs (n := 4) (g := fun j => some (zwA q0 q1 u v t (bl_rf 55 j))) (fun j hj => by rcases (show j = 0 ∨ j = 1 ∨ j = 2 ∨ j = 3 by omega) with rfl | rfl | rfl | rfl <;> rfl) h⟩, rfl⟩
theorem zw_56 (q0 q1 : Nat) (u : SX10) (v : SX11) (t : Nat → Nat) : zwAt q0 q1 u v t 56 := ⟨⟨bl_cell (zwA q0 q1 u v t) (zwC u v) zw0 56, rfl, fun _ _ h => h⟩, rfl⟩
theorem zw_57 (q0 q1 : Nat) (u : SX10) (v : SX11) (t : Nat → Nat) : zwAt q0 q1 u v t 57 := ⟨⟨bl_cell (zwA q0 q1 u v t) (zwC u v) zw0 57, rfl, fun _ _ h => h⟩, rfl⟩
theorem zw_58 (q0 q1 : Nat) (u : SX10) (v : SX11) (t : Nat → Nat) : zwAt q0 q1 u v t 58 := ⟨⟨bl_cell (zwA q0 q1 u v t) (zwC u v) zw0 58, rfl, fun _ _ h => h⟩, rfl⟩
theorem zw_59 (q0 q1 : Nat) (u : SX10) (v : SX11) (t : Nat → Nat) : zwAt q0 q1 u v t 59 := ⟨⟨bl_cell (zwA q0 q1 u v t) (zwC u v) zw0 59, rfl, fun _ _ h => h⟩, rfl⟩
theorem zw_60 (q0 q1 : Nat) (u : SX10) (v : SX11) (t : Nat → Nat) : zwAt q0 q1 u v t 60 := ⟨⟨bl_cell (zwA q0 q1 u v t) (zwC u v) zw0 60, rfl, fun _ _ h => h⟩, rfl⟩
theorem zw_61 (q0 q1 : Nat) (u : SX10) (v : SX11) (t : Nat → Nat) : zwAt q0 q1 u v t 61 := ⟨⟨bl_cell (zwA q0 q1 u v t) (zwC u v) zw0 61, rfl, fun _ _ h => h⟩, rfl⟩
theorem zw_62 (q0 q1 : Nat) (u : SX10) (v : SX11) (t : Nat → Nat) : zwAt q0 q1 u v t 62 := ⟨⟨bl_cell (zwA q0 q1 u v t) (zwC u v) zw0 62, rfl, fun _ _ h => h⟩, rfl⟩
theorem zw_63 (q0 q1 : Nat) (u : SX10) (v : SX11) (t : Nat → Nat) : zwAt q0 q1 u v t 63 := ⟨⟨bl_cell (zwA q0 q1 u v t) (zwC u v) zw0 63, rfl, fun _ _ h => h⟩, rfl⟩
theorem zw_64 (q0 q1 : Nat) (u : SX10) (v : SX11) (t : Nat → Nat) : zwAt q0 q1 u v t 64 := ⟨⟨bl_cell (zwA q0 q1 u v t) (zwC u v) zw0 64, rfl, fun _ _ h => h⟩, rfl⟩
theorem zw_65 (q0 q1 : Nat) (u : SX10) (v : SX11) (t : Nat → Nat) : zwAt q0 q1 u v t 65 := ⟨⟨bl_cell (zwA q0 q1 u v t) (zwC u v) zw0 65, rfl, fun _ _ h => h⟩, rfl⟩
theorem zw_66 (q0 q1 : Nat) (u : SX10) (v : SX11) (t : Nat → Nat) : zwAt q0 q1 u v t 66 := ⟨⟨bl_cell (zwA q0 q1 u v t) (zwC u v) zw0 66, rfl, fun _ _ h => h⟩, rfl⟩
theorem zw_67 (q0 q1 : Nat) (u : SX10) (v : SX11) (t : Nat → Nat) : zwAt q0 q1 u v t 67 := ⟨⟨bl_cell (zwA q0 q1 u v t) (zwC u v) zw0 67, rfl, fun _ _ h => h⟩, rfl⟩
theorem zw_68 (q0 q1 : Nat) (u : SX10) (v : SX11) (t : Nat → Nat) : zwAt q0 q1 u v t 68 := ⟨⟨bl_cell (zwA q0 q1 u v t) (zwC u v) zw0 68, rfl, fun _ _ h => h⟩, rfl⟩
theorem zw_69 (q0 q1 : Nat) (u : SX10) (v : SX11) (t : Nat → Nat) : zwAt q0 q1 u v t 69 := ⟨⟨bl_cell (zwA q0 q1 u v t) (zwC u v) zw0 69, rfl, fun _ _ h => h⟩, rfl⟩
theorem zw_70 (q0 q1 : Nat) (u : SX10) (v : SX11) (t : Nat → Nat) : zwAt q0 q1 u v t 70 := ⟨⟨bl_cell (zwA q0 q1 u v t) (zwC u v) zw0 70, rfl, fun _ _ h => h⟩, rfl⟩
theorem zw_71 (q0 q1 : Nat) (u : SX10) (v : SX11) (t : Nat → Nat) : zwAt q0 q1 u v t 71 := ⟨⟨bl_cell (zwA q0 q1 u v t) (zwC u v) zw0 71, rfl, fun _ _ h => h⟩, rfl⟩
theorem zw_72 (q0 q1 : Nat) (u : SX10) (v : SX11) (t : Nat → Nat) : zwAt q0 q1 u v t 72 := ⟨⟨bl_cell (zwA q0 q1 u v t) (zwC u v) zw0 72, rfl, fun _ _ h => h⟩, rfl⟩
theorem zw_73 (q0 q1 : Nat) (u : SX10) (v : SX11) (t : Nat → Nat) : zwAt q0 q1 u v t 73 := ⟨⟨bl_cell (zwA q0 q1 u v t) (zwC u v) zw0 73, rfl, fun _ _ h => h⟩, rfl⟩
theorem zw_74 (q0 q1 : Nat) (u : SX10) (v : SX11) (t : Nat → Nat) : zwAt q0 q1 u v t 74 := ⟨⟨bl_cell (zwA q0 q1 u v t) (zwC u v) zw0 74, rfl, fun _ _ h => h⟩, rfl⟩
theorem zw_75 (q0 q1 : Nat) (u : SX10) (v : SX11) (t : Nat → Nat) : zwAt q0 q1 u v t 75 := ⟨⟨bl_cell (zwA q0 q1 u v t) (zwC u v) zw0 75, rfl, fun _ _ h => h⟩, rfl⟩
theorem zw_76 (q0 q1 : Nat) (u : SX10) (v : SX11) (t : Nat → Nat) : zwAt q0 q1 u v t 76 := ⟨⟨bl_cell (zwA q0 q1 u v t) (zwC u v) zw0 76, rfl, fun _ _ h => h⟩, rfl⟩
theorem zw_77 (q0 q1 : Nat) (u : SX10) (v : SX11) (t : Nat → Nat) : zwAt q0 q1 u v t 77 := ⟨⟨bl_cell (zwA q0 q1 u v t) (zwC u v) zw0 77, rfl, fun _ _ h => h⟩, rfl⟩
theorem zw_78 (q0 q1 : Nat) (u : SX10) (v : SX11) (t : Nat → Nat) : zwAt q0 q1 u v t 78 := ⟨⟨bl_cell (zwA q0 q1 u v t) (zwC u v) zw0 78, rfl, fun _ _ h => h⟩, rfl⟩
theorem zw_79 (q0 q1 : Nat) (u : SX10) (v : SX11) (t : Nat → Nat) : zwAt q0 q1 u v t 79 := ⟨⟨bl_cell (zwA q0 q1 u v t) (zwC u v) zw0 79, rfl, fun _ _ h => h⟩, rfl⟩
theorem zw_80 (q0 q1 : Nat) (u : SX10) (v : SX11) (t : Nat → Nat) : zwAt q0 q1 u v t 80 := ⟨⟨bl_cell (zwA q0 q1 u v t) (zwC u v) zw0 80, rfl, fun _ _ h => h⟩, rfl⟩
theorem zw_81 (q0 q1 : Nat) (u : SX10) (v : SX11) (t : Nat → Nat) : zwAt q0 q1 u v t 81 := ⟨⟨bl_cell (zwA q0 q1 u v t) (zwC u v) zw0 81, rfl, fun _ _ h => h⟩, rfl⟩
theorem zw_82 (q0 q1 : Nat) (u : SX10) (v : SX11) (t : Nat → Nat) : zwAt q0 q1 u v t 82 := ⟨⟨bl_cell (zwA q0 q1 u v t) (zwC u v) zw0 82, rfl, fun _ _ h => h⟩, rfl⟩
theorem zw_83 (q0 q1 : Nat) (u : SX10) (v : SX11) (t : Nat → Nat) : zwAt q0 q1 u v t 83 := ⟨⟨bl_cell (zwA q0 q1 u v t) (zwC u v) zw0 83, rfl, fun _ _ h => h⟩, rfl⟩
theorem zw_84 (q0 q1 : Nat) (u : SX10) (v : SX11) (t : Nat → Nat) : zwAt q0 q1 u v t 84 := ⟨⟨bl_cell (zwA q0 q1 u v t) (zwC u v) zw0 84, rfl, fun _ _ h => h⟩, rfl⟩
theorem zw_85 (q0 q1 : Nat) (u : SX10) (v : SX11) (t : Nat → Nat) : zwAt q0 q1 u v t 85 := ⟨⟨bl_cell (zwA q0 q1 u v t) (zwC u v) zw0 85, rfl, fun _ _ h => h⟩, rfl⟩
theorem zw_86 (q0 q1 : Nat) (u : SX10) (v : SX11) (t : Nat → Nat) : zwAt q0 q1 u v t 86 := ⟨⟨bl_cell (zwA q0 q1 u v t) (zwC u v) zw0 86, rfl, fun _ _ h => h⟩, rfl⟩
theorem zw_87 (q0 q1 : Nat) (u : SX10) (v : SX11) (t : Nat → Nat) : zwAt q0 q1 u v t 87 := ⟨⟨bl_cell (zwA q0 q1 u v t) (zwC u v) zw0 87, rfl, fun _ _ h => h⟩, rfl⟩
theorem zw_88 (q0 q1 : Nat) (u : SX10) (v : SX11) (t : Nat → Nat) : zwAt q0 q1 u v t 88 := ⟨⟨bl_cell (zwA q0 q1 u v t) (zwC u v) zw0 88, rfl, fun _ _ h => h⟩, rfl⟩
theorem zw_89 (q0 q1 : Nat) (u : SX10) (v : SX11) (t : Nat → Nat) : zwAt q0 q1 u v t 89 := ⟨⟨bl_cell (zwA q0 q1 u v t) (zwC u v) zw0 89, rfl, fun _ _ h => h⟩, rfl⟩
theorem zw_90 (q0 q1 : Nat) (u : SX10) (v : SX11) (t : Nat → Nat) : zwAt q0 q1 u v t 90 := ⟨⟨bl_cell (zwA q0 q1 u v t) (zwC u v) zw0 90, rfl, fun _ _ h => h⟩, rfl⟩
theorem zw_91 (q0 q1 : Nat) (u : SX10) (v : SX11) (t : Nat → Nat) : zwAt q0 q1 u v t 91 := ⟨⟨bl_cell (zwA q0 q1 u v t) (zwC u v) zw0 91, rfl, fun _ _ h => h⟩, rfl⟩
theorem zw_92 (q0 q1 : Nat) (u : SX10) (v : SX11) (t : Nat → Nat) : zwAt q0 q1 u v t 92 := ⟨⟨bl_cell (zwA q0 q1 u v t) (zwC u v) zw0 92, rfl, fun _ _ h => h⟩, rfl⟩
theorem zw_93 (q0 q1 : Nat) (u : SX10) (v : SX11) (t : Nat → Nat) : zwAt q0 q1 u v t 93 := ⟨⟨bl_cell (zwA q0 q1 u v t) (zwC u v) zw0 93, rfl, fun _ _ h => h⟩, rfl⟩
theorem zw_94 (q0 q1 : Nat) (u : SX10) (v : SX11) (t : Nat → Nat) : zwAt q0 q1 u v t 94 := ⟨⟨bl_cell (zwA q0 q1 u v t) (zwC u v) zw0 94, rfl, fun _ _ h => h⟩, rfl⟩
theorem zw_95 (q0 q1 : Nat) (u : SX10) (v : SX11) (t : Nat → Nat) : zwAt q0 q1 u v t 95 := ⟨⟨bl_cell (zwA q0 q1 u v t) (zwC u v) zw0 95, rfl, fun _ _ h => h⟩, rfl⟩
theorem zw_96 (q0 q1 : Nat) (u : SX10) (v : SX11) (t : Nat → Nat) : zwAt q0 q1 u v t 96 := ⟨⟨bl_cell (zwA q0 q1 u v t) (zwC u v) zw0 96, rfl, fun _ _ h => h⟩, rfl⟩
theorem zw_97 (q0 q1 : Nat) (u : SX10) (v : SX11) (t : Nat → Nat) : zwAt q0 q1 u v t 97 := ⟨⟨bl_cell (zwA q0 q1 u v t) (zwC u v) zw0 97, rfl, fun _ _ h => h⟩, rfl⟩
theorem zw_98 (q0 q1 : Nat) (u : SX10) (v : SX11) (t : Nat → Nat) : zwAt q0 q1 u v t 98 := ⟨⟨bl_cell (zwA q0 q1 u v t) (zwC u v) zw0 98, rfl, fun _ _ h => h⟩, rfl⟩
theorem zw_99 (q0 q1 : Nat) (u : SX10) (v : SX11) (t : Nat → Nat) : zwAt q0 q1 u v t 99 := ⟨⟨bl_cell (zwA q0 q1 u v t) (zwC u v) zw0 99, rfl, fun _ _ h => h⟩, rfl⟩
theorem zw_100 (q0 q1 : Nat) (u : SX10) (v : SX11) (t : Nat → Nat) : zwAt q0 q1 u v t 100 := ⟨⟨bl_cell (zwA q0 q1 u v t) (zwC u v) zw0 100, rfl, fun _ _ h => h⟩, rfl⟩
theorem zw_101 (q0 q1 : Nat) (u : SX10) (v : SX11) (t : Nat → Nat) : zwAt q0 q1 u v t 101 := ⟨⟨bl_cell (zwA q0 q1 u v t) (zwC u v) zw0 101, rfl, fun _ _ h => h⟩, rfl⟩
theorem zw_102 (q0 q1 : Nat) (u : SX10) (v : SX11) (t : Nat → Nat) : zwAt q0 q1 u v t 102 := ⟨⟨bl_cell (zwA q0 q1 u v t) (zwC u v) zw0 102, rfl, fun _ _ h => h⟩, rfl⟩
theorem zw_103 (q0 q1 : Nat) (u : SX10) (v : SX11) (t : Nat → Nat) : zwAt q0 q1 u v t 103 := ⟨⟨bl_cell (zwA q0 q1 u v t) (zwC u v) zw0 103, rfl, fun _ _ h => h⟩, rfl⟩
theorem zw_104 (q0 q1 : Nat) (u : SX10) (v : SX11) (t : Nat → Nat) : zwAt q0 q1 u v t 104 := ⟨⟨bl_cell (zwA q0 q1 u v t) (zwC u v) zw0 104, rfl, fun _ _ h => h⟩, rfl⟩
theorem zw_105 (q0 q1 : Nat) (u : SX10) (v : SX11) (t : Nat → Nat) : zwAt q0 q1 u v t 105 := ⟨⟨bl_cell (zwA q0 q1 u v t) (zwC u v) zw0 105, rfl, fun _ _ h => h⟩, rfl⟩
theorem zw_106 (q0 q1 : Nat) (u : SX10) (v : SX11) (t : Nat → Nat) : zwAt q0 q1 u v t 106 := ⟨⟨bl_cell (zwA q0 q1 u v t) (zwC u v) zw0 106, rfl, fun _ _ h => h⟩, rfl⟩
theorem zw_107 (q0 q1 : Nat) (u : SX10) (v : SX11) (t : Nat → Nat) : zwAt q0 q1 u v t 107 := ⟨⟨bl_cell (zwA q0 q1 u v t) (zwC u v) zw0 107, rfl, fun _ _ h => h⟩, rfl⟩
theorem zw_108 (q0 q1 : Nat) (u : SX10) (v : SX11) (t : Nat → Nat) : zwAt q0 q1 u v t 108 := ⟨⟨bl_cell (zwA q0 q1 u v t) (zwC u v) zw0 108, rfl, fun _ _ h => h⟩, rfl⟩
theorem zw_109 (q0 q1 : Nat) (u : SX10) (v : SX11) (t : Nat → Nat) : zwAt q0 q1 u v t 109 := ⟨⟨bl_cell (zwA q0 q1 u v t) (zwC u v) zw0 109, rfl, fun _ _ h => h⟩, rfl⟩
theorem zw_110 (q0 q1 : Nat) (u : SX10) (v : SX11) (t : Nat → Nat) : zwAt q0 q1 u v t 110 := ⟨⟨bl_cell (zwA q0 q1 u v t) (zwC u v) zw0 110, rfl, fun _ _ h => h⟩, rfl⟩
theorem zw_111 (q0 q1 : Nat) (u : SX10) (v : SX11) (t : Nat → Nat) : zwAt q0 q1 u v t 111 := ⟨⟨bl_cell (zwA q0 q1 u v t) (zwC u v) zw0 111, rfl, fun _ _ h => h⟩, rfl⟩
theorem zw_112 (q0 q1 : Nat) (u : SX10) (v : SX11) (t : Nat → Nat) : zwAt q0 q1 u v t 112 := ⟨⟨bl_cell (zwA q0 q1 u v t) (zwC u v) zw0 112, rfl, fun _ _ h => h⟩, rfl⟩
theorem zw_113 (q0 q1 : Nat) (u : SX10) (v : SX11) (t : Nat → Nat) : zwAt q0 q1 u v t 113 := ⟨⟨bl_cell (zwA q0 q1 u v t) (zwC u v) zw0 113, rfl, fun _ _ h => h⟩, rfl⟩
theorem zw_114 (q0 q1 : Nat) (u : SX10) (v : SX11) (t : Nat → Nat) : zwAt q0 q1 u v t 114 := ⟨⟨bl_cell (zwA q0 q1 u v t) (zwC u v) zw0 114, rfl, fun _ _ h => h⟩, rfl⟩
theorem zw_115 (q0 q1 : Nat) (u : SX10) (v : SX11) (t : Nat → Nat) : zwAt q0 q1 u v t 115 := ⟨⟨bl_cell (zwA q0 q1 u v t) (zwC u v) zw0 115, rfl, fun _ _ h => h⟩, rfl⟩
theorem zw_116 (q0 q1 : Nat) (u : SX10) (v : SX11) (t : Nat → Nat) : zwAt q0 q1 u v t 116 := ⟨⟨bl_cell (zwA q0 q1 u v t) (zwC u v) zw0 116, rfl, fun _ _ h => h⟩, rfl⟩
theorem zw_117 (q0 q1 : Nat) (u : SX10) (v : SX11) (t : Nat → Nat) : zwAt q0 q1 u v t 117 := ⟨⟨bl_cell (zwA q0 q1 u v t) (zwC u v) zw0 117, rfl, fun _ _ h => h⟩, rfl⟩
theorem zw_118 (q0 q1 : Nat) (u : SX10) (v : SX11) (t : Nat → Nat) : zwAt q0 q1 u v t 118 := ⟨⟨bl_cell (zwA q0 q1 u v t) (zwC u v) zw0 118, rfl, fun _ _ h => h⟩, rfl⟩
theorem zw_119 (q0 q1 : Nat) (u : SX10) (v : SX11) (t : Nat → Nat) : zwAt q0 q1 u v t 119 := ⟨⟨bl_cell (zwA q0 q1 u v t) (zwC u v) zw0 119, rfl, fun _ _ h => h⟩, rfl⟩
theorem zw_120 (q0 q1 : Nat) (u : SX10) (v : SX11) (t : Nat → Nat) : zwAt q0 q1 u v t 120 := ⟨⟨bl_cell (zwA q0 q1 u v t) (zwC u v) zw0 120, rfl, fun _ _ h => h⟩, rfl⟩
theorem zw_121 (q0 q1 : Nat) (u : SX10) (v : SX11) (t : Nat → Nat) : zwAt q0 q1 u v t 121 := ⟨⟨bl_cell (zwA q0 q1 u v t) (zwC u v) zw0 121, rfl, fun _ _ h => h⟩, rfl⟩
theorem zw_122 (q0 q1 : Nat) (u : SX10) (v : SX11) (t : Nat → Nat) : zwAt q0 q1 u v t 122 := ⟨⟨bl_cell (zwA q0 q1 u v t) (zwC u v) zw0 122, rfl, fun _ _ h => h⟩, rfl⟩
theorem zw_123 (q0 q1 : Nat) (u : SX10) (v : SX11) (t : Nat → Nat) : zwAt q0 q1 u v t 123 := ⟨⟨bl_cell (zwA q0 q1 u v t) (zwC u v) zw0 123, rfl, fun _ _ h => h⟩, rfl⟩
theorem zw_124 (q0 q1 : Nat) (u : SX10) (v : SX11) (t : Nat → Nat) : zwAt q0 q1 u v t 124 := ⟨⟨bl_cell (zwA q0 q1 u v t) (zwC u v) zw0 124, rfl, fun _ _ h => h⟩, rfl⟩
theorem zw_125 (q0 q1 : Nat) (u : SX10) (v : SX11) (t : Nat → Nat) : zwAt q0 q1 u v t 125 := ⟨⟨bl_cell (zwA q0 q1 u v t) (zwC u v) zw0 125, rfl, fun _ _ h => h⟩, rfl⟩
theorem zw_126 (q0 q1 : Nat) (u : SX10) (v : SX11) (t : Nat → Nat) : zwAt q0 q1 u v t 126 := ⟨⟨bl_cell (zwA q0 q1 u v t) (zwC u v) zw0 126, rfl, fun _ _ h => h⟩, rfl⟩
theorem zw_127 (q0 q1 : Nat) (u : SX10) (v : SX11) (t : Nat → Nat) : zwAt q0 q1 u v t 127 := ⟨⟨bl_cell (zwA q0 q1 u v t) (zwC u v) zw0 127, rfl, fun _ _ h => h⟩, rfl⟩
theorem zw_128 (q0 q1 : Nat) (u : SX10) (v : SX11) (t : Nat → Nat) : zwAt q0 q1 u v t 128 := ⟨⟨bl_cell (zwA q0 q1 u v t) (zwC u v) zw0 128, rfl, fun _ _ h => h⟩, rfl⟩
theorem zw_129 (q0 q1 : Nat) (u : SX10) (v : SX11) (t : Nat → Nat) : zwAt q0 q1 u v t 129 := ⟨⟨bl_cell (zwA q0 q1 u v t) (zwC u v) zw0 129, rfl, fun _ _ h => h⟩, rfl⟩
theorem zw_130 (q0 q1 : Nat) (u : SX10) (v : SX11) (t : Nat → Nat) : zwAt q0 q1 u v t 130 := ⟨⟨bl_cell (zwA q0 q1 u v t) (zwC u v) zw0 130, rfl, fun _ _ h => h⟩, rfl⟩
theorem zw_131 (q0 q1 : Nat) (u : SX10) (v : SX11) (t : Nat → Nat) : zwAt q0 q1 u v t 131 := ⟨⟨bl_cell (zwA q0 q1 u v t) (zwC u v) zw0 131, rfl, fun _ _ h => h⟩, rfl⟩
theorem zw_132 (q0 q1 : Nat) (u : SX10) (v : SX11) (t : Nat → Nat) : zwAt q0 q1 u v t 132 := ⟨⟨bl_cell (zwA q0 q1 u v t) (zwC u v) zw0 132, rfl, fun _ _ h => h⟩, rfl⟩
theorem zw_133 (q0 q1 : Nat) (u : SX10) (v : SX11) (t : Nat → Nat) : zwAt q0 q1 u v t 133 := ⟨⟨bl_cell (zwA q0 q1 u v t) (zwC u v) zw0 133, rfl, fun _ _ h => h⟩, rfl⟩
theorem zw_134 (q0 q1 : Nat) (u : SX10) (v : SX11) (t : Nat → Nat) : zwAt q0 q1 u v t 134 := ⟨⟨bl_cell (zwA q0 q1 u v t) (zwC u v) zw0 134, rfl, fun _ _ h => h⟩, rfl⟩
theorem zw_135 (q0 q1 : Nat) (u : SX10) (v : SX11) (t : Nat → Nat) : zwAt q0 q1 u v t 135 := ⟨⟨bl_cell (zwA q0 q1 u v t) (zwC u v) zw0 135, rfl, fun _ _ h => h⟩, rfl⟩
theorem zw_136 (q0 q1 : Nat) (u : SX10) (v : SX11) (t : Nat → Nat) : zwAt q0 q1 u v t 136 := ⟨⟨bl_cell (zwA q0 q1 u v t) (zwC u v) zw0 136, rfl, fun _ _ h => h⟩, rfl⟩
theorem zw_137 (q0 q1 : Nat) (u : SX10) (v : SX11) (t : Nat → Nat) : zwAt q0 q1 u v t 137 := ⟨⟨bl_cell (zwA q0 q1 u v t) (zwC u v) zw0 137, rfl, fun _ _ h => h⟩, rfl⟩
theorem zw_138 (q0 q1 : Nat) (u : SX10) (v : SX11) (t : Nat → Nat) : zwAt q0 q1 u v t 138 := ⟨⟨bl_cell (zwA q0 q1 u v t) (zwC u v) zw0 138, rfl, fun _ _ h => h⟩, rfl⟩
theorem zw_139 (q0 q1 : Nat) (u : SX10) (v : SX11) (t : Nat → Nat) : zwAt q0 q1 u v t 139 := ⟨⟨bl_cell (zwA q0 q1 u v t) (zwC u v) zw0 139, rfl, fun _ _ h => h⟩, rfl⟩
theorem zw_140 (q0 q1 : Nat) (u : SX10) (v : SX11) (t : Nat → Nat) : zwAt q0 q1 u v t 140 := ⟨⟨bl_cell (zwA q0 q1 u v t) (zwC u v) zw0 140, rfl, fun _ _ h => h⟩, rfl⟩
theorem zw_141 (q0 q1 : Nat) (u : SX10) (v : SX11) (t : Nat → Nat) : zwAt q0 q1 u v t 141 := ⟨⟨bl_cell (zwA q0 q1 u v t) (zwC u v) zw0 141, rfl, fun _ _ h => h⟩, rfl⟩
theorem zw_142 (q0 q1 : Nat) (u : SX10) (v : SX11) (t : Nat → Nat) : zwAt q0 q1 u v t 142 := ⟨⟨bl_cell (zwA q0 q1 u v t) (zwC u v) zw0 142, rfl, fun _ _ h => h⟩, rfl⟩
theorem zw_143 (q0 q1 : Nat) (u : SX10) (v : SX11) (t : Nat → Nat) : zwAt q0 q1 u v t 143 := ⟨⟨bl_cell (zwA q0 q1 u v t) (zwC u v) zw0 143, rfl, fun _ _ h => h⟩, rfl⟩
theorem zw_144 (q0 q1 : Nat) (u : SX10) (v : SX11) (t : Nat → Nat) : zwAt q0 q1 u v t 144 := ⟨⟨bl_cell (zwA q0 q1 u v t) (zwC u v) zw0 144, rfl, fun _ _ h => h⟩, rfl⟩
theorem zw_145 (q0 q1 : Nat) (u : SX10) (v : SX11) (t : Nat → Nat) : zwAt q0 q1 u v t 145 := ⟨⟨bl_cell (zwA q0 q1 u v t) (zwC u v) zw0 145, rfl, fun _ _ h => h⟩, rfl⟩
theorem zw_146 (q0 q1 : Nat) (u : SX10) (v : SX11) (t : Nat → Nat) : zwAt q0 q1 u v t 146 := ⟨⟨bl_cell (zwA q0 q1 u v t) (zwC u v) zw0 146, rfl, fun _ _ h => h⟩, rfl⟩
theorem zw_all (q0 q1 : Nat) (u : SX10) (v : SX11) (t : Nat → Nat) : ∀ k, k < 147 → zwAt q0 q1 u v t k := by
  have r0 : ∀ k, k < 0 → zwAt q0 q1 u v t k := zw_z
  have r1 : ∀ k, k < 1 → zwAt q0 q1 u v t k := zw_lt (n := 0) (zw_0 q0 q1 u v t) r0
  have r2 : ∀ k, k < 2 → zwAt q0 q1 u v t k := zw_lt (n := 1) (zw_1 q0 q1 u v t) r1
  have r3 : ∀ k, k < 3 → zwAt q0 q1 u v t k := zw_lt (n := 2) (zw_2 q0 q1 u v t) r2
  have r4 : ∀ k, k < 4 → zwAt q0 q1 u v t k := zw_lt (n := 3) (zw_3 q0 q1 u v t) r3
  have r5 : ∀ k, k < 5 → zwAt q0 q1 u v t k := zw_lt (n := 4) (zw_4 q0 q1 u v t) r4
  have r6 : ∀ k, k < 6 → zwAt q0 q1 u v t k := zw_lt (n := 5) (zw_5 q0 q1 u v t) r5
  have r7 : ∀ k, k < 7 → zwAt q0 q1 u v t k := zw_lt (n := 6) (zw_6 q0 q1 u v t) r6
  have r8 : ∀ k, k < 8 → zwAt q0 q1 u v t k := zw_lt (n := 7) (zw_7 q0 q1 u v t) r7
  have r9 : ∀ k, k < 9 → zwAt q0 q1 u v t k := zw_lt (n := 8) (zw_8 q0 q1 u v t) r8
  have r10 : ∀ k, k < 10 → zwAt q0 q1 u v t k := zw_lt (n := 9) (zw_9 q0 q1 u v t) r9
  have r11 : ∀ k, k < 11 → zwAt q0 q1 u v t k := zw_lt (n := 10) (zw_10 q0 q1 u v t) r10
  have r12 : ∀ k, k < 12 → zwAt q0 q1 u v t k := zw_lt (n := 11) (zw_11 q0 q1 u v t) r11
  have r13 : ∀ k, k < 13 → zwAt q0 q1 u v t k := zw_lt (n := 12) (zw_12 q0 q1 u v t) r12
  have r14 : ∀ k, k < 14 → zwAt q0 q1 u v t k := zw_lt (n := 13) (zw_13 q0 q1 u v t) r13
  have r15 : ∀ k, k < 15 → zwAt q0 q1 u v t k := zw_lt (n := 14) (zw_14 q0 q1 u v t) r14
  have r16 : ∀ k, k < 16 → zwAt q0 q1 u v t k := zw_lt (n := 15) (zw_15 q0 q1 u v t) r15
  have r17 : ∀ k, k < 17 → zwAt q0 q1 u v t k := zw_lt (n := 16) (zw_16 q0 q1 u v t) r16
  have r18 : ∀ k, k < 18 → zwAt q0 q1 u v t k := zw_lt (n := 17) (zw_17 q0 q1 u v t) r17
  have r19 : ∀ k, k < 19 → zwAt q0 q1 u v t k := zw_lt (n := 18) (zw_18 q0 q1 u v t) r18
  have r20 : ∀ k, k < 20 → zwAt q0 q1 u v t k := zw_lt (n := 19) (zw_19 q0 q1 u v t) r19
  have r21 : ∀ k, k < 21 → zwAt q0 q1 u v t k := zw_lt (n := 20) (zw_20 q0 q1 u v t) r20
  have r22 : ∀ k, k < 22 → zwAt q0 q1 u v t k := zw_lt (n := 21) (zw_21 q0 q1 u v t) r21
  have r23 : ∀ k, k < 23 → zwAt q0 q1 u v t k := zw_lt (n := 22) (zw_22 q0 q1 u v t) r22
  have r24 : ∀ k, k < 24 → zwAt q0 q1 u v t k := zw_lt (n := 23) (zw_23 q0 q1 u v t) r23
  have r25 : ∀ k, k < 25 → zwAt q0 q1 u v t k := zw_lt (n := 24) (zw_24 q0 q1 u v t) r24
  have r26 : ∀ k, k < 26 → zwAt q0 q1 u v t k := zw_lt (n := 25) (zw_25 q0 q1 u v t) r25
  have r27 : ∀ k, k < 27 → zwAt q0 q1 u v t k := zw_lt (n := 26) (zw_26 q0 q1 u v t) r26
  have r28 : ∀ k, k < 28 → zwAt q0 q1 u v t k := zw_lt (n := 27) (zw_27 q0 q1 u v t) r27
  have r29 : ∀ k, k < 29 → zwAt q0 q1 u v t k := zw_lt (n := 28) (zw_28 q0 q1 u v t) r28
  have r30 : ∀ k, k < 30 → zwAt q0 q1 u v t k := zw_lt (n := 29) (zw_29 q0 q1 u v t) r29
  have r31 : ∀ k, k < 31 → zwAt q0 q1 u v t k := zw_lt (n := 30) (zw_30 q0 q1 u v t) r30
  have r32 : ∀ k, k < 32 → zwAt q0 q1 u v t k := zw_lt (n := 31) (zw_31 q0 q1 u v t) r31
  have r33 : ∀ k, k < 33 → zwAt q0 q1 u v t k := zw_lt (n := 32) (zw_32 q0 q1 u v t) r32
  have r34 : ∀ k, k < 34 → zwAt q0 q1 u v t k := zw_lt (n := 33) (zw_33 q0 q1 u v t) r33
  have r35 : ∀ k, k < 35 → zwAt q0 q1 u v t k := zw_lt (n := 34) (zw_34 q0 q1 u v t) r34
  have r36 : ∀ k, k < 36 → zwAt q0 q1 u v t k := zw_lt (n := 35) (zw_35 q0 q1 u v t) r35
  have r37 : ∀ k, k < 37 → zwAt q0 q1 u v t k := zw_lt (n := 36) (zw_36 q0 q1 u v t) r36
  have r38 : ∀ k, k < 38 → zwAt q0 q1 u v t k := zw_lt (n := 37) (zw_37 q0 q1 u v t) r37
  have r39 : ∀ k, k < 39 → zwAt q0 q1 u v t k := zw_lt (n := 38) (zw_38 q0 q1 u v t) r38
  have r40 : ∀ k, k < 40 → zwAt q0 q1 u v t k := zw_lt (n := 39) (zw_39 q0 q1 u v t) r39
  have r41 : ∀ k, k < 41 → zwAt q0 q1 u v t k := zw_lt (n := 40) (zw_40 q0 q1 u v t) r40
  have r42 : ∀ k, k < 42 → zwAt q0 q1 u v t k := zw_lt (n := 41) (zw_41 q0 q1 u v t) r41
  have r43 : ∀ k, k < 43 → zwAt q0 q1 u v t k := zw_lt (n := 42) (zw_42 q0 q1 u v t) r42
  have r44 : ∀ k, k < 44 → zwAt q0 q1 u v t k := zw_lt (n := 43) (zw_43 q0 q1 u v t) r43
  have r45 : ∀ k, k < 45 → zwAt q0 q1 u v t k := zw_lt (n := 44) (zw_44 q0 q1 u v t) r44
  have r46 : ∀ k, k < 46 → zwAt q0 q1 u v t k := zw_lt (n := 45) (zw_45 q0 q1 u v t) r45
  have r47 : ∀ k, k < 47 → zwAt q0 q1 u v t k := zw_lt (n := 46) (zw_46 q0 q1 u v t) r46
  have r48 : ∀ k, k < 48 → zwAt q0 q1 u v t k := zw_lt (n := 47) (zw_47 q0 q1 u v t) r47
  have r49 : ∀ k, k < 49 → zwAt q0 q1 u v t k := zw_lt (n := 48) (zw_48 q0 q1 u v t) r48
  have r50 : ∀ k, k < 50 → zwAt q0 q1 u v t k := zw_lt (n := 49) (zw_49 q0 q1 u v t) r49
  have r51 : ∀ k, k < 51 → zwAt q0 q1 u v t k := zw_lt (n := 50) (zw_50 q0 q1 u v t) r50
  have r52 : ∀ k, k < 52 → zwAt q0 q1 u v t k := zw_lt (n := 51) (zw_51 q0 q1 u v t) r51
  have r53 : ∀ k, k < 53 → zwAt q0 q1 u v t k := zw_lt (n := 52) (zw_52 q0 q1 u v t) r52
  have r54 : ∀ k, k < 54 → zwAt q0 q1 u v t k := zw_lt (n := 53) (zw_53 q0 q1 u v t) r53
  have r55 : ∀ k, k < 55 → zwAt q0 q1 u v t k := zw_lt (n := 54) (zw_54 q0 q1 u v t) r54
  have r56 : ∀ k, k < 56 → zwAt q0 q1 u v t k := zw_lt (n := 55) (zw_55 q0 q1 u v t) r55
  have r57 : ∀ k, k < 57 → zwAt q0 q1 u v t k := zw_lt (n := 56) (zw_56 q0 q1 u v t) r56
  have r58 : ∀ k, k < 58 → zwAt q0 q1 u v t k := zw_lt (n := 57) (zw_57 q0 q1 u v t) r57
  have r59 : ∀ k, k < 59 → zwAt q0 q1 u v t k := zw_lt (n := 58) (zw_58 q0 q1 u v t) r58
  have r60 : ∀ k, k < 60 → zwAt q0 q1 u v t k := zw_lt (n := 59) (zw_59 q0 q1 u v t) r59
  have r61 : ∀ k, k < 61 → zwAt q0 q1 u v t k := zw_lt (n := 60) (zw_60 q0 q1 u v t) r60
  have r62 : ∀ k, k < 62 → zwAt q0 q1 u v t k := zw_lt (n := 61) (zw_61 q0 q1 u v t) r61
  have r63 : ∀ k, k < 63 → zwAt q0 q1 u v t k := zw_lt (n := 62) (zw_62 q0 q1 u v t) r62
  have r64 : ∀ k, k < 64 → zwAt q0 q1 u v t k := zw_lt (n := 63) (zw_63 q0 q1 u v t) r63
  have r65 : ∀ k, k < 65 → zwAt q0 q1 u v t k := zw_lt (n := 64) (zw_64 q0 q1 u v t) r64
  have r66 : ∀ k, k < 66 → zwAt q0 q1 u v t k := zw_lt (n := 65) (zw_65 q0 q1 u v t) r65
  have r67 : ∀ k, k < 67 → zwAt q0 q1 u v t k := zw_lt (n := 66) (zw_66 q0 q1 u v t) r66
  have r68 : ∀ k, k < 68 → zwAt q0 q1 u v t k := zw_lt (n := 67) (zw_67 q0 q1 u v t) r67
  have r69 : ∀ k, k < 69 → zwAt q0 q1 u v t k := zw_lt (n := 68) (zw_68 q0 q1 u v t) r68
  have r70 : ∀ k, k < 70 → zwAt q0 q1 u v t k := zw_lt (n := 69) (zw_69 q0 q1 u v t) r69
  have r71 : ∀ k, k < 71 → zwAt q0 q1 u v t k := zw_lt (n := 70) (zw_70 q0 q1 u v t) r70
  have r72 : ∀ k, k < 72 → zwAt q0 q1 u v t k := zw_lt (n := 71) (zw_71 q0 q1 u v t) r71
  have r73 : ∀ k, k < 73 → zwAt q0 q1 u v t k := zw_lt (n := 72) (zw_72 q0 q1 u v t) r72
  have r74 : ∀ k, k < 74 → zwAt q0 q1 u v t k := zw_lt (n := 73) (zw_73 q0 q1 u v t) r73
  have r75 : ∀ k, k < 75 → zwAt q0 q1 u v t k := zw_lt (n := 74) (zw_74 q0 q1 u v t) r74
  have r76 : ∀ k, k < 76 → zwAt q0 q1 u v t k := zw_lt (n := 75) (zw_75 q0 q1 u v t) r75
  have r77 : ∀ k, k < 77 → zwAt q0 q1 u v t k := zw_lt (n := 76) (zw_76 q0 q1 u v t) r76
  have r78 : ∀ k, k < 78 → zwAt q0 q1 u v t k := zw_lt (n := 77) (zw_77 q0 q1 u v t) r77
  have r79 : ∀ k, k < 79 → zwAt q0 q1 u v t k := zw_lt (n := 78) (zw_78 q0 q1 u v t) r78
  have r80 : ∀ k, k < 80 → zwAt q0 q1 u v t k := zw_lt (n := 79) (zw_79 q0 q1 u v t) r79
  have r81 : ∀ k, k < 81 → zwAt q0 q1 u v t k := zw_lt (n := 80) (zw_80 q0 q1 u v t) r80
  have r82 : ∀ k, k < 82 → zwAt q0 q1 u v t k := zw_lt (n := 81) (zw_81 q0 q1 u v t) r81
  have r83 : ∀ k, k < 83 → zwAt q0 q1 u v t k := zw_lt (n := 82) (zw_82 q0 q1 u v t) r82
  have r84 : ∀ k, k < 84 → zwAt q0 q1 u v t k := zw_lt (n := 83) (zw_83 q0 q1 u v t) r83
  have r85 : ∀ k, k < 85 → zwAt q0 q1 u v t k := zw_lt (n := 84) (zw_84 q0 q1 u v t) r84
  have r86 : ∀ k, k < 86 → zwAt q0 q1 u v t k := zw_lt (n := 85) (zw_85 q0 q1 u v t) r85
  have r87 : ∀ k, k < 87 → zwAt q0 q1 u v t k := zw_lt (n := 86) (zw_86 q0 q1 u v t) r86
  have r88 : ∀ k, k < 88 → zwAt q0 q1 u v t k := zw_lt (n := 87) (zw_87 q0 q1 u v t) r87
  have r89 : ∀ k, k < 89 → zwAt q0 q1 u v t k := zw_lt (n := 88) (zw_88 q0 q1 u v t) r88
  have r90 : ∀ k, k < 90 → zwAt q0 q1 u v t k := zw_lt (n := 89) (zw_89 q0 q1 u v t) r89
  have r91 : ∀ k, k < 91 → zwAt q0 q1 u v t k := zw_lt (n := 90) (zw_90 q0 q1 u v t) r90
  have r92 : ∀ k, k < 92 → zwAt q0 q1 u v t k := zw_lt (n := 91) (zw_91 q0 q1 u v t) r91
  have r93 : ∀ k, k < 93 → zwAt q0 q1 u v t k := zw_lt (n := 92) (zw_92 q0 q1 u v t) r92
  have r94 : ∀ k, k < 94 → zwAt q0 q1 u v t k := zw_lt (n := 93) (zw_93 q0 q1 u v t) r93
  have r95 : ∀ k, k < 95 → zwAt q0 q1 u v t k := zw_lt (n := 94) (zw_94 q0 q1 u v t) r94
  have r96 : ∀ k, k < 96 → zwAt q0 q1 u v t k := zw_lt (n := 95) (zw_95 q0 q1 u v t) r95
  have r97 : ∀ k, k < 97 → zwAt q0 q1 u v t k := zw_lt (n := 96) (zw_96 q0 q1 u v t) r96
  have r98 : ∀ k, k < 98 → zwAt q0 q1 u v t k := zw_lt (n := 97) (zw_97 q0 q1 u v t) r97
  have r99 : ∀ k, k < 99 → zwAt q0 q1 u v t k := zw_lt (n := 98) (zw_98 q0 q1 u v t) r98
  have r100 : ∀ k, k < 100 → zwAt q0 q1 u v t k := zw_lt (n := 99) (zw_99 q0 q1 u v t) r99
  have r101 : ∀ k, k < 101 → zwAt q0 q1 u v t k := zw_lt (n := 100) (zw_100 q0 q1 u v t) r100
  have r102 : ∀ k, k < 102 → zwAt q0 q1 u v t k := zw_lt (n := 101) (zw_101 q0 q1 u v t) r101
  have r103 : ∀ k, k < 103 → zwAt q0 q1 u v t k := zw_lt (n := 102) (zw_102 q0 q1 u v t) r102
  have r104 : ∀ k, k < 104 → zwAt q0 q1 u v t k := zw_lt (n := 103) (zw_103 q0 q1 u v t) r103
  have r105 : ∀ k, k < 105 → zwAt q0 q1 u v t k := zw_lt (n := 104) (zw_104 q0 q1 u v t) r104
  have r106 : ∀ k, k < 106 → zwAt q0 q1 u v t k := zw_lt (n := 105) (zw_105 q0 q1 u v t) r105
  have r107 : ∀ k, k < 107 → zwAt q0 q1 u v t k := zw_lt (n := 106) (zw_106 q0 q1 u v t) r106
  have r108 : ∀ k, k < 108 → zwAt q0 q1 u v t k := zw_lt (n := 107) (zw_107 q0 q1 u v t) r107
  have r109 : ∀ k, k < 109 → zwAt q0 q1 u v t k := zw_lt (n := 108) (zw_108 q0 q1 u v t) r108
  have r110 : ∀ k, k < 110 → zwAt q0 q1 u v t k := zw_lt (n := 109) (zw_109 q0 q1 u v t) r109
  have r111 : ∀ k, k < 111 → zwAt q0 q1 u v t k := zw_lt (n := 110) (zw_110 q0 q1 u v t) r110
  have r112 : ∀ k, k < 112 → zwAt q0 q1 u v t k := zw_lt (n := 111) (zw_111 q0 q1 u v t) r111
  have r113 : ∀ k, k < 113 → zwAt q0 q1 u v t k := zw_lt (n := 112) (zw_112 q0 q1 u v t) r112
  have r114 : ∀ k, k < 114 → zwAt q0 q1 u v t k := zw_lt (n := 113) (zw_113 q0 q1 u v t) r113
  have r115 : ∀ k, k < 115 → zwAt q0 q1 u v t k := zw_lt (n := 114) (zw_114 q0 q1 u v t) r114
  have r116 : ∀ k, k < 116 → zwAt q0 q1 u v t k := zw_lt (n := 115) (zw_115 q0 q1 u v t) r115
  have r117 : ∀ k, k < 117 → zwAt q0 q1 u v t k := zw_lt (n := 116) (zw_116 q0 q1 u v t) r116
  have r118 : ∀ k, k < 118 → zwAt q0 q1 u v t k := zw_lt (n := 117) (zw_117 q0 q1 u v t) r117
  have r119 : ∀ k, k < 119 → zwAt q0 q1 u v t k := zw_lt (n := 118) (zw_118 q0 q1 u v t) r118
  have r120 : ∀ k, k < 120 → zwAt q0 q1 u v t k := zw_lt (n := 119) (zw_119 q0 q1 u v t) r119
  have r121 : ∀ k, k < 121 → zwAt q0 q1 u v t k := zw_lt (n := 120) (zw_120 q0 q1 u v t) r120
  have r122 : ∀ k, k < 122 → zwAt q0 q1 u v t k := zw_lt (n := 121) (zw_121 q0 q1 u v t) r121
  have r123 : ∀ k, k < 123 → zwAt q0 q1 u v t k := zw_lt (n := 122) (zw_122 q0 q1 u v t) r122
  have r124 : ∀ k, k < 124 → zwAt q0 q1 u v t k := zw_lt (n := 123) (zw_123 q0 q1 u v t) r123
  have r125 : ∀ k, k < 125 → zwAt q0 q1 u v t k := zw_lt (n := 124) (zw_124 q0 q1 u v t) r124
  have r126 : ∀ k, k < 126 → zwAt q0 q1 u v t k := zw_lt (n := 125) (zw_125 q0 q1 u v t) r125
  have r127 : ∀ k, k < 127 → zwAt q0 q1 u v t k := zw_lt (n := 126) (zw_126 q0 q1 u v t) r126
  have r128 : ∀ k, k < 128 → zwAt q0 q1 u v t k := zw_lt (n := 127) (zw_127 q0 q1 u v t) r127
  have r129 : ∀ k, k < 129 → zwAt q0 q1 u v t k := zw_lt (n := 128) (zw_128 q0 q1 u v t) r128
  have r130 : ∀ k, k < 130 → zwAt q0 q1 u v t k := zw_lt (n := 129) (zw_129 q0 q1 u v t) r129
  have r131 : ∀ k, k < 131 → zwAt q0 q1 u v t k := zw_lt (n := 130) (zw_130 q0 q1 u v t) r130
  have r132 : ∀ k, k < 132 → zwAt q0 q1 u v t k := zw_lt (n := 131) (zw_131 q0 q1 u v t) r131
  have r133 : ∀ k, k < 133 → zwAt q0 q1 u v t k := zw_lt (n := 132) (zw_132 q0 q1 u v t) r132
  have r134 : ∀ k, k < 134 → zwAt q0 q1 u v t k := zw_lt (n := 133) (zw_133 q0 q1 u v t) r133
  have r135 : ∀ k, k < 135 → zwAt q0 q1 u v t k := zw_lt (n := 134) (zw_134 q0 q1 u v t) r134
  have r136 : ∀ k, k < 136 → zwAt q0 q1 u v t k := zw_lt (n := 135) (zw_135 q0 q1 u v t) r135
  have r137 : ∀ k, k < 137 → zwAt q0 q1 u v t k := zw_lt (n := 136) (zw_136 q0 q1 u v t) r136
  have r138 : ∀ k, k < 138 → zwAt q0 q1 u v t k := zw_lt (n := 137) (zw_137 q0 q1 u v t) r137
  have r139 : ∀ k, k < 139 → zwAt q0 q1 u v t k := zw_lt (n := 138) (zw_138 q0 q1 u v t) r138
  have r140 : ∀ k, k < 140 → zwAt q0 q1 u v t k := zw_lt (n := 139) (zw_139 q0 q1 u v t) r139
  have r141 : ∀ k, k < 141 → zwAt q0 q1 u v t k := zw_lt (n := 140) (zw_140 q0 q1 u v t) r140
  have r142 : ∀ k, k < 142 → zwAt q0 q1 u v t k := zw_lt (n := 141) (zw_141 q0 q1 u v t) r141
  have r143 : ∀ k, k < 143 → zwAt q0 q1 u v t k := zw_lt (n := 142) (zw_142 q0 q1 u v t) r142
  have r144 : ∀ k, k < 144 → zwAt q0 q1 u v t k := zw_lt (n := 143) (zw_143 q0 q1 u v t) r143
  have r145 : ∀ k, k < 145 → zwAt q0 q1 u v t k := zw_lt (n := 144) (zw_144 q0 q1 u v t) r144
  have r146 : ∀ k, k < 146 → zwAt q0 q1 u v t k := zw_lt (n := 145) (zw_145 q0 q1 u v t) r145
  have r147 : ∀ k, k < 147 → zwAt q0 q1 u v t k := zw_lt (n := 146) (zw_146 q0 q1 u v t) r146
  exact r147
theorem zw_P {D : va_G} {H : Heap} {q0 q1 : Nat} {u : SX10} {v : SX11} {t : Nat → Nat} (h : va_P D vwCl (gX10 q0 u ++ gX11 q1 v) H) : va_P D vwCl (bl_ws (zwA q0 q1 u v t) (zwC u v) zw0) H := by
  intro k q hq
  by_cases hk : k < bl_N
  · rw [bl_ws_at hk] at hq
    cases hq
    obtain ⟨⟨E, e1, e2⟩, -⟩ := zw_all q0 q1 u v t k hk
    rw [zw_G] at h
    exact e2 D H (h _ _ e1)
  · rw [List.getElem?_eq_none (by simp [bl_ws]; omega)] at hq
    cases hq
theorem zw_inv : ∀ k, k < 147 → zwInvT.getD (zwPosT.getD k 0) 0 = k := by decide +kernel
theorem zw_inj {q0 q1 : Nat} {u : SX10} {v : SX11} {t : Nat → Nat} {A : Nat → Prop} (h : va_D A (gX10 q0 u ++ gX11 q1 v)) : bl_inj (zwA q0 q1 u v t) := by
  intro i j hi hj e
  rw [zw_G] at h
  obtain ⟨⟨E, e1, -⟩, -⟩ := zw_all q0 q1 u v t i hi
  obtain ⟨⟨F, f1, -⟩, -⟩ := zw_all q0 q1 u v t j hj
  have := h.1 _ _ _ _ e1 f1 e
  rw [← zw_inv i hi, ← zw_inv j hj, this]
theorem zw_A {q0 q1 : Nat} {u : SX10} {v : SX11} {t : Nat → Nat} {A : Nat → Prop} (h : va_D A (gX10 q0 u ++ gX11 q1 v)) : ∀ k, k < bl_N → A (zwA q0 q1 u v t k) := by
  intro k hk
  rw [zw_G] at h
  obtain ⟨⟨E, e1, -⟩, -⟩ := zw_all q0 q1 u v t k hk
  exact h.2 _ _ e1
theorem zw_K {D : va_G} {U : State} {u : SX10} {v : SX11} (h : va_K D vwCl (tX10 u ++ tX11 v) U) : va_K D vwCl (bl_tys (zwC u v)) U := by
  refine ⟨h.1, fun k q hq => ?_⟩
  by_cases hk : k < bl_N
  · rw [bl_tys_at hk] at hq
    cases hq
    rw [zw_T] at h
    exact h.2 _ _ (zw_all 0 0 u v (fun _ => 0) k hk).2
  · rw [List.getElem?_eq_none (by simp [bl_tys]; omega)] at hq
    cases hq
theorem zw_Inv : Inv zw0 := by
  refine ⟨0, 0, 0, 0, 0, 0, ?_, ?_, ?_, ?_, ?_, ?_, ?_⟩
  · refine ⟨by omega, by omega, rfl, rfl, rfl, rfl, ?_, rfl, rfl, by decide, Or.inr ⟨rfl, rfl, rfl, rfl, rfl⟩, ⟨999, by omega, by omega, rfl⟩⟩
    intro k hk
    rcases (show k = 0 ∨ k = 1 ∨ k = 2 ∨ k = 3 by omega) with rfl | rfl | rfl | rfl <;> rfl
  · intro b hb; exact absurd hb (Nat.not_lt_zero _)
  · intro b hb; exact absurd hb (Nat.not_lt_zero _)
  · intro p hp
    rcases (show p = 0 ∨ p = 1 ∨ p = 2 ∨ p = 3 by omega) with rfl | rfl | rfl | rfl <;> exact ⟨Or.inl rfl, Or.inl rfl, Or.inl rfl, Or.inl rfl, rfl, rfl, rfl, rfl, fun _ _ => rfl, fun _ _ => rfl⟩
  · exact ⟨by omega, rfl, rfl, fun i hi => absurd hi (Nat.not_lt_zero _), rfl⟩
  · exact ⟨by omega, by omega, by omega, rfl, rfl, rfl, rfl, rfl, rfl, rfl, rfl, rfl, fun i hi => absurd hi (Nat.not_lt_zero _), fun i hi => absurd hi (Nat.not_lt_zero _), fun i hi => absurd hi (Nat.not_lt_zero _)⟩
  · intro i hi
    rcases (show i = 0 ∨ i = 1 by omega) with rfl | rfl <;> exact ⟨rfl, Or.inl rfl⟩
