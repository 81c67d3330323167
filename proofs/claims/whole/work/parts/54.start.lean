/-! the start of the law (wip/gen/mkstart.py) -/
def zS0 : ZS := (fun n => if n = 61 then (fun j => if j = 9 then -1 else 0) else (fun _ => 0), fun _ _ => 0)
def zad (h0 h7 h8 : Nat) (q : Nat → Nat) (v : Nat → (Nat → Nat) × (Nat → Nat)) (u : (Nat → Nat) × (Nat → Nat)) (n : Nat) : Nat := [h0, ((v 0).1 0), (q 0), (q 1), (q 2), (q 3), (q 4), (q 5), ((v 0).1 1), ((v 0).1 2), ((v 0).1 3), ((v 0).1 4), ((v 0).1 5), ((v 0).1 6), ((v 0).2 0), ((v 0).2 1), ((v 0).2 2), ((v 0).2 3), ((v 0).2 4), ((v 0).2 5), ((v 0).2 6), ((v 0).2 7), ((v 0).1 7), ((v 0).1 8), ((v 0).1 9), ((v 0).1 10), ((v 1).1 0), ((v 1).1 1), ((v 1).1 2), ((v 1).1 3), ((v 1).1 4), ((v 1).1 5), ((v 1).1 6), ((v 1).1 7), ((v 1).1 8), ((v 1).1 9), ((v 1).1 10), ((v 2).1 0), ((v 2).1 1), ((v 2).1 2), ((v 2).2 0), ((v 2).2 1), ((v 2).2 2), ((v 2).2 3), ((v 2).2 4), ((v 2).2 5), ((v 2).2 6), ((v 2).2 7), ((v 2).2 8), ((v 4).1 0), ((v 4).2 0), ((v 4).2 1), ((v 4).2 2), ((v 4).2 3), ((v 4).2 4), ((v 4).2 5), ((v 4).2 6), ((v 4).2 7), ((v 4).2 8), ((v 4).2 9), ((v 4).2 10), h7, (u.1 0), (u.1 1), (u.1 2), (u.1 3), (u.1 4), (u.1 5), (u.1 6), (u.1 7), (u.1 8), (u.1 9), (u.1 10), (u.1 11), (u.1 12), (u.1 13), (u.1 14), (u.1 15), (u.1 16), (u.1 17), (u.1 18), (u.1 19), h8].getD n 0
def zpl (n : Nat) : Nat := [0, 2, 1, 21, 33, 46, 47, 60, 3, 4, 5, 6, 7, 8, 9, 10, 11, 12, 13, 14, 15, 16, 17, 18, 19, 20, 22, 23, 24, 25, 26, 27, 28, 29, 30, 31, 32, 34, 35, 36, 37, 38, 39, 40, 41, 42, 43, 44, 45, 48, 49, 50, 51, 52, 53, 54, 55, 56, 57, 58, 59, 61, 62, 63, 64, 65, 66, 67, 68, 69, 70, 71, 72, 73, 74, 75, 76, 77, 78, 79, 80, 81, 82].getD n 0
theorem zpl_inj : ∀ i, i < 83 → ∀ j, j < 83 → zpl i = zpl j → i = j := by decide +kernel
def zall (k : Nat → ClassId) (h0 h7 h8 : Nat) (q : Nat → Nat) (v : Nat → (Nat → Nat) × (Nat → Nat)) (u : (Nat → Nat) × (Nat → Nat)) : va_W := ((zc_6 k h0 q v) ++ (zc_7 k h7 u.1 u.2)) ++ [(h8, .inl (k 3, 1, .inr (.inl (fun _ => 0))))]
def zallF (k : Nat → ClassId) (h0 h7 h8 : Nat) (q : Nat → Nat) (v : Nat → (Nat → Nat) × (Nat → Nat)) (u : (Nat → Nat) × (Nat → Nat)) : va_W := [(h0, .inr (6, [.ref (q 0), .ref ((v 0).1 0), .ref (q 1), .ref (q 2), .ref (q 3), .ref (q 4), .ref (q 5), .int (0 : Int32)])),
  ((q 0), .inr (4, [.ref (((v 0).1 0)), .ref (((v 0).1 7)), .ref (((v 0).1 8)), .ref (((v 0).1 9)), .ref (((v 0).1 10))])),
  (((v 0).1 0), .inr (5, [.int 0, .int 0, .ref (((v 0).1 1)), .ref (((v 0).1 2)), .ref (((v 0).1 3)), .ref (((v 0).1 4)), .ref (((v 0).1 5)), .ref (((v 0).1 6))])), (((v 0).1 1), .inl (k 0, 10, .inl (fun _ => 0))), (((v 0).1 2), .inl (k 0, 10, .inl (fun _ => 0))), (((v 0).1 3), .inl (k 0, 10, .inl (fun _ => 0))), (((v 0).1 4), .inl (k 0, 8, .inl (fun _ => 0))), (((v 0).1 5), .inl (k 0, 8, .inl (fun _ => 0))), (((v 0).1 6), .inl (k 1, 8, zRef (fun j => some (((v 0).2 j))))), (((v 0).2 0), .inl (k 0, 10, .inl (fun _ => 0))), (((v 0).2 1), .inl (k 0, 10, .inl (fun _ => 0))), (((v 0).2 2), .inl (k 0, 10, .inl (fun _ => 0))), (((v 0).2 3), .inl (k 0, 10, .inl (fun _ => 0))), (((v 0).2 4), .inl (k 0, 10, .inl (fun _ => 0))), (((v 0).2 5), .inl (k 0, 10, .inl (fun _ => 0))), (((v 0).2 6), .inl (k 0, 10, .inl (fun _ => 0))), (((v 0).2 7), .inl (k 0, 10, .inl (fun _ => 0))),
  (((v 0).1 7), .inl (k 0, 8, .inl (fun _ => 0))), (((v 0).1 8), .inl (k 0, 8, .inl (fun _ => 0))), (((v 0).1 9), .inl (k 0, 10, .inl (fun _ => 0))), (((v 0).1 10), .inl (k 0, 10, .inl (fun _ => 0))),
  ((q 1), .inr (1, [.int 0, .ref (((v 1).1 0)), .ref (((v 1).1 1)), .ref (((v 1).1 2)), .ref (((v 1).1 3)), .ref (((v 1).1 4)), .ref (((v 1).1 5)), .ref (((v 1).1 6)), .ref (((v 1).1 7)), .ref (((v 1).1 8)), .ref (((v 1).1 9)), .ref (((v 1).1 10))])), (((v 1).1 0), .inl (k 0, 18, .inl (fun _ => 0))), (((v 1).1 1), .inl (k 0, 18, .inl (fun _ => 0))), (((v 1).1 2), .inl (k 0, 18, .inl (fun _ => 0))), (((v 1).1 3), .inl (k 0, 18, .inl (fun _ => 0))), (((v 1).1 4), .inl (k 0, 18, .inl (fun _ => 0))), (((v 1).1 5), .inl (k 0, 18, .inl (fun _ => 0))), (((v 1).1 6), .inl (k 0, 18, .inl (fun _ => 0))), (((v 1).1 7), .inl (k 0, 9, .inl (fun _ => 0))), (((v 1).1 8), .inl (k 0, 9, .inl (fun _ => 0))), (((v 1).1 9), .inl (k 0, 9, .inl (fun _ => 0))), (((v 1).1 10), .inl (k 2, 9, .inl (fun _ => 0))),
  ((q 2), .inr (2, [.ref (((v 2).1 0)), .ref (((v 2).1 1)), .ref (((v 2).1 2))])), (((v 2).1 0), .inl (k 0, 8, .inl (fun _ => 0))), (((v 2).1 1), .inl (k 0, 9, .inl (fun _ => 0))), (((v 2).1 2), .inl (k 1, 9, zRef (fun j => some (((v 2).2 j))))), (((v 2).2 0), .inl (k 0, 9, .inl (fun _ => 0))), (((v 2).2 1), .inl (k 0, 9, .inl (fun _ => 0))), (((v 2).2 2), .inl (k 0, 9, .inl (fun _ => 0))), (((v 2).2 3), .inl (k 0, 9, .inl (fun _ => 0))), (((v 2).2 4), .inl (k 0, 9, .inl (fun _ => 0))), (((v 2).2 5), .inl (k 0, 9, .inl (fun _ => 0))), (((v 2).2 6), .inl (k 0, 9, .inl (fun _ => 0))), (((v 2).2 7), .inl (k 0, 9, .inl (fun _ => 0))), (((v 2).2 8), .inl (k 0, 9, .inl (fun _ => 0))),
  ((q 3), .inr (3, [.int 0, .int 0])),
  ((q 4), .inr (0, [.ref (((v 4).1 0))])), (((v 4).1 0), .inl (k 1, 11, zRef (fun j => some (((v 4).2 j))))), (((v 4).2 0), .inl (k 0, 301, .inl (fun _ => 0))), (((v 4).2 1), .inl (k 0, 301, .inl (fun _ => 0))), (((v 4).2 2), .inl (k 0, 301, .inl (fun _ => 0))), (((v 4).2 3), .inl (k 0, 301, .inl (fun _ => 0))), (((v 4).2 4), .inl (k 0, 301, .inl (fun _ => 0))), (((v 4).2 5), .inl (k 0, 301, .inl (fun _ => 0))), (((v 4).2 6), .inl (k 0, 301, .inl (fun _ => 0))), (((v 4).2 7), .inl (k 0, 301, .inl (fun _ => 0))), (((v 4).2 8), .inl (k 0, 301, .inl (fun _ => 0))), (((v 4).2 9), .inl (k 0, 301, .inl (fun _ => 0))), (((v 4).2 10), .inl (k 0, 301, .inl (fun _ => 0))),
  (q 5, .inl (k 0, 10, .inl (fun _ => 0))),
  (h7, .inr (7, [.int 0, .int 0, .int 0, .ref ((u.1 0)), .ref ((u.1 1)), .ref ((u.1 2)), .ref ((u.1 3)), .ref ((u.1 4)), .ref ((u.1 5)), .int (-1), .int 0, .ref ((u.1 6)), .ref ((u.1 7)), .int 0, .int 0, .ref ((u.1 8)), .ref ((u.1 9)), .ref ((u.1 10)), .ref ((u.1 11)), .ref ((u.1 12)), .int 0, .ref ((u.1 13)), .ref ((u.1 14)), .ref ((u.1 15)), .ref ((u.1 16)), .ref ((u.1 17)), .ref ((u.1 18)), .ref ((u.1 19))])), ((u.1 0), .inl (k 0, 10, .inl (fun _ => 0))), ((u.1 1), .inl (k 0, 10, .inl (fun _ => 0))), ((u.1 2), .inl (k 0, 10, .inl (fun _ => 0))), ((u.1 3), .inl (k 0, 8, .inl (fun _ => 0))), ((u.1 4), .inl (k 0, 8, .inl (fun _ => 0))), ((u.1 5), .inl (k 0, 80, .inl (fun _ => 0))), ((u.1 6), .inl (k 0, 10, .inl (fun _ => 0))), ((u.1 7), .inl (k 3, 8, .inr (.inl (fun _ => 0)))), ((u.1 8), .inl (k 0, 8, .inl (fun _ => 0))), ((u.1 9), .inl (k 0, 8, .inl (fun _ => 0))), ((u.1 10), .inl (k 0, 10, .inl (fun _ => 0))), ((u.1 11), .inl (k 0, 10, .inl (fun _ => 0))), ((u.1 12), .inl (k 0, 8, .inl (fun _ => 0))), ((u.1 13), .inl (k 0, 60, .inl (fun _ => 0))), ((u.1 14), .inl (k 0, 60, .inl (fun _ => 0))), ((u.1 15), .inl (k 3, 60, .inr (.inl (fun _ => 0)))), ((u.1 16), .inl (k 0, 60, .inl (fun _ => 0))), ((u.1 17), .inl (k 3, 9, .inr (.inl (fun _ => 0)))), ((u.1 18), .inl (k 0, 9, .inl (fun _ => 0))), ((u.1 19), .inl (k 3, 3311, .inr (.inl (fun _ => 0)))),
  (h8, .inl (k 3, 1, .inr (.inl (fun _ => 0))))]
set_option maxRecDepth 100000 in
theorem zall_eq {k : Nat → ClassId} {h0 h7 h8 : Nat} {q : Nat → Nat} {v : Nat → (Nat → Nat) × (Nat → Nat)} {u : (Nat → Nat) × (Nat → Nat)} : zall k h0 h7 h8 q v u = zallF k h0 h7 h8 q v u := by
  unfold zall zc_6 zc_4 zc_5 zc_1 zc_2 zc_3 zc_0 zc_7 zallF
  simp only [List.cons_append, List.nil_append]
  all_goals rfl
set_option maxHeartbeats 8000000 in
set_option maxRecDepth 100000 in
theorem zlook {k : Nat → ClassId} {h0 h7 h8 : Nat} {q : Nat → Nat} {v : Nat → (Nat → Nat) × (Nat → Nat)} {u : (Nat → Nat) × (Nat → Nat)} : ∀ n, n < 83 → ∃ e, (zallF k h0 h7 h8 q v u)[zpl n]? = some (zad h0 h7 h8 q v u n, e)
  | 0, _ => ⟨_, rfl⟩
  | 1, _ => ⟨_, rfl⟩
  | 2, _ => ⟨_, rfl⟩
  | 3, _ => ⟨_, rfl⟩
  | 4, _ => ⟨_, rfl⟩
  | 5, _ => ⟨_, rfl⟩
  | 6, _ => ⟨_, rfl⟩
  | 7, _ => ⟨_, rfl⟩
  | 8, _ => ⟨_, rfl⟩
  | 9, _ => ⟨_, rfl⟩
  | 10, _ => ⟨_, rfl⟩
  | 11, _ => ⟨_, rfl⟩
  | 12, _ => ⟨_, rfl⟩
  | 13, _ => ⟨_, rfl⟩
  | 14, _ => ⟨_, rfl⟩
  | 15, _ => ⟨_, rfl⟩
  | 16, _ => ⟨_, rfl⟩
  | 17, _ => ⟨_, rfl⟩
  | 18, _ => ⟨_, rfl⟩
  | 19, _ => ⟨_, rfl⟩
  | 20, _ => ⟨_, rfl⟩
  | 21, _ => ⟨_, rfl⟩
  | 22, _ => ⟨_, rfl⟩
  | 23, _ => ⟨_, rfl⟩
  | 24, _ => ⟨_, rfl⟩
  | 25, _ => ⟨_, rfl⟩
  | 26, _ => ⟨_, rfl⟩
  | 27, _ => ⟨_, rfl⟩
  | 28, _ => ⟨_, rfl⟩
  | 29, _ => ⟨_, rfl⟩
  | 30, _ => ⟨_, rfl⟩
  | 31, _ => ⟨_, rfl⟩
  | 32, _ => ⟨_, rfl⟩
  | 33, _ => ⟨_, rfl⟩
  | 34, _ => ⟨_, rfl⟩
  | 35, _ => ⟨_, rfl⟩
  | 36, _ => ⟨_, rfl⟩
  | 37, _ => ⟨_, rfl⟩
  | 38, _ => ⟨_, rfl⟩
  | 39, _ => ⟨_, rfl⟩
  | 40, _ => ⟨_, rfl⟩
  | 41, _ => ⟨_, rfl⟩
  | 42, _ => ⟨_, rfl⟩
  | 43, _ => ⟨_, rfl⟩
  | 44, _ => ⟨_, rfl⟩
  | 45, _ => ⟨_, rfl⟩
  | 46, _ => ⟨_, rfl⟩
  | 47, _ => ⟨_, rfl⟩
  | 48, _ => ⟨_, rfl⟩
  | 49, _ => ⟨_, rfl⟩
  | 50, _ => ⟨_, rfl⟩
  | 51, _ => ⟨_, rfl⟩
  | 52, _ => ⟨_, rfl⟩
  | 53, _ => ⟨_, rfl⟩
  | 54, _ => ⟨_, rfl⟩
  | 55, _ => ⟨_, rfl⟩
  | 56, _ => ⟨_, rfl⟩
  | 57, _ => ⟨_, rfl⟩
  | 58, _ => ⟨_, rfl⟩
  | 59, _ => ⟨_, rfl⟩
  | 60, _ => ⟨_, rfl⟩
  | 61, _ => ⟨_, rfl⟩
  | 62, _ => ⟨_, rfl⟩
  | 63, _ => ⟨_, rfl⟩
  | 64, _ => ⟨_, rfl⟩
  | 65, _ => ⟨_, rfl⟩
  | 66, _ => ⟨_, rfl⟩
  | 67, _ => ⟨_, rfl⟩
  | 68, _ => ⟨_, rfl⟩
  | 69, _ => ⟨_, rfl⟩
  | 70, _ => ⟨_, rfl⟩
  | 71, _ => ⟨_, rfl⟩
  | 72, _ => ⟨_, rfl⟩
  | 73, _ => ⟨_, rfl⟩
  | 74, _ => ⟨_, rfl⟩
  | 75, _ => ⟨_, rfl⟩
  | 76, _ => ⟨_, rfl⟩
  | 77, _ => ⟨_, rfl⟩
  | 78, _ => ⟨_, rfl⟩
  | 79, _ => ⟨_, rfl⟩
  | 80, _ => ⟨_, rfl⟩
  | 81, _ => ⟨_, rfl⟩
  | 82, _ => ⟨_, rfl⟩
  | n + 83, h => absurd h (by omega)
set_option maxHeartbeats 8000000 in
set_option maxRecDepth 100000 in
theorem zat {D : va_G} {k : Nat → ClassId} {h0 h7 h8 : Nat} {q : Nat → Nat} {v : Nat → (Nat → Nat) × (Nat → Nat)} {u : (Nat → Nat) × (Nat → Nat)} {H : Heap} (hP : va_P D vwCl (zallF k h0 h7 h8 q v u) H) : ∀ n, n < 83 → va_at D vwCl (zad h0 h7 h8 q v u n, zsh k (zad h0 h7 h8 q v u) n (zS0.1 n) (zS0.2 n)) H
  | 0, _ => hP 0 _ rfl
  | 1, _ => hP 2 _ rfl
  | 2, _ => hP 1 _ rfl
  | 3, _ => hP 21 _ rfl
  | 4, _ => hP 33 _ rfl
  | 5, _ => hP 46 _ rfl
  | 6, _ => hP 47 _ rfl
  | 7, _ => hP 60 _ rfl
  | 8, _ => hP 3 _ rfl
  | 9, _ => hP 4 _ rfl
  | 10, _ => hP 5 _ rfl
  | 11, _ => hP 6 _ rfl
  | 12, _ => hP 7 _ rfl
  | 13, _ => by
    show H[_]? = some (vp_cell (k 1) (8, zRef (fun j => some (zad h0 h7 h8 q v u (14 + j)))))
    rw [zRef_cell (g := fun j => some ((v 0).2 j)) (fun j hj => by
      match j, hj with
      | 0, _ => rfl
      | 1, _ => rfl
      | 2, _ => rfl
      | 3, _ => rfl
      | 4, _ => rfl
      | 5, _ => rfl
      | 6, _ => rfl
      | 7, _ => rfl
      | j + 8, h => exact absurd h (by omega))]
    exact hP 8 _ rfl
  | 14, _ => hP 9 _ rfl
  | 15, _ => hP 10 _ rfl
  | 16, _ => hP 11 _ rfl
  | 17, _ => hP 12 _ rfl
  | 18, _ => hP 13 _ rfl
  | 19, _ => hP 14 _ rfl
  | 20, _ => hP 15 _ rfl
  | 21, _ => hP 16 _ rfl
  | 22, _ => hP 17 _ rfl
  | 23, _ => hP 18 _ rfl
  | 24, _ => hP 19 _ rfl
  | 25, _ => hP 20 _ rfl
  | 26, _ => hP 22 _ rfl
  | 27, _ => hP 23 _ rfl
  | 28, _ => hP 24 _ rfl
  | 29, _ => hP 25 _ rfl
  | 30, _ => hP 26 _ rfl
  | 31, _ => hP 27 _ rfl
  | 32, _ => hP 28 _ rfl
  | 33, _ => hP 29 _ rfl
  | 34, _ => hP 30 _ rfl
  | 35, _ => hP 31 _ rfl
  | 36, _ => hP 32 _ rfl
  | 37, _ => hP 34 _ rfl
  | 38, _ => hP 35 _ rfl
  | 39, _ => by
    show H[_]? = some (vp_cell (k 1) (9, zRef (fun j => some (zad h0 h7 h8 q v u (40 + j)))))
    rw [zRef_cell (g := fun j => some ((v 2).2 j)) (fun j hj => by
      match j, hj with
      | 0, _ => rfl
      | 1, _ => rfl
      | 2, _ => rfl
      | 3, _ => rfl
      | 4, _ => rfl
      | 5, _ => rfl
      | 6, _ => rfl
      | 7, _ => rfl
      | 8, _ => rfl
      | j + 9, h => exact absurd h (by omega))]
    exact hP 36 _ rfl
  | 40, _ => hP 37 _ rfl
  | 41, _ => hP 38 _ rfl
  | 42, _ => hP 39 _ rfl
  | 43, _ => hP 40 _ rfl
  | 44, _ => hP 41 _ rfl
  | 45, _ => hP 42 _ rfl
  | 46, _ => hP 43 _ rfl
  | 47, _ => hP 44 _ rfl
  | 48, _ => hP 45 _ rfl
  | 49, _ => by
    show H[_]? = some (vp_cell (k 1) (11, zRef (fun j => some (zad h0 h7 h8 q v u (50 + j)))))
    rw [zRef_cell (g := fun j => some ((v 4).2 j)) (fun j hj => by
      match j, hj with
      | 0, _ => rfl
      | 1, _ => rfl
      | 2, _ => rfl
      | 3, _ => rfl
      | 4, _ => rfl
      | 5, _ => rfl
      | 6, _ => rfl
      | 7, _ => rfl
      | 8, _ => rfl
      | 9, _ => rfl
      | 10, _ => rfl
      | j + 11, h => exact absurd h (by omega))]
    exact hP 48 _ rfl
  | 50, _ => hP 49 _ rfl
  | 51, _ => hP 50 _ rfl
  | 52, _ => hP 51 _ rfl
  | 53, _ => hP 52 _ rfl
  | 54, _ => hP 53 _ rfl
  | 55, _ => hP 54 _ rfl
  | 56, _ => hP 55 _ rfl
  | 57, _ => hP 56 _ rfl
  | 58, _ => hP 57 _ rfl
  | 59, _ => hP 58 _ rfl
  | 60, _ => hP 59 _ rfl
  | 61, _ => hP 61 _ rfl
  | 62, _ => hP 62 _ rfl
  | 63, _ => hP 63 _ rfl
  | 64, _ => hP 64 _ rfl
  | 65, _ => hP 65 _ rfl
  | 66, _ => hP 66 _ rfl
  | 67, _ => hP 67 _ rfl
  | 68, _ => hP 68 _ rfl
  | 69, _ => hP 69 _ rfl
  | 70, _ => hP 70 _ rfl
  | 71, _ => hP 71 _ rfl
  | 72, _ => hP 72 _ rfl
  | 73, _ => hP 73 _ rfl
  | 74, _ => hP 74 _ rfl
  | 75, _ => hP 75 _ rfl
  | 76, _ => hP 76 _ rfl
  | 77, _ => hP 77 _ rfl
  | 78, _ => hP 78 _ rfl
  | 79, _ => hP 79 _ rfl
  | 80, _ => hP 80 _ rfl
  | 81, _ => hP 81 _ rfl
  | 82, _ => hP 82 _ rfl
  | n + 83, h => absurd h (by omega)
theorem z_assemble {D : va_G} {k : Nat → ClassId} {h0 h7 h8 : Nat} {q : Nat → Nat} {v : Nat → (Nat → Nat) × (Nat → Nat)} {u : (Nat → Nat) × (Nat → Nat)} {H : Heap} {A : Nat → Prop} (hP : va_P D vwCl (zall k h0 h7 h8 q v u) H) (hD : va_D A (zall k h0 h7 h8 q v u)) : ∃ a : Nat → Nat, a 0 = h0 ∧ a 61 = h7 ∧ a 82 = h8 ∧ va_P D vwCl (zWS k a zS0) H ∧ zDj a ∧ ∀ n, n < 83 → A (a n) := by
  rw [zall_eq] at hP hD
  refine ⟨zad h0 h7 h8 q v u, rfl, rfl, rfl, fun n x hx => ?_, fun i j hi hj e => ?_, fun n hn => ?_⟩
  · obtain ⟨hn, rfl⟩ := zWS_lt hx
    exact zat hP n hn
  · obtain ⟨e1, g1⟩ := zlook (k := k) (h0 := h0) (h7 := h7) (h8 := h8) (q := q) (v := v) (u := u) i hi
    obtain ⟨e2, g2⟩ := zlook (k := k) (h0 := h0) (h7 := h7) (h8 := h8) (q := q) (v := v) (u := u) j hj
    exact zpl_inj i hi j hj (hD.1 _ _ _ _ g1 g2 e)
  · obtain ⟨e1, g1⟩ := zlook (k := k) (h0 := h0) (h7 := h7) (h8 := h8) (q := q) (v := v) (u := u) n hn
    exact hD.2 _ _ g1
theorem z_ac {args : Array Value} {s : State} {ty : FieldType} (h : (Cond.arrayClass ty).before args s = true) (ho : ∀ C, ty ≠ .object C) : ∃ c : ClassId, ArrOfT s c ty ∧ va_RA s c ty := by
  obtain ⟨c, k, comp, h1, h2, h3⟩ := Cond.arrayClass_spec h
  refine ⟨c, fun N z => ⟨(fun q hq => by cases hq), k, h2, comp, h3⟩, ?_⟩
  cases ty <;> first | exact h1 | exact absurd rfl (ho _)
theorem z_ao {args : Array Value} {s : State} {t : FieldType} (h : (Cond.arrayOver (.array t)).before args s = true) : ∃ c : ClassId, ArrOfT s c (.array t) ∧ va_RA s c (.array t) := by
  obtain ⟨comp, cA, kA, k3, k9, k1, k2, k4⟩ := arrayOverA_spec h
  exact ⟨cA, fun N z => ⟨(fun q hq => by cases hq), kA, k1, comp, k2⟩, k4⟩
theorem zP6_blind {D : va_G} {k : Nat → ClassId} {av : List Value} {wc : va_W} {sz : Nat} : FrameBlind (va_Pc av (fun U => U.heap.size = sz ∧ va_P D vwCl wc U.heap ∧ zK0 D k U ∧ va_D (fun _ => True) wc ∧ ∀ w ∈ znests, va_Nw w U)) := fun x U g mk q => by
  obtain ⟨q0, q1, qP, qK, qD, qN⟩ := q
  refine ⟨q0, q1, qP, zK0.same (u := U) (U := U.calling g mk x) rfl qK, qD, fun w hw => ?_⟩
  have h0 := qN w hw
  simp only [znests, List.mem_cons, List.not_mem_nil, or_false] at hw
  rcases hw with rfl | rfl | rfl | rfl | rfl | rfl <;> exact va_Nw.same (u := U) (U := U.calling g mk x) rfl rfl h0
theorem znests_warm {s U : State} (hW : s.WarmedH U.vm) (h : ∀ w ∈ znests, va_Nw w s) : ∀ w ∈ znests, va_Nw w U := by
  intro w hw
  have h0 := h w hw
  simp only [znests, List.mem_cons, List.not_mem_nil, or_false] at hw
  rcases hw with rfl | rfl | rfl | rfl | rfl | rfl <;> exact va_Nw.warmM hW h0
theorem zstr_of {args : Array Value} {s : State} {own tx : String} {k : Nat} (h1 : (Cond.stringRef own k tx).before args s = true) (h2 : (Cond.exactly (.string own k) "java/lang/String").before args s = true) : ∃ sa : Nat, vk_R own k tx sa s := by
  obtain ⟨a, c, cell, k9, g, -⟩ := Cond.exactly_spec h2
  exact ⟨a, vk_R.of (A := args) h1 g⟩
set_option maxHeartbeats 8000000 in
set_option maxRecDepth 100000 in
/-- THE LAW, from its entry, if the runs of the two sides agree -/
theorem whole_start_of {p : Program} {e : Env} {s : State} {m : MethodId} {below : List Frame} {meth : Method} {c : Code} (l : Launch) (hlt : l.stackTraces = false) {b L : Nat} {xs : Nat → Int32} (hL : L ≤ 2048) (hrun : lw_run xs (L / 4) 0 zS0) (C0 : lw_At p s m meth c b L xs) : W p l e room_1 s m #[Value.ref b] below meth c s.heap [] 0 0 (lw_Z below #[Value.ref b] s) (entryFrame m ([Value.ref b] : List Value).toArray 7) := by
  obtain ⟨hx, hb, hr, hml, hown, hts, hX, hbl, hlocks, hgv⟩ := id C0
  have hA : ∀ q : Nat, s.heap.size ≤ q → (fun q : Nat => s.heap.size ≤ q) q := fun _ h => h
  obtain ⟨c0, iS0, hKn0⟩ := u_known (C := RX0) (T := TX0) (N := 1) (n := 1) hts zin_0 (hts (.instantiable RX0 1) (List.mem_of_getElem? (i := 284) rfl))
  obtain ⟨c1, iS1, hKn1⟩ := u_known (C := RX1) (T := TX1) (N := 12) (n := 12) hts zin_1 (hts (.instantiable RX1 12) (List.mem_of_getElem? (i := 199) rfl))
  obtain ⟨c2, iS2, hKn2⟩ := u_known (C := RX2) (T := TX2) (N := 3) (n := 3) hts zin_2 (hts (.instantiable RX2 3) (List.mem_of_getElem? (i := 251) rfl))
  obtain ⟨c3, iS3, hKn3⟩ := u_known (C := RX3) (T := TX3) (N := 2) (n := 2) hts zin_3 (hts (.instantiable RX3 2) (List.mem_of_getElem? (i := 269) rfl))
  obtain ⟨c4, iS4, hKn4⟩ := u_known (C := RX4) (T := TX4) (N := 5) (n := 5) hts zin_4 (hts (.instantiable RX4 5) (List.mem_of_getElem? (i := 105) rfl))
  obtain ⟨c5, iS5, hKn5⟩ := u_known (C := RX5) (T := TX5) (N := 8) (n := 8) hts zin_5 (hts (.instantiable RX5 8) (List.mem_of_getElem? (i := 111) rfl))
  obtain ⟨c6, iS6, hKn6⟩ := u_known (C := RX6) (T := TX6) (N := 8) (n := 8) hts zin_6 (hts (.instantiable RX6 8) (List.mem_of_getElem? (i := 97) rfl))
  obtain ⟨c7, iS7, hKn7⟩ := u_known (C := RX7) (T := TX7) (N := 28) (n := 28) hts zin_7 (hts (.instantiable RX7 28) (List.mem_of_getElem? (i := 857) rfl))
  obtain ⟨kI, hkI⟩ := z_ac (hts (.arrayClass .int) (List.mem_of_getElem? (i := 178) rfl)) (fun C h => by cases h)
  obtain ⟨kZ, hkZ⟩ := z_ac (hts (.arrayClass .boolean) (List.mem_of_getElem? (i := 249) rfl)) (fun C h => by cases h)
  obtain ⟨kJ, hkJ⟩ := z_ac (hts (.arrayClass .long) (List.mem_of_getElem? (i := 947) rfl)) (fun C h => by cases h)
  have hAO : (Cond.arrayOver (.array .int)).before #[Value.ref b] s = true := hts _ (List.mem_of_getElem? (i := 117) rfl)
  obtain ⟨kQ, hkQ⟩ := z_ao hAO
  obtain ⟨D, hKc⟩ : ∃ D : va_G, ∀ (k : Nat) (q : vw_C), vwCl[k]? = some q → u_Kn s q.1 q.2.1 q.2.2 (D.1 k) (D.2 k) := by
    refine ⟨(fun k => [c0, c1, c2, c3, c4, c5, c6, c7].getD k c0, fun k => [iS0, iS1, iS2, iS3, iS4, iS5, iS6, iS7].getD k iS0), ?_⟩
    intro k q hq
    match k, hq with
    | 0, hq => cases hq; exact hKn0
    | 1, hq => cases hq; exact hKn1
    | 2, hq => cases hq; exact hKn2
    | 3, hq => cases hq; exact hKn3
    | 4, hq => cases hq; exact hKn4
    | 5, hq => cases hq; exact hKn5
    | 6, hq => cases hq; exact hKn6
    | 7, hq => cases hq; exact hKn7
    | k + 8, hq => simp [vwCl] at hq
  obtain ⟨k, hK⟩ : ∃ k : Nat → ClassId, va_K D vwCl (ztys k) s := by
    refine ⟨fun i => [kI, kQ, kZ, kJ].getD i kI, hKc, ?_⟩
    intro j q hq
    match j, hq with
    | 0, hq => cases hq; exact hkI
    | 1, hq => cases hq; exact hkQ
    | 2, hq => cases hq; exact hkZ
    | 3, hq => cases hq; exact hkJ
    | j + 4, hq => simp [ztys] at hq
  have hK : zK0 D k s := ⟨hK, va_AOA.of hAO⟩
  have hN : ∀ w ∈ znests, va_Nw w s := List.forall_mem_cons.mpr ⟨va_Nw.of rfl (hts _ (List.mem_of_getElem? (i := 106) rfl)), List.forall_mem_cons.mpr ⟨va_Nw.of rfl (hts _ (List.mem_of_getElem? (i := 200) rfl)), List.forall_mem_cons.mpr ⟨va_Nw.of rfl (hts _ (List.mem_of_getElem? (i := 252) rfl)), List.forall_mem_cons.mpr ⟨va_Nw.of rfl (hts _ (List.mem_of_getElem? (i := 270) rfl)), List.forall_mem_cons.mpr ⟨va_Nw.of rfl (hts _ (List.mem_of_getElem? (i := 285) rfl)), List.forall_mem_cons.mpr ⟨va_Nw.of rfl (hts _ (List.mem_of_getElem? (i := 112) rfl)), fun _ h => by cases h⟩⟩⟩⟩⟩⟩
  have hS : va_S (fun q : Nat => s.heap.size ≤ q) s.heap s.heap [] := va_S.rf
  have hP : va_P D vwCl [] s.heap := fun k q h => by simp at h
  have hD : va_D (fun q : Nat => s.heap.size ≤ q) [] := ⟨fun i j p q h => by simp at h, fun k q h => by simp at h⟩
  have hl := lv_entry ([.ref b]) (n := 7) (Nat.le_of_ble_eq_true rfl)
  rw [lg_entry_eq]
  generalize (lg_sl ([.ref b]) ++ List.replicate (7 - (lg_sl ([.ref b])).length) Slot.unset).toArray = ls at hl ⊢
  have hl : lv_has ls 7 [(0, .ref b)] := hl
  refine va_new (ci := 6) (fs := [.null, .null, .null, .null, .null, .null, .null, .int 0]) (C := RX6) (T := TX6) (N := 8) hx hb hts zin_6 tyX6 tyX6_ok hown (hts (.classLink RL 8 RX6) (List.mem_of_getElem? (i := 96) rfl)) (hts (.instantiable RX6 8) (List.mem_of_getElem? (i := 97) rfl)) (hts (.initialized RX6) (List.mem_of_getElem? (i := 78) rfl)) hK.1 hP hD hS hA rfl (fun j hj => by rcases (show j = 0 ∨ j = 1 ∨ j = 2 ∨ j = 3 ∨ j = 4 ∨ j = 5 ∨ j = 6 ∨ j = 7 by omega) with rfl | rfl | rfl | rfl | rfl | rfl | rfl | rfl <;> rfl) (Nat.le_of_ble_eq_true rfl) (Nat.le_of_ble_eq_true rfl) dL_law_0 (fun h0 H hP hD hS => ?_)
  have hP : va_P D vwCl [(h0, .inr (6, [.null, .null, .null, .null, .null, .null, .null, .int 0]))] H := hP
  have hD : va_D (fun q : Nat => s.heap.size ≤ q) [(h0, .inr (6, [.null, .null, .null, .null, .null, .null, .null, .int 0]))] := hD
  refine lv_dup hx hb dL_law_3 rfl ?_
  have hFc := va_free (wc := [(h0, .inr (6, [.null, .null, .null, .null, .null, .null, .null, .int 0]))]) hD hS hA [0] rfl
  refine va_callv (va_runI (As := []) (rest := [.ref h0]) ⟨hx, hb, hml, hown, hts⟩ (c_X6_init l D k h0 H.size) (cwI 0 hts zgg_X6_init rfl rfl rfl (hts (.initialized RX6) (List.mem_of_getElem? (i := 78) rfl)) (hts (.methodLink RL 65 yX6_init) (List.mem_of_getElem? (i := 98) rfl)) (hts (.instanceMethod yX6_init) (List.mem_of_getElem? (i := 99) rfl)) rfl (by decide +kernel) ⟨(Nat.le_of_ble_eq_true rfl), (Nat.le_of_ble_eq_true rfl)⟩) ⟨zP6_blind, fun U hU hW => ⟨rfl, by rw [hU], by rw [hU]; exact hP, hK.warm hW, hD.weaken (fun _ _ _ _ => trivial), znests_warm hW hN⟩⟩ rfl rfl hl.1 rfl (lv_room (Nat.le_of_ble_eq_true rfl)) dL_law_4 ⟨(Nat.le_of_ble_eq_true rfl), (Nat.le_of_ble_eq_true rfl)⟩) hS (fun q _ h => hFc q h) hFc (fun u6 t H1 locs ht hvm hw hB hz1 hk1 hS => ?_)
  obtain ⟨hP1, hD1⟩ := hB
  rw [ht] at hP1
  obtain ⟨hP, hD⟩ := va_join (wr := []) (w1 := zc_6 k h0 u6.1 u6.2) hP hD [0] [] rfl rfl (by decide) (by decide) hk1 hFc hP1 hD1
  generalize H1 = H at hP hS ⊢
  have hP : va_P D vwCl (zc_6 k h0 u6.1 u6.2) H := hP
  have hD : va_D (fun q : Nat => s.heap.size ≤ q) (zc_6 k h0 u6.1 u6.2) := hD
  refine lv_astore_n (lv' := [(1, .ref h0), (0, .ref b)]) hx hb dL_law_7 rfl hl (by decide) rfl (fun ls hl => ?_)
  refine va_new (ci := 7) (fs := [.int 0, .int 0, .int 0, .null, .null, .null, .null, .null, .null, .int 0, .int 0, .null, .null, .int 0, .int 0, .null, .null, .null, .null, .null, .int 0, .null, .null, .null, .null, .null, .null, .null]) (C := RX7) (T := TX7) (N := 28) hx hb hts zin_7 tyX7 tyX7_ok hown (hts (.classLink RL 66 RX7) (List.mem_of_getElem? (i := 856) rfl)) (hts (.instantiable RX7 28) (List.mem_of_getElem? (i := 857) rfl)) (hts (.initialized RX7) (List.mem_of_getElem? (i := 85) rfl)) hK.1 hP hD hS hA rfl (fun j hj => by rcases (show j = 0 ∨ j = 1 ∨ j = 2 ∨ j = 3 ∨ j = 4 ∨ j = 5 ∨ j = 6 ∨ j = 7 ∨ j = 8 ∨ j = 9 ∨ j = 10 ∨ j = 11 ∨ j = 12 ∨ j = 13 ∨ j = 14 ∨ j = 15 ∨ j = 16 ∨ j = 17 ∨ j = 18 ∨ j = 19 ∨ j = 20 ∨ j = 21 ∨ j = 22 ∨ j = 23 ∨ j = 24 ∨ j = 25 ∨ j = 26 ∨ j = 27 by omega) with rfl | rfl | rfl | rfl | rfl | rfl | rfl | rfl | rfl | rfl | rfl | rfl | rfl | rfl | rfl | rfl | rfl | rfl | rfl | rfl | rfl | rfl | rfl | rfl | rfl | rfl | rfl | rfl <;> rfl) (Nat.le_of_ble_eq_true rfl) (Nat.le_of_ble_eq_true rfl) dL_law_8 (fun h7 H hP hD hS => ?_)
  refine lv_dup hx hb dL_law_11 rfl ?_
  have hPc := hP.sub (ws' := [(h7, .inr (7, [.int 0, .int 0, .int 0, .null, .null, .null, .null, .null, .null, .int 0, .int 0, .null, .null, .int 0, .int 0, .null, .null, .null, .null, .null, .int 0, .null, .null, .null, .null, .null, .null, .null]))]) [61] rfl
  have hDc := hD.sub (ws' := [(h7, .inr (7, [.int 0, .int 0, .int 0, .null, .null, .null, .null, .null, .null, .int 0, .int 0, .null, .null, .int 0, .int 0, .null, .null, .null, .null, .null, .int 0, .null, .null, .null, .null, .null, .null, .null]))]) [61] (by decide) rfl
  have hFc := va_free (wc := [(h7, .inr (7, [.int 0, .int 0, .int 0, .null, .null, .null, .null, .null, .null, .int 0, .int 0, .null, .null, .int 0, .int 0, .null, .null, .null, .null, .null, .int 0, .null, .null, .null, .null, .null, .null, .null]))]) hD hS hA [61] rfl
  refine va_callv (va_runI (As := []) (rest := [.ref h7]) ⟨hx, hb, hml, hown, hts⟩ (c_X7_init l D k h7 H.size) (cwI 0 hts zgg_X7_init rfl rfl rfl (hts (.initialized RX7) (List.mem_of_getElem? (i := 85) rfl)) (hts (.methodLink RL 68 yX7_init) (List.mem_of_getElem? (i := 858) rfl)) (hts (.instanceMethod yX7_init) (List.mem_of_getElem? (i := 859) rfl)) rfl (by decide +kernel) ⟨(Nat.le_of_ble_eq_true rfl), (Nat.le_of_ble_eq_true rfl)⟩) ⟨zPk_blind, zPk_pre hK hPc hDc⟩ rfl rfl hl.1 rfl (lv_room (Nat.le_of_ble_eq_true rfl)) dL_law_12 ⟨(Nat.le_of_ble_eq_true rfl), (Nat.le_of_ble_eq_true rfl)⟩) hS (fun q _ h => hFc q h) hFc (fun u7 t H1 locs ht hvm hw hB hz1 hk1 hS => ?_)
  obtain ⟨hP1, hD1⟩ := hB
  rw [ht] at hP1
  obtain ⟨hP, hD⟩ := va_join (wr := zc_6 k h0 u6.1 u6.2) (w1 := zc_7 k h7 u7.1 u7.2) hP hD [61] [0, 1, 2, 3, 4, 5, 6, 7, 8, 9, 10, 11, 12, 13, 14, 15, 16, 17, 18, 19, 20, 21, 22, 23, 24, 25, 26, 27, 28, 29, 30, 31, 32, 33, 34, 35, 36, 37, 38, 39, 40, 41, 42, 43, 44, 45, 46, 47, 48, 49, 50, 51, 52, 53, 54, 55, 56, 57, 58, 59, 60] rfl rfl (by decide) (by decide) hk1 hFc hP1 hD1
  generalize H1 = H at hP hS ⊢
  refine lv_astore_n (lv' := [(2, .ref h7), (1, .ref h0), (0, .ref b)]) hx hb dL_law_15 rfl hl (by decide) rfl (fun ls hl => ?_)
  refine lv_iconst (v := (1 : Int32)) hx hb dL_law_16 (by decide) ?_
  refine z_newJ (N' := 1) hx hb (hts (.arrayClass .long) (List.mem_of_getElem? (i := 947) rfl)) hK hP hD hS hA (by decide) (by decide) (by decide) (Nat.le_of_ble_eq_true rfl) (Nat.le_of_ble_eq_true rfl) dL_law_17 (fun h8 H hP hD hS => ?_)
  refine lv_astore_n (lv' := [(3, .ref h8), (2, .ref h7), (1, .ref h0), (0, .ref b)]) hx hb dL_law_19 rfl hl (by decide) rfl (fun ls hl => ?_)
  refine lv_iconst (v := nI 0) hx hb dL_law_20 (by decide) ?_
  refine lv_istore (lv' := [(4, .int (nI 0)), (3, .ref h8), (2, .ref h7), (1, .ref h0), (0, .ref b)]) hx hb dL_law_21 hl (by decide) rfl (fun ls hl => ?_)
  obtain ⟨a, rfl, rfl, rfl, hPa, hj, hal⟩ := z_assemble (q := u6.1) (v := u6.2) (u := u7) hP hD
  have hzA : ∀ q, zA a s.heap.size q → s.heap.size ≤ q := fun q h => by
    rcases h with ⟨n, h1, h2⟩ | h
    · rw [h2]; exact hal n h1
    · exact h
  have hSa : va_S (zA a s.heap.size) s.heap H _ := ⟨hS.1, fun q h1 h2 => hS.2.1 q h1 (fun h => by omega), fun z hz => Or.inr (hS.2.2 z hz)⟩
  have hKK : zK D k s := ⟨hK.1, va_Nw.of rfl (hts _ (List.mem_of_getElem? (i := 372) rfl))⟩
  have hout : ∀ x : Nat, x < s.heap.size → ¬ zA a s.heap.size x := fun x h1 h2 => by have := hzA x h2; omega
  have hfl := flat_of_before _ hgv
  have hstr : ∀ q ∈ zstrs, ∃ sa : Nat, vk_R RX6 q.1 q.2 sa s := by
    exact List.forall_mem_cons.mpr ⟨zstr_of (hts (.stringRef RX6 64 "there are 10 columns") (List.mem_of_getElem? (i := 654) rfl)) (hfl (.exactly (.string RX6 64) "java/lang/String") (by decide +kernel)), List.forall_mem_cons.mpr ⟨zstr_of (hts (.stringRef RX6 78 "a number of the column is not as told") (List.mem_of_getElem? (i := 694) rfl)) (hfl (.exactly (.string RX6 78) "java/lang/String") (by decide +kernel)), List.forall_mem_cons.mpr ⟨zstr_of (hts (.stringRef RX6 88 "there are 8 rows") (List.mem_of_getElem? (i := 712) rfl)) (hfl (.exactly (.string RX6 88) "java/lang/String") (by decide +kernel)), List.forall_mem_cons.mpr ⟨zstr_of (hts (.stringRef RX6 91 "a number of the row is not as told") (List.mem_of_getElem? (i := 714) rfl)) (hfl (.exactly (.string RX6 91) "java/lang/String") (by decide +kernel)), List.forall_mem_cons.mpr ⟨zstr_of (hts (.stringRef RX6 214 "there is no such row") (List.mem_of_getElem? (i := 740) rfl)) (hfl (.exactly (.string RX6 214) "java/lang/String") (by decide +kernel)), List.forall_mem_cons.mpr ⟨zstr_of (hts (.stringRef RX6 211 "there is no such column") (List.mem_of_getElem? (i := 751) rfl)) (hfl (.exactly (.string RX6 211) "java/lang/String") (by decide +kernel)), List.forall_mem_cons.mpr ⟨zstr_of (hts (.stringRef RX6 104 "the coefficient is not -100 .. 100") (List.mem_of_getElem? (i := 752) rfl)) (hfl (.exactly (.string RX6 104) "java/lang/String") (by decide +kernel)), List.forall_mem_cons.mpr ⟨zstr_of (hts (.stringRef RX6 110 "the bounds are not as told") (List.mem_of_getElem? (i := 760) rfl)) (hfl (.exactly (.string RX6 110) "java/lang/String") (by decide +kernel)), List.forall_mem_cons.mpr ⟨zstr_of (hts (.stringRef RX6 118 "the cost is not -1000 .. 1000") (List.mem_of_getElem? (i := 768) rfl)) (hfl (.exactly (.string RX6 118) "java/lang/String") (by decide +kernel)), List.forall_mem_cons.mpr ⟨zstr_of (hts (.stringRef RX6 123 "the right side is not -100000 .. 100000") (List.mem_of_getElem? (i := 776) rfl)) (hfl (.exactly (.string RX6 123) "java/lang/String") (by decide +kernel)), List.forall_mem_cons.mpr ⟨zstr_of (hts (.stringRef RX6 141 "it is no flow") (List.mem_of_getElem? (i := 791) rfl)) (hfl (.exactly (.string RX6 141) "java/lang/String") (by decide +kernel)), List.forall_mem_cons.mpr ⟨zstr_of (hts (.stringRef RX6 216 "nothing is solved with a best point") (List.mem_of_getElem? (i := 803) rfl)) (hfl (.exactly (.string RX6 216) "java/lang/String") (by decide +kernel)), List.forall_mem_cons.mpr ⟨zstr_of (hts (.stringRef RX6 218 "no flow is solved with a best point") (List.mem_of_getElem? (i := 829) rfl)) (hfl (.exactly (.string RX6 218) "java/lang/String") (by decide +kernel)), List.forall_mem_cons.mpr ⟨zstr_of (hts (.stringRef RX6 220 "it was not solved that no point fits") (List.mem_of_getElem? (i := 848) rfl)) (hfl (.exactly (.string RX6 220) "java/lang/String") (by decide +kernel)), fun _ h => by cases h⟩⟩⟩⟩⟩⟩⟩⟩⟩⟩⟩⟩⟩⟩
  have hbad : ∀ w ∈ zbad, va_Nw w s := by
    show ∀ w ∈ [Cond.castable "java/lang/IllegalStateException" "java/lang/IllegalStateException", Cond.castable "java/lang/IllegalArgumentException" "java/lang/IllegalArgumentException", Cond.castable "java/lang/IndexOutOfBoundsException" "java/lang/IndexOutOfBoundsException", Cond.declares ⟨"java/lang/RuntimeException", "<init>", "(Ljava/lang/String;)V"⟩, Cond.declares ⟨"java/lang/Exception", "<init>", "(Ljava/lang/String;)V"⟩, Cond.declares ⟨"java/lang/Throwable", "<init>", "(Ljava/lang/String;)V"⟩], va_Nw w s
    exact List.forall_mem_cons.mpr ⟨va_Nw.of rfl (hts _ (List.mem_of_getElem? (i := 615) rfl)), List.forall_mem_cons.mpr ⟨va_Nw.of rfl (hts _ (List.mem_of_getElem? (i := 687) rfl)), List.forall_mem_cons.mpr ⟨va_Nw.of rfl (hts _ (List.mem_of_getElem? (i := 733) rfl)), List.forall_mem_cons.mpr ⟨va_Nw.of rfl (hts _ (List.mem_of_getElem? (i := 617) rfl)), List.forall_mem_cons.mpr ⟨va_Nw.of rfl (hts _ (List.mem_of_getElem? (i := 619) rfl)), List.forall_mem_cons.mpr ⟨va_Nw.of rfl (hts _ (List.mem_of_getElem? (i := 621) rfl)), fun _ h => by cases h⟩⟩⟩⟩⟩⟩
  have hncs : ∀ q ∈ zncs, va_Nc q.1 q.2 s := List.forall_mem_cons.mpr ⟨va_Nc.of (hfl (.not (.castable "java/lang/IllegalArgumentException" "java/lang/IllegalStateException")) (by decide +kernel)), List.forall_mem_cons.mpr ⟨va_Nc.of (hfl (.not (.castable "java/lang/IllegalArgumentException" "java/lang/IndexOutOfBoundsException")) (by decide +kernel)), List.forall_mem_cons.mpr ⟨va_Nc.of (hfl (.not (.castable "java/lang/IndexOutOfBoundsException" "java/lang/IllegalStateException")) (by decide +kernel)), fun _ h => by cases h⟩⟩⟩
  have hXX : zX (zA a s.heap.size) s s.heap := ⟨vx_Zqof (hts _ (List.mem_of_getElem? (i := 640) rfl)) (hts (.initialized "java/lang/Throwable") (List.mem_of_getElem? (i := 86) rfl)) (hfl _ (by decide +kernel)) hout, vx_Zqof (hts _ (List.mem_of_getElem? (i := 642) rfl)) (hts (.initialized "java/lang/Throwable") (List.mem_of_getElem? (i := 86) rfl)) (hfl _ (by decide +kernel)) hout, hbad, hstr, hncs⟩
  exact law_loop ⟨C0, hlt, hL, hj, hal, hKK, hXX⟩ (L / 4) 0 zS0 H _ ls _ _ (by omega) (by omega) (by omega) (by omega) hrun hPa hSa (lv_sub hl [4, 3, 2, 1, 0] rfl)
