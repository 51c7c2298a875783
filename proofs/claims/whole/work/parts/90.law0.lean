/-! THE LAW UP TO ITS LOOP. -/
def P0 : PH := (fun n => if n = 0 then (fun k => if k = 1 then -1 else 0) else if n = 1 then (fun k => if k = 17 then -1 else 0) else if n = 108 then upd (upd (upd (upd (fun _ => 0) (0 : Int32).toNatClampNeg (-1)) (1 : Int32).toNatClampNeg (-1)) (2 : Int32).toNatClampNeg (-1)) (3 : Int32).toNatClampNeg (-1) else fun _ => 0, fun _ _ => 0)
def pmL : List Nat := [0, 86, 110, 3, 4, 5, 6, 7, 8, 9, 10, 11, 12, 13, 14, 15, 16, 17, 18, 54, 55, 56, 57, 58, 59, 60, 61, 65, 66, 67, 68, 69, 70, 71, 72, 76, 77, 78, 79, 80, 81, 82, 83, 28, 29, 30, 31, 62, 63, 73, 74, 84, 85, 45, 46, 47, 48, 49, 50, 51, 52, 53, 64, 75, 1, 2, 19, 20, 21, 22, 23, 24, 25, 26, 27, 32, 33, 34, 35, 36, 37, 38, 39, 40, 41, 42, 43, 44, 87, 88, 89, 90, 91, 92, 93, 94, 95, 96, 97, 98, 99, 100, 101, 102, 103, 104, 105, 106, 107, 108, 109]
def adL (q m r : Nat) (f g : Nat → Nat) : List Nat := [q, m, r, f 2, f 3, f 4, f 5, f 6, f 7, f 8, f 9, f 10, f 11, f 12, f 13, f 14, f 15, f 16, f 17, f 53, f 54, f 55, f 56, f 57, f 58, f 59, f 60, f 64, f 65, f 66, f 67, f 68, f 69, f 70, f 71, f 75, f 76, f 77, f 78, f 79, f 80, f 81, f 82, f 27, f 28, f 29, f 30, f 61, f 62, f 72, f 73, f 83, f 84, f 44, f 45, f 46, f 47, f 48, f 49, f 50, f 51, f 52, f 63, f 74, f 0, f 1, f 18, f 19, f 20, f 21, f 22, f 23, f 24, f 25, f 26, f 31, f 32, f 33, f 34, f 35, f 36, f 37, f 38, f 39, f 40, f 41, f 42, f 43, g 0, g 1, g 2, g 3, g 4, g 5, g 6, g 7, g 8, g 9, g 10, g 11, g 12, g 13, g 14, g 15, g 16, g 17, g 18, g 19, g 20, g 21, g 22]
def wLw (G : GT) (q m r : Nat) (f g : Nat → Nat) : va_W := pX10 G q f ++ pX11 G m g ++ [(r, .inl (gR G 14, 1, .inr (.inl (fun _ => 0))))]
def QF (G : GT) : QT := (fun _ st o t => o = .returned (some (.int 1)) ∧ va_F (gF G) st t, fun _ _ _ => False)
def wF (G : GT) (q m r : Nat) (f g : Nat → Nat) : va_W := [(q, .inr (10, [.int 0, .int (-1), .ref (f 2), .ref (f 10), .ref (f 23), .ref (f 26), .ref (f 27), .ref (f 29), .ref (f 31), .ref (f 33), .ref (f 38), .ref (f 0), .ref (f 1)])), ((f 0), .inl (gR G 17, 4, .inr (.inr (.inr (.inr (va_up (va_up (va_up (va_up (fun _ => none) (0 : Int32).toNatClampNeg (some (f 44))) ((0 + 1) : Int32).toNatClampNeg (some (f 46))) (((0 + 1) + 1) : Int32).toNatClampNeg (some (f 48))) ((((0 + 1) + 1) + 1) : Int32).toNatClampNeg (some (f 50)))))))), ((f 1), .inl (gR G 16, 3, .inr (.inr (.inr (.inr (va_up (va_up (va_up (fun _ => none) (0 : Int32).toNatClampNeg (some (f 52))) ((0 + 1) : Int32).toNatClampNeg (some (f 63))) (((0 + 1) + 1) : Int32).toNatClampNeg (some (f 74)))))))), ((f 2), .inr (0, [.int 0, .int 0, .ref (f 3), .ref (f 4), .ref (f 5), .ref (f 6), .ref (f 7), .ref (f 8), .ref (f 9)])), ((f 3), .inl (gR G 13, 60, .inl (fun _ => 0))), ((f 4), .inl (gR G 13, 60, .inl (fun _ => 0))), ((f 5), .inl (gR G 13, 60, .inl (fun _ => 0))), ((f 6), .inl (gR G 13, 1152, .inl (fun _ => 0))), ((f 7), .inl (gR G 14, 144, .inr (.inl (fun _ => 0)))), ((f 8), .inl (gR G 14, 4, .inr (.inl (fun _ => 0)))), ((f 9), .inl (gR G 13, 144, .inl (fun _ => 0))), ((f 10), .inr (0, [.int 0, .int 0, .ref (f 11), .ref (f 12), .ref (f 13), .ref (f 14), .ref (f 15), .ref (f 16), .ref (f 17)])), ((f 11), .inl (gR G 13, 60, .inl (fun _ => 0))), ((f 12), .inl (gR G 13, 60, .inl (fun _ => 0))), ((f 13), .inl (gR G 13, 60, .inl (fun _ => 0))), ((f 14), .inl (gR G 13, 1152, .inl (fun _ => 0))), ((f 15), .inl (gR G 14, 144, .inr (.inl (fun _ => 0)))), ((f 16), .inl (gR G 14, 4, .inr (.inl (fun _ => 0)))), ((f 17), .inl (gR G 13, 144, .inl (fun _ => 0))), ((f 18), .inr (6, [.int 0, .ref (f 19), .ref (f 20), .ref (f 21), .ref (f 22)])), ((f 19), .inl (gR G 13, 200, .inl (fun _ => 0))), ((f 20), .inl (gR G 13, 200, .inl (fun _ => 0))), ((f 21), .inl (gR G 13, 200, .inl (fun _ => 0))), ((f 22), .inl (gR G 13, 200, .inl (fun _ => 0))), ((f 23), .inr (4, [.int 0, .int 0, .int 0, .ref (f 24), .ref (f 18), .int 0, .int 0, .int 0, .int 0, .int 0, .int 0, .ref (f 25)])), ((f 24), .inl (gR G 12, 700, .inl (fun _ => 0))), ((f 25), .inl (gR G 13, 5, .inl (fun _ => 0))), ((f 26), .inr (3, [.int 0, .int 0, .ref (f 18), .ref (f 10), .int 0, .int 0, .int 0])), ((f 27), .inr (2, [.long 0, .long 0, .int 0, .int 0, .int 0, .int 0, .int 0, .int 0, .int 0, .ref (f 2), .ref (f 28)])), ((f 28), .inl (gR G 13, 120, .inl (fun _ => 0))), ((f 29), .inr (2, [.long 0, .long 0, .int 0, .int 0, .int 0, .int 0, .int 0, .int 0, .int 0, .ref (f 2), .ref (f 30)])), ((f 30), .inl (gR G 13, 120, .inl (fun _ => 0))), ((f 31), .inr (5, [.int 0, .int 0, .int 0, .ref (f 2), .long 0, .long 0, .int 0, .int 0, .ref (f 32), .int 0])), ((f 32), .inl (gR G 13, 120, .inl (fun _ => 0))), ((f 33), .inr (9, [.int 0, .int 0, .ref (f 2), .ref (f 31), .ref (f 34), .ref (f 35), .ref (f 36), .ref (f 37), .int 0, .int 0, .long 0, .long 0])), ((f 34), .inl (gR G 13, 121, .inl (fun _ => 0))), ((f 35), .inl (gR G 14, 121, .inr (.inl (fun _ => 0)))), ((f 36), .inl (gR G 14, 121, .inr (.inl (fun _ => 0)))), ((f 37), .inl (gR G 13, 121, .inl (fun _ => 0))), ((f 38), .inr (7, [.ref (f 2), .ref (f 39), .ref (f 40), .ref (f 41), .int 0, .ref (f 42), .ref (f 43), .int 0])), ((f 39), .inl (gR G 13, 4096, .inl (fun _ => 0))), ((f 40), .inl (gR G 13, 4096, .inl (fun _ => 0))), ((f 41), .inl (gR G 13, 12, .inl (fun _ => 0))), ((f 42), .inl (gR G 13, 6, .inl (fun _ => 0))), ((f 43), .inl (gR G 13, 6, .inl (fun _ => 0))), ((f 44), .inr (8, [.int 0, .int 0, .int 0, .ref (f 45)])), ((f 45), .inl (gR G 14, 40, .inr (.inl (fun _ => 0)))), ((f 46), .inr (8, [.int 0, .int 0, .int 0, .ref (f 47)])), ((f 47), .inl (gR G 14, 40, .inr (.inl (fun _ => 0)))), ((f 48), .inr (8, [.int 0, .int 0, .int 0, .ref (f 49)])), ((f 49), .inl (gR G 14, 40, .inr (.inl (fun _ => 0)))), ((f 50), .inr (8, [.int 0, .int 0, .int 0, .ref (f 51)])), ((f 51), .inl (gR G 14, 40, .inr (.inl (fun _ => 0)))), ((f 52), .inr (1, [.int 0, .ref (f 53), .ref (f 61)])), ((f 53), .inr (0, [.int 0, .int 0, .ref (f 54), .ref (f 55), .ref (f 56), .ref (f 57), .ref (f 58), .ref (f 59), .ref (f 60)])), ((f 54), .inl (gR G 13, 60, .inl (fun _ => 0))), ((f 55), .inl (gR G 13, 60, .inl (fun _ => 0))), ((f 56), .inl (gR G 13, 60, .inl (fun _ => 0))), ((f 57), .inl (gR G 13, 1152, .inl (fun _ => 0))), ((f 58), .inl (gR G 14, 144, .inr (.inl (fun _ => 0)))), ((f 59), .inl (gR G 14, 4, .inr (.inl (fun _ => 0)))), ((f 60), .inl (gR G 13, 144, .inl (fun _ => 0))), ((f 61), .inr (2, [.long 0, .long 0, .int 0, .int 0, .int 0, .int 0, .int 0, .int 0, .int 0, .ref (f 53), .ref (f 62)])), ((f 62), .inl (gR G 13, 120, .inl (fun _ => 0))), ((f 63), .inr (1, [.int 0, .ref (f 64), .ref (f 72)])), ((f 64), .inr (0, [.int 0, .int 0, .ref (f 65), .ref (f 66), .ref (f 67), .ref (f 68), .ref (f 69), .ref (f 70), .ref (f 71)])), ((f 65), .inl (gR G 13, 60, .inl (fun _ => 0))), ((f 66), .inl (gR G 13, 60, .inl (fun _ => 0))), ((f 67), .inl (gR G 13, 60, .inl (fun _ => 0))), ((f 68), .inl (gR G 13, 1152, .inl (fun _ => 0))), ((f 69), .inl (gR G 14, 144, .inr (.inl (fun _ => 0)))), ((f 70), .inl (gR G 14, 4, .inr (.inl (fun _ => 0)))), ((f 71), .inl (gR G 13, 144, .inl (fun _ => 0))), ((f 72), .inr (2, [.long 0, .long 0, .int 0, .int 0, .int 0, .int 0, .int 0, .int 0, .int 0, .ref (f 64), .ref (f 73)])), ((f 73), .inl (gR G 13, 120, .inl (fun _ => 0))), ((f 74), .inr (1, [.int 0, .ref (f 75), .ref (f 83)])), ((f 75), .inr (0, [.int 0, .int 0, .ref (f 76), .ref (f 77), .ref (f 78), .ref (f 79), .ref (f 80), .ref (f 81), .ref (f 82)])), ((f 76), .inl (gR G 13, 60, .inl (fun _ => 0))), ((f 77), .inl (gR G 13, 60, .inl (fun _ => 0))), ((f 78), .inl (gR G 13, 60, .inl (fun _ => 0))), ((f 79), .inl (gR G 13, 1152, .inl (fun _ => 0))), ((f 80), .inl (gR G 14, 144, .inr (.inl (fun _ => 0)))), ((f 81), .inl (gR G 14, 4, .inr (.inl (fun _ => 0)))), ((f 82), .inl (gR G 13, 144, .inl (fun _ => 0))), ((f 83), .inr (2, [.long 0, .long 0, .int 0, .int 0, .int 0, .int 0, .int 0, .int 0, .int 0, .ref (f 75), .ref (f 84)])), ((f 84), .inl (gR G 13, 120, .inl (fun _ => 0))), (m, .inr (11, [.ref (g 0), .ref (g 1), .ref (g 2), .ref (g 3), .ref (g 4), .int 0, .ref (g 5), .int 0, .int 0, .int 0, .int 0, .int 0, .int 0, .int 0, .int 0, .int 0, .int 0, .int (-1), .ref (g 6), .int 0, .ref (g 7), .ref (g 8), .ref (g 9), .ref (g 10), .int 0, .int 0, .int 0, .ref (g 11), .ref (g 12), .int 0, .int 0, .ref (g 13), .ref (g 14), .ref (g 15), .ref (g 16), .ref (g 17), .ref (g 18), .ref (g 19), .int 0, .int 0, .int 0, .ref (g 20), .ref (g 21), .ref (g 22)])), ((g 0), .inl (gR G 13, 512, .inl (fun _ => 0))), ((g 1), .inl (gR G 13, 512, .inl (fun _ => 0))), ((g 2), .inl (gR G 13, 1536, .inl (fun _ => 0))), ((g 3), .inl (gR G 13, 512, .inl (fun _ => 0))), ((g 4), .inl (gR G 15, 3, .inl (fun _ => 0))), ((g 5), .inl (gR G 13, 700, .inl (fun _ => 0))), ((g 6), .inl (gR G 13, 1600, .inl (fun _ => 0))), ((g 7), .inl (gR G 13, 6, .inl (fun _ => 0))), ((g 8), .inl (gR G 13, 6, .inl (fun _ => 0))), ((g 9), .inl (gR G 13, 7, .inl (fun _ => 0))), ((g 10), .inl (gR G 13, 7, .inl (fun _ => 0))), ((g 11), .inl (gR G 15, 60, .inl (fun _ => 0))), ((g 12), .inl (gR G 15, 144, .inl (fun _ => 0))), ((g 13), .inl (gR G 13, 144, .inl (fun _ => 0))), ((g 14), .inl (gR G 13, 6, .inl (fun _ => 0))), ((g 15), .inl (gR G 13, 12, .inl (fun _ => 0))), ((g 16), .inl (gR G 13, 4096, .inl (fun _ => 0))), ((g 17), .inl (gR G 13, 98304, .inl (fun _ => 0))), ((g 18), .inl (gR G 15, 98304, .inl (fun _ => 0))), ((g 19), .inl (gR G 15, 4096, .inl (fun _ => 0))), ((g 20), .inl (gR G 13, 4, .inl (upd (upd (upd (upd (fun _ => 0) (0 : Int32).toNatClampNeg (-1)) (1 : Int32).toNatClampNeg (-1)) (2 : Int32).toNatClampNeg (-1)) (3 : Int32).toNatClampNeg (-1)))), ((g 21), .inl (gR G 13, 4, .inl (fun _ => 0))), ((g 22), .inl (gR G 14, 160, .inr (.inl (fun _ => 0)))), (r, .inl (gR G 14, 1, .inr (.inl (fun _ => 0))))]
theorem wflat (G : GT) (q m r : Nat) (f g : Nat → Nat) : wLw G q m r f g = wF G q m r f g := by
  simp only [wLw, wF, pX10, pX11, pX0, pX1, pX2, pX3, pX4, pX5, pX6, pX7, pX8, pX9, List.cons_append, List.nil_append, List.append_assoc, Nat.reduceAdd]
theorem tray_row (G : GT) (a : Nat → Nat) (h0 : a 0 = gA G 53) (h1 : a 1 = gA G 55) (h2 : a 2 = gA G 57) (h3 : a 3 = gA G 59) : va_up (va_up (va_up (va_up (fun _ => none) (0 : Int32).toNatClampNeg (some (a 0))) ((0 + 1) : Int32).toNatClampNeg (some (a 1))) (((0 + 1) + 1) : Int32).toNatClampNeg (some (a 2))) ((((0 + 1) + 1) + 1) : Int32).toNatClampNeg (some (a 3)) = fun i => (aTray i).map (gA G) := by
  rw [h0, h1, h2, h3, show (0 : Int32).toNatClampNeg = 0 from rfl, show ((0 + 1) : Int32).toNatClampNeg = 1 from rfl, show (((0 + 1) + 1) : Int32).toNatClampNeg = 2 from rfl, show ((((0 + 1) + 1) + 1) : Int32).toNatClampNeg = 3 from rfl]
  funext i
  match i with
  | 0 => rfl
  | 1 => rfl
  | 2 => rfl
  | 3 => rfl
  | i + 4 => simp [va_up, aTray]
theorem img_row (G : GT) (a : Nat → Nat) (h0 : a 0 = gA G 61) (h1 : a 1 = gA G 62) (h2 : a 2 = gA G 63) : va_up (va_up (va_up (fun _ => none) (0 : Int32).toNatClampNeg (some (a 0))) ((0 + 1) : Int32).toNatClampNeg (some (a 1))) (((0 + 1) + 1) : Int32).toNatClampNeg (some (a 2)) = fun i => (aImg i).map (gA G) := by
  rw [h0, h1, h2, show (0 : Int32).toNatClampNeg = 0 from rfl, show ((0 + 1) : Int32).toNatClampNeg = 1 from rfl, show (((0 + 1) + 1) : Int32).toNatClampNeg = 2 from rfl]
  funext i
  match i with
  | 0 => rfl
  | 1 => rfl
  | 2 => rfl
  | i + 3 => simp [va_up, aImg]
abbrev gTo (G : GT) (q m r : Nat) (f g : Nat → Nat) : GT := setA G (fun n => (adL q m r f g).getD n 0)
def cellAt (G : GT) (q m r : Nat) (f g : Nat → Nat) (n : Nat) : Prop := (wF G q m r f g)[pmL.getD n 0]? = some (gA (gTo G q m r f g) n, cel (gTo G q m r f g) P0 n)
theorem cellAt_0 (G : GT) (q m r : Nat) (f g : Nat → Nat) : cellAt G q m r f g 0 := rfl
theorem fls_11 (G : GT) (P : PH) : fls G P 1 (spc 11) = [fvl G P 1 0 (3, 88), fvl G P 1 1 (3, 89), fvl G P 1 2 (3, 90), fvl G P 1 3 (3, 91), fvl G P 1 4 (3, 92), fvl G P 1 5 (0, 0), fvl G P 1 6 (3, 93), fvl G P 1 7 (0, 0), fvl G P 1 8 (0, 0), fvl G P 1 9 (0, 0), fvl G P 1 10 (0, 0), fvl G P 1 11 (0, 0), fvl G P 1 12 (0, 0), fvl G P 1 13 (0, 0), fvl G P 1 14 (0, 0), fvl G P 1 15 (0, 0), fvl G P 1 16 (0, 0), fvl G P 1 17 (0, 0), fvl G P 1 18 (3, 94), fvl G P 1 19 (0, 0), fvl G P 1 20 (3, 95), fvl G P 1 21 (3, 96), fvl G P 1 22 (3, 97), fvl G P 1 23 (3, 98), fvl G P 1 24 (0, 0), fvl G P 1 25 (0, 0), fvl G P 1 26 (0, 0), fvl G P 1 27 (3, 99), fvl G P 1 28 (3, 100), fvl G P 1 29 (0, 0), fvl G P 1 30 (0, 0), fvl G P 1 31 (3, 101), fvl G P 1 32 (3, 102), fvl G P 1 33 (3, 103), fvl G P 1 34 (3, 104), fvl G P 1 35 (3, 105), fvl G P 1 36 (3, 106), fvl G P 1 37 (3, 107), fvl G P 1 38 (0, 0), fvl G P 1 39 (0, 0), fvl G P 1 40 (0, 0), fvl G P 1 41 (3, 108), fvl G P 1 42 (3, 109), fvl G P 1 43 (3, 110)] := by
  unfold fls
  rw [show spc 11 = [(3, 88), (3, 89), (3, 90), (3, 91), (3, 92), (0, 0), (3, 93), (0, 0), (0, 0), (0, 0), (0, 0), (0, 0), (0, 0), (0, 0), (0, 0), (0, 0), (0, 0), (0, 0), (3, 94), (0, 0), (3, 95), (3, 96), (3, 97), (3, 98), (0, 0), (0, 0), (0, 0), (3, 99), (3, 100), (0, 0), (0, 0), (3, 101), (3, 102), (3, 103), (3, 104), (3, 105), (3, 106), (3, 107), (0, 0), (0, 0), (0, 0), (3, 108), (3, 109), (3, 110)] from rfl]
  simp only [List.mapIdx_cons, List.mapIdx_nil, Nat.zero_add, Nat.reduceAdd]
def mLst (g : Nat → Nat) : List Value := [.ref (g 0), .ref (g 1), .ref (g 2), .ref (g 3), .ref (g 4), .int 0, .ref (g 5), .int 0, .int 0, .int 0, .int 0, .int 0, .int 0, .int 0, .int 0, .int 0, .int 0, .int (-1), .ref (g 6), .int 0, .ref (g 7), .ref (g 8), .ref (g 9), .ref (g 10), .int 0, .int 0, .int 0, .ref (g 11), .ref (g 12), .int 0, .int 0, .ref (g 13), .ref (g 14), .ref (g 15), .ref (g 16), .ref (g 17), .ref (g 18), .ref (g 19), .int 0, .int 0, .int 0, .ref (g 20), .ref (g 21), .ref (g 22)]
theorem cons_eq {α : Type} {a b : α} {l k : List α} (h : a = b) (h2 : l = k) : a :: l = b :: k := by rw [h, h2]
theorem cel_1 (G : GT) (q m r : Nat) (f g : Nat → Nat) : cel (gTo G q m r f g) P0 1 = .inr (11, mLst g) := by
  show Sum.inr (11, fls (gTo G q m r f g) P0 1 (spc 11)) = _
  rw [fls_11]
  refine congrArg (fun z => Sum.inr (11, z)) ?_
  unfold mLst
  exact cons_eq rfl (cons_eq rfl (cons_eq rfl (cons_eq rfl (cons_eq rfl (cons_eq rfl (cons_eq rfl (cons_eq rfl (cons_eq rfl (cons_eq rfl (cons_eq rfl (cons_eq rfl (cons_eq rfl (cons_eq rfl (cons_eq rfl (cons_eq rfl (cons_eq rfl (cons_eq rfl (cons_eq rfl (cons_eq rfl (cons_eq rfl (cons_eq rfl (cons_eq rfl (cons_eq rfl (cons_eq rfl (cons_eq rfl (cons_eq rfl (cons_eq rfl (cons_eq rfl (cons_eq rfl (cons_eq rfl (cons_eq rfl (cons_eq rfl (cons_eq rfl (cons_eq rfl (cons_eq rfl (cons_eq rfl (cons_eq rfl (cons_eq rfl (cons_eq rfl (cons_eq rfl (cons_eq rfl (cons_eq rfl (cons_eq rfl (rfl))))))))))))))))))))))))))))))))))))))))))))
theorem cellAt_1 (G : GT) (q m r : Nat) (f g : Nat → Nat) : cellAt G q m r f g 1 := by
  unfold cellAt
  rw [cel_1]
  rfl
theorem cellAt_2 (G : GT) (q m r : Nat) (f g : Nat → Nat) : cellAt G q m r f g 2 := rfl
theorem cellAt_3 (G : GT) (q m r : Nat) (f g : Nat → Nat) : cellAt G q m r f g 3 := rfl
theorem cellAt_4 (G : GT) (q m r : Nat) (f g : Nat → Nat) : cellAt G q m r f g 4 := rfl
theorem cellAt_5 (G : GT) (q m r : Nat) (f g : Nat → Nat) : cellAt G q m r f g 5 := rfl
theorem cellAt_6 (G : GT) (q m r : Nat) (f g : Nat → Nat) : cellAt G q m r f g 6 := rfl
theorem cellAt_7 (G : GT) (q m r : Nat) (f g : Nat → Nat) : cellAt G q m r f g 7 := rfl
theorem cellAt_8 (G : GT) (q m r : Nat) (f g : Nat → Nat) : cellAt G q m r f g 8 := rfl
theorem cellAt_9 (G : GT) (q m r : Nat) (f g : Nat → Nat) : cellAt G q m r f g 9 := rfl
theorem cellAt_10 (G : GT) (q m r : Nat) (f g : Nat → Nat) : cellAt G q m r f g 10 := rfl
theorem cellAt_11 (G : GT) (q m r : Nat) (f g : Nat → Nat) : cellAt G q m r f g 11 := rfl
theorem cellAt_12 (G : GT) (q m r : Nat) (f g : Nat → Nat) : cellAt G q m r f g 12 := rfl
theorem cellAt_13 (G : GT) (q m r : Nat) (f g : Nat → Nat) : cellAt G q m r f g 13 := rfl
theorem cellAt_14 (G : GT) (q m r : Nat) (f g : Nat → Nat) : cellAt G q m r f g 14 := rfl
theorem cellAt_15 (G : GT) (q m r : Nat) (f g : Nat → Nat) : cellAt G q m r f g 15 := rfl
theorem cellAt_16 (G : GT) (q m r : Nat) (f g : Nat → Nat) : cellAt G q m r f g 16 := rfl
theorem cellAt_17 (G : GT) (q m r : Nat) (f g : Nat → Nat) : cellAt G q m r f g 17 := rfl
theorem cellAt_18 (G : GT) (q m r : Nat) (f g : Nat → Nat) : cellAt G q m r f g 18 := rfl
theorem cellAt_19 (G : GT) (q m r : Nat) (f g : Nat → Nat) : cellAt G q m r f g 19 := rfl
theorem cellAt_20 (G : GT) (q m r : Nat) (f g : Nat → Nat) : cellAt G q m r f g 20 := rfl
theorem cellAt_21 (G : GT) (q m r : Nat) (f g : Nat → Nat) : cellAt G q m r f g 21 := rfl
theorem cellAt_22 (G : GT) (q m r : Nat) (f g : Nat → Nat) : cellAt G q m r f g 22 := rfl
theorem cellAt_23 (G : GT) (q m r : Nat) (f g : Nat → Nat) : cellAt G q m r f g 23 := rfl
theorem cellAt_24 (G : GT) (q m r : Nat) (f g : Nat → Nat) : cellAt G q m r f g 24 := rfl
theorem cellAt_25 (G : GT) (q m r : Nat) (f g : Nat → Nat) : cellAt G q m r f g 25 := rfl
theorem cellAt_26 (G : GT) (q m r : Nat) (f g : Nat → Nat) : cellAt G q m r f g 26 := rfl
theorem cellAt_27 (G : GT) (q m r : Nat) (f g : Nat → Nat) : cellAt G q m r f g 27 := rfl
theorem cellAt_28 (G : GT) (q m r : Nat) (f g : Nat → Nat) : cellAt G q m r f g 28 := rfl
theorem cellAt_29 (G : GT) (q m r : Nat) (f g : Nat → Nat) : cellAt G q m r f g 29 := rfl
theorem cellAt_30 (G : GT) (q m r : Nat) (f g : Nat → Nat) : cellAt G q m r f g 30 := rfl
theorem cellAt_31 (G : GT) (q m r : Nat) (f g : Nat → Nat) : cellAt G q m r f g 31 := rfl
theorem cellAt_32 (G : GT) (q m r : Nat) (f g : Nat → Nat) : cellAt G q m r f g 32 := rfl
theorem cellAt_33 (G : GT) (q m r : Nat) (f g : Nat → Nat) : cellAt G q m r f g 33 := rfl
theorem cellAt_34 (G : GT) (q m r : Nat) (f g : Nat → Nat) : cellAt G q m r f g 34 := rfl
theorem cellAt_35 (G : GT) (q m r : Nat) (f g : Nat → Nat) : cellAt G q m r f g 35 := rfl
theorem cellAt_36 (G : GT) (q m r : Nat) (f g : Nat → Nat) : cellAt G q m r f g 36 := rfl
theorem cellAt_37 (G : GT) (q m r : Nat) (f g : Nat → Nat) : cellAt G q m r f g 37 := rfl
theorem cellAt_38 (G : GT) (q m r : Nat) (f g : Nat → Nat) : cellAt G q m r f g 38 := rfl
theorem cellAt_39 (G : GT) (q m r : Nat) (f g : Nat → Nat) : cellAt G q m r f g 39 := rfl
theorem cellAt_40 (G : GT) (q m r : Nat) (f g : Nat → Nat) : cellAt G q m r f g 40 := rfl
theorem cellAt_41 (G : GT) (q m r : Nat) (f g : Nat → Nat) : cellAt G q m r f g 41 := rfl
theorem cellAt_42 (G : GT) (q m r : Nat) (f g : Nat → Nat) : cellAt G q m r f g 42 := rfl
theorem cellAt_43 (G : GT) (q m r : Nat) (f g : Nat → Nat) : cellAt G q m r f g 43 := rfl
theorem cellAt_44 (G : GT) (q m r : Nat) (f g : Nat → Nat) : cellAt G q m r f g 44 := rfl
theorem cellAt_45 (G : GT) (q m r : Nat) (f g : Nat → Nat) : cellAt G q m r f g 45 := rfl
theorem cellAt_46 (G : GT) (q m r : Nat) (f g : Nat → Nat) : cellAt G q m r f g 46 := rfl
theorem cellAt_47 (G : GT) (q m r : Nat) (f g : Nat → Nat) : cellAt G q m r f g 47 := rfl
theorem cellAt_48 (G : GT) (q m r : Nat) (f g : Nat → Nat) : cellAt G q m r f g 48 := rfl
theorem cellAt_49 (G : GT) (q m r : Nat) (f g : Nat → Nat) : cellAt G q m r f g 49 := rfl
theorem cellAt_50 (G : GT) (q m r : Nat) (f g : Nat → Nat) : cellAt G q m r f g 50 := rfl
theorem cellAt_51 (G : GT) (q m r : Nat) (f g : Nat → Nat) : cellAt G q m r f g 51 := rfl
theorem cellAt_52 (G : GT) (q m r : Nat) (f g : Nat → Nat) : cellAt G q m r f g 52 := rfl
theorem cellAt_53 (G : GT) (q m r : Nat) (f g : Nat → Nat) : cellAt G q m r f g 53 := rfl
theorem cellAt_54 (G : GT) (q m r : Nat) (f g : Nat → Nat) : cellAt G q m r f g 54 := rfl
theorem cellAt_55 (G : GT) (q m r : Nat) (f g : Nat → Nat) : cellAt G q m r f g 55 := rfl
theorem cellAt_56 (G : GT) (q m r : Nat) (f g : Nat → Nat) : cellAt G q m r f g 56 := rfl
theorem cellAt_57 (G : GT) (q m r : Nat) (f g : Nat → Nat) : cellAt G q m r f g 57 := rfl
theorem cellAt_58 (G : GT) (q m r : Nat) (f g : Nat → Nat) : cellAt G q m r f g 58 := rfl
theorem cellAt_59 (G : GT) (q m r : Nat) (f g : Nat → Nat) : cellAt G q m r f g 59 := rfl
theorem cellAt_60 (G : GT) (q m r : Nat) (f g : Nat → Nat) : cellAt G q m r f g 60 := rfl
theorem cellAt_61 (G : GT) (q m r : Nat) (f g : Nat → Nat) : cellAt G q m r f g 61 := rfl
theorem cellAt_62 (G : GT) (q m r : Nat) (f g : Nat → Nat) : cellAt G q m r f g 62 := rfl
theorem cellAt_63 (G : GT) (q m r : Nat) (f g : Nat → Nat) : cellAt G q m r f g 63 := rfl
theorem cellAt_64 (G : GT) (q m r : Nat) (f g : Nat → Nat) : cellAt G q m r f g 64 := by
  have h := tray_row (gTo G q m r f g) (fun i => f (44 + 2 * i)) rfl rfl rfl rfl
  show some (f 0, Sum.inl (gR G 17, 4, Sum.inr (Sum.inr (Sum.inr (Sum.inr _))))) = some (f 0, Sum.inl (gR G 17, 4, Sum.inr (Sum.inr (Sum.inr (Sum.inr (fun i => (aTray i).map (gA (gTo G q m r f g))))))))
  exact congrArg (fun z => some (f 0, Sum.inl (gR G 17, 4, Sum.inr (Sum.inr (Sum.inr (Sum.inr z)))))) h
theorem cellAt_65 (G : GT) (q m r : Nat) (f g : Nat → Nat) : cellAt G q m r f g 65 := by
  have h := img_row (gTo G q m r f g) (fun i => f (52 + 11 * i)) rfl rfl rfl
  show some (f 1, Sum.inl (gR G 16, 3, Sum.inr (Sum.inr (Sum.inr (Sum.inr _))))) = some (f 1, Sum.inl (gR G 16, 3, Sum.inr (Sum.inr (Sum.inr (Sum.inr (fun i => (aImg i).map (gA (gTo G q m r f g))))))))
  exact congrArg (fun z => some (f 1, Sum.inl (gR G 16, 3, Sum.inr (Sum.inr (Sum.inr (Sum.inr z)))))) h
theorem cellAt_66 (G : GT) (q m r : Nat) (f g : Nat → Nat) : cellAt G q m r f g 66 := rfl
theorem cellAt_67 (G : GT) (q m r : Nat) (f g : Nat → Nat) : cellAt G q m r f g 67 := rfl
theorem cellAt_68 (G : GT) (q m r : Nat) (f g : Nat → Nat) : cellAt G q m r f g 68 := rfl
theorem cellAt_69 (G : GT) (q m r : Nat) (f g : Nat → Nat) : cellAt G q m r f g 69 := rfl
theorem cellAt_70 (G : GT) (q m r : Nat) (f g : Nat → Nat) : cellAt G q m r f g 70 := rfl
theorem cellAt_71 (G : GT) (q m r : Nat) (f g : Nat → Nat) : cellAt G q m r f g 71 := rfl
theorem cellAt_72 (G : GT) (q m r : Nat) (f g : Nat → Nat) : cellAt G q m r f g 72 := rfl
theorem cellAt_73 (G : GT) (q m r : Nat) (f g : Nat → Nat) : cellAt G q m r f g 73 := rfl
theorem cellAt_74 (G : GT) (q m r : Nat) (f g : Nat → Nat) : cellAt G q m r f g 74 := rfl
theorem cellAt_75 (G : GT) (q m r : Nat) (f g : Nat → Nat) : cellAt G q m r f g 75 := rfl
theorem cellAt_76 (G : GT) (q m r : Nat) (f g : Nat → Nat) : cellAt G q m r f g 76 := rfl
theorem cellAt_77 (G : GT) (q m r : Nat) (f g : Nat → Nat) : cellAt G q m r f g 77 := rfl
theorem cellAt_78 (G : GT) (q m r : Nat) (f g : Nat → Nat) : cellAt G q m r f g 78 := rfl
theorem cellAt_79 (G : GT) (q m r : Nat) (f g : Nat → Nat) : cellAt G q m r f g 79 := rfl
theorem cellAt_80 (G : GT) (q m r : Nat) (f g : Nat → Nat) : cellAt G q m r f g 80 := rfl
theorem cellAt_81 (G : GT) (q m r : Nat) (f g : Nat → Nat) : cellAt G q m r f g 81 := rfl
theorem cellAt_82 (G : GT) (q m r : Nat) (f g : Nat → Nat) : cellAt G q m r f g 82 := rfl
theorem cellAt_83 (G : GT) (q m r : Nat) (f g : Nat → Nat) : cellAt G q m r f g 83 := rfl
theorem cellAt_84 (G : GT) (q m r : Nat) (f g : Nat → Nat) : cellAt G q m r f g 84 := rfl
theorem cellAt_85 (G : GT) (q m r : Nat) (f g : Nat → Nat) : cellAt G q m r f g 85 := rfl
theorem cellAt_86 (G : GT) (q m r : Nat) (f g : Nat → Nat) : cellAt G q m r f g 86 := rfl
theorem cellAt_87 (G : GT) (q m r : Nat) (f g : Nat → Nat) : cellAt G q m r f g 87 := rfl
theorem cellAt_88 (G : GT) (q m r : Nat) (f g : Nat → Nat) : cellAt G q m r f g 88 := rfl
theorem cellAt_89 (G : GT) (q m r : Nat) (f g : Nat → Nat) : cellAt G q m r f g 89 := rfl
theorem cellAt_90 (G : GT) (q m r : Nat) (f g : Nat → Nat) : cellAt G q m r f g 90 := rfl
theorem cellAt_91 (G : GT) (q m r : Nat) (f g : Nat → Nat) : cellAt G q m r f g 91 := rfl
theorem cellAt_92 (G : GT) (q m r : Nat) (f g : Nat → Nat) : cellAt G q m r f g 92 := rfl
theorem cellAt_93 (G : GT) (q m r : Nat) (f g : Nat → Nat) : cellAt G q m r f g 93 := rfl
theorem cellAt_94 (G : GT) (q m r : Nat) (f g : Nat → Nat) : cellAt G q m r f g 94 := rfl
theorem cellAt_95 (G : GT) (q m r : Nat) (f g : Nat → Nat) : cellAt G q m r f g 95 := rfl
theorem cellAt_96 (G : GT) (q m r : Nat) (f g : Nat → Nat) : cellAt G q m r f g 96 := rfl
theorem cellAt_97 (G : GT) (q m r : Nat) (f g : Nat → Nat) : cellAt G q m r f g 97 := rfl
theorem cellAt_98 (G : GT) (q m r : Nat) (f g : Nat → Nat) : cellAt G q m r f g 98 := rfl
theorem cellAt_99 (G : GT) (q m r : Nat) (f g : Nat → Nat) : cellAt G q m r f g 99 := rfl
theorem cellAt_100 (G : GT) (q m r : Nat) (f g : Nat → Nat) : cellAt G q m r f g 100 := rfl
theorem cellAt_101 (G : GT) (q m r : Nat) (f g : Nat → Nat) : cellAt G q m r f g 101 := rfl
theorem cellAt_102 (G : GT) (q m r : Nat) (f g : Nat → Nat) : cellAt G q m r f g 102 := rfl
theorem cellAt_103 (G : GT) (q m r : Nat) (f g : Nat → Nat) : cellAt G q m r f g 103 := rfl
theorem cellAt_104 (G : GT) (q m r : Nat) (f g : Nat → Nat) : cellAt G q m r f g 104 := rfl
theorem cellAt_105 (G : GT) (q m r : Nat) (f g : Nat → Nat) : cellAt G q m r f g 105 := rfl
theorem cellAt_106 (G : GT) (q m r : Nat) (f g : Nat → Nat) : cellAt G q m r f g 106 := rfl
theorem cellAt_107 (G : GT) (q m r : Nat) (f g : Nat → Nat) : cellAt G q m r f g 107 := rfl
theorem cellAt_108 (G : GT) (q m r : Nat) (f g : Nat → Nat) : cellAt G q m r f g 108 := rfl
theorem cellAt_109 (G : GT) (q m r : Nat) (f g : Nat → Nat) : cellAt G q m r f g 109 := rfl
theorem cellAt_110 (G : GT) (q m r : Nat) (f g : Nat → Nat) : cellAt G q m r f g 110 := rfl
theorem cellAt_all (G : GT) (q m r : Nat) (f g : Nat → Nat) : ∀ n, n < 111 → cellAt G q m r f g n := fun n hn => match n, hn with
  | 0, _ => cellAt_0 G q m r f g
  | 1, _ => cellAt_1 G q m r f g
  | 2, _ => cellAt_2 G q m r f g
  | 3, _ => cellAt_3 G q m r f g
  | 4, _ => cellAt_4 G q m r f g
  | 5, _ => cellAt_5 G q m r f g
  | 6, _ => cellAt_6 G q m r f g
  | 7, _ => cellAt_7 G q m r f g
  | 8, _ => cellAt_8 G q m r f g
  | 9, _ => cellAt_9 G q m r f g
  | 10, _ => cellAt_10 G q m r f g
  | 11, _ => cellAt_11 G q m r f g
  | 12, _ => cellAt_12 G q m r f g
  | 13, _ => cellAt_13 G q m r f g
  | 14, _ => cellAt_14 G q m r f g
  | 15, _ => cellAt_15 G q m r f g
  | 16, _ => cellAt_16 G q m r f g
  | 17, _ => cellAt_17 G q m r f g
  | 18, _ => cellAt_18 G q m r f g
  | 19, _ => cellAt_19 G q m r f g
  | 20, _ => cellAt_20 G q m r f g
  | 21, _ => cellAt_21 G q m r f g
  | 22, _ => cellAt_22 G q m r f g
  | 23, _ => cellAt_23 G q m r f g
  | 24, _ => cellAt_24 G q m r f g
  | 25, _ => cellAt_25 G q m r f g
  | 26, _ => cellAt_26 G q m r f g
  | 27, _ => cellAt_27 G q m r f g
  | 28, _ => cellAt_28 G q m r f g
  | 29, _ => cellAt_29 G q m r f g
  | 30, _ => cellAt_30 G q m r f g
  | 31, _ => cellAt_31 G q m r f g
  | 32, _ => cellAt_32 G q m r f g
  | 33, _ => cellAt_33 G q m r f g
  | 34, _ => cellAt_34 G q m r f g
  | 35, _ => cellAt_35 G q m r f g
  | 36, _ => cellAt_36 G q m r f g
  | 37, _ => cellAt_37 G q m r f g
  | 38, _ => cellAt_38 G q m r f g
  | 39, _ => cellAt_39 G q m r f g
  | 40, _ => cellAt_40 G q m r f g
  | 41, _ => cellAt_41 G q m r f g
  | 42, _ => cellAt_42 G q m r f g
  | 43, _ => cellAt_43 G q m r f g
  | 44, _ => cellAt_44 G q m r f g
  | 45, _ => cellAt_45 G q m r f g
  | 46, _ => cellAt_46 G q m r f g
  | 47, _ => cellAt_47 G q m r f g
  | 48, _ => cellAt_48 G q m r f g
  | 49, _ => cellAt_49 G q m r f g
  | 50, _ => cellAt_50 G q m r f g
  | 51, _ => cellAt_51 G q m r f g
  | 52, _ => cellAt_52 G q m r f g
  | 53, _ => cellAt_53 G q m r f g
  | 54, _ => cellAt_54 G q m r f g
  | 55, _ => cellAt_55 G q m r f g
  | 56, _ => cellAt_56 G q m r f g
  | 57, _ => cellAt_57 G q m r f g
  | 58, _ => cellAt_58 G q m r f g
  | 59, _ => cellAt_59 G q m r f g
  | 60, _ => cellAt_60 G q m r f g
  | 61, _ => cellAt_61 G q m r f g
  | 62, _ => cellAt_62 G q m r f g
  | 63, _ => cellAt_63 G q m r f g
  | 64, _ => cellAt_64 G q m r f g
  | 65, _ => cellAt_65 G q m r f g
  | 66, _ => cellAt_66 G q m r f g
  | 67, _ => cellAt_67 G q m r f g
  | 68, _ => cellAt_68 G q m r f g
  | 69, _ => cellAt_69 G q m r f g
  | 70, _ => cellAt_70 G q m r f g
  | 71, _ => cellAt_71 G q m r f g
  | 72, _ => cellAt_72 G q m r f g
  | 73, _ => cellAt_73 G q m r f g
  | 74, _ => cellAt_74 G q m r f g
  | 75, _ => cellAt_75 G q m r f g
  | 76, _ => cellAt_76 G q m r f g
  | 77, _ => cellAt_77 G q m r f g
  | 78, _ => cellAt_78 G q m r f g
  | 79, _ => cellAt_79 G q m r f g
  | 80, _ => cellAt_80 G q m r f g
  | 81, _ => cellAt_81 G q m r f g
  | 82, _ => cellAt_82 G q m r f g
  | 83, _ => cellAt_83 G q m r f g
  | 84, _ => cellAt_84 G q m r f g
  | 85, _ => cellAt_85 G q m r f g
  | 86, _ => cellAt_86 G q m r f g
  | 87, _ => cellAt_87 G q m r f g
  | 88, _ => cellAt_88 G q m r f g
  | 89, _ => cellAt_89 G q m r f g
  | 90, _ => cellAt_90 G q m r f g
  | 91, _ => cellAt_91 G q m r f g
  | 92, _ => cellAt_92 G q m r f g
  | 93, _ => cellAt_93 G q m r f g
  | 94, _ => cellAt_94 G q m r f g
  | 95, _ => cellAt_95 G q m r f g
  | 96, _ => cellAt_96 G q m r f g
  | 97, _ => cellAt_97 G q m r f g
  | 98, _ => cellAt_98 G q m r f g
  | 99, _ => cellAt_99 G q m r f g
  | 100, _ => cellAt_100 G q m r f g
  | 101, _ => cellAt_101 G q m r f g
  | 102, _ => cellAt_102 G q m r f g
  | 103, _ => cellAt_103 G q m r f g
  | 104, _ => cellAt_104 G q m r f g
  | 105, _ => cellAt_105 G q m r f g
  | 106, _ => cellAt_106 G q m r f g
  | 107, _ => cellAt_107 G q m r f g
  | 108, _ => cellAt_108 G q m r f g
  | 109, _ => cellAt_109 G q m r f g
  | 110, _ => cellAt_110 G q m r f g
  | n + 111, h => absurd h (by omega)
theorem mocL_10 {G : GT} {l : Launch} (hG : GOK G l) : MOK G yX10_init miX10_init 0 := ⟨gwd hG (.code yX10_init cX10_init 3 none) (tm_1 (List.mem_of_getElem? (i := 33) rfl)) rfl, gwd hG _ (tm_1 (List.mem_of_getElem? (i := 1) rfl)) rfl, ⟨by decide +kernel, by decide +kernel⟩, by decide +kernel, (Nat.le_of_ble_eq_true rfl)⟩
theorem ciL_122 {G : GT} {l : Launch} (hG : GOK G l) : CIK G RL 122 yX10_init miX10_init 0 := ⟨gwd hG _ (tm_1 (List.mem_of_getElem? (i := 31) rfl)) rfl, gwd hG _ (tm_1 (List.mem_of_getElem? (i := 32) rfl)) rfl, mocL_10 hG, rfl, rfl⟩
theorem mocL_11 {G : GT} {l : Launch} (hG : GOK G l) : MOK G yX11_init miX11_init 0 := ⟨gwd hG (.code yX11_init cX11_init 1 none) (tm_6 (List.mem_of_getElem? (i := 237) rfl)) rfl, gwd hG _ (tm_1 (List.mem_of_getElem? (i := 12) rfl)) rfl, ⟨by decide +kernel, by decide +kernel⟩, by decide +kernel, (Nat.le_of_ble_eq_true rfl)⟩
theorem ciL_125 {G : GT} {l : Launch} (hG : GOK G l) : CIK G RL 125 yX11_init miX11_init 0 := ⟨gwd hG _ (tm_6 (List.mem_of_getElem? (i := 235) rfl)) rfl, gwd hG _ (tm_6 (List.mem_of_getElem? (i := 236) rfl)) rfl, mocL_11 hG, rfl, rfl⟩
section LAW0
variable {G : GT} {l : Launch}
theorem law_tail (hG : GOK G l) {q m r : Nat} {f g : Nat → Nat} (hD : va_D (gF G) ([] ++ wLw G q m r f g)) {P' : PH} (hm : Lw_law_23 (gL G) (gX G) 513 0 P0 = some ((1 : Int32), P')) :
    SemW G l miL_law 2052 12312 (fun _ : Unit => QF G) 23 [(4, .int 0), (3, .ref r), (2, .ref m), (1, .ref q), (0, .ref (gB G))] [] ([] ++ wLw G q m r f g) (some ()) := by
  have hat : ∀ n, n < 111 → (wLw G q m r f g)[pmL.getD n 0]? = some (gA (gTo G q m r f g) n, cel (gTo G q m r f g) P0 n) := fun n hn => by rw [wflat]; exact cellAt_all G q m r f g n hn
  have inj : ∀ i, i < 111 → ∀ j, j < 111 → pmL.getD i 0 = pmL.getD j 0 → i = j := by decide +kernel
  have hG1 : GOK (gTo G q m r f g) l := setA_ok hG (fun i j hi hj h => inj i hi j hj (hD.1 _ _ _ _ (hat i hi) (hat j hj) h)) (fun i hi => hD.2 _ _ (hat i hi))
  have hsem := Lw_law_23_sem hG1 513 0 P0
  intro p e R s mm args below meth c hM H locs cells slots mc ms ls hP hS hl h1 h2 h3 h4 z hz
  have hM1 : MC (gTo G q m r f g) l miL_law p R s mm meth c := ⟨hG1, hM.2⟩
  have hP1 : va_P (gD G) vwCl (wsOf (gTo G q m r f g) P0) H := by
    intro k x hx
    rcases Nat.lt_or_ge k 111 with hk | hk
    · rw [ws_at hk] at hx
      cases hx
      exact hP _ _ (hat k hk)
    · rw [List.getElem?_eq_none (by simpa [wsOf] using hk)] at hx
      cases hx
  have hl1 : lv_has ls miL_law.2.1 [(0, .ref (gB G)), (1, .ref q), (2, .ref m), (3, .ref r), (4, .int 0)] := lv_sub hl [4, 3, 2, 1, 0] rfl
  have hW := hsem p e R s mm args below meth c hM1 H locs cells slots mc ms ls hP1 hS hl1 (by omega) (by omega) h3 h4 ((1 : Int32), P') hm
  intro T hT X
  obtain ⟨t, a1, o, b1, b2, b3⟩ := hW T hT X
  refine ⟨t, a1, o, b1, b2, ?_⟩
  rcases b3 with ⟨⟨v, hv, ho, -, hF⟩, b4⟩ | ⟨q9, -, E, ce, L9, ⟨hv, -⟩, -⟩
  · cases hv
    exact Or.inl ⟨⟨ho, hF⟩, b4⟩
  · cases hv
set_option maxRecDepth 100000 in
set_option maxHeartbeats 4000000 in
theorem law_sem (hG : GOK G l) (hATray : va_AO "BothSides$Tray" (gS G)) (hAmage : va_AO "BothSides$Image" (gS G)) (hm : ∃ P', Lw_law_23 (gL G) (gX G) 513 0 P0 = some ((1 : Int32), P')) (hD : va_D (gF G) ([] ++ [])) : SemW G l miL_law 601024 7293034 (fun _ : Unit => QF G) 0 [(0, .ref (gB G))] [] ([] ++ []) (some ()) := by
  obtain ⟨P', hm⟩ := hm
  refine s_budget (k2 := 2163) (n2 := 242496) (by decide) (by decide) ?_
  refine c_new (k := 2162) (n := 242483) (pc := 0) (t2 := fun q => [(q, .inr (10, [.int 0, .int 0, .null, .null, .null, .null, .null, .null, .null, .null, .null, .null, .null]))]) 10 13 [.int 0, .int 0, .null, .null, .null, .null, .null, .null, .null, .null, .null, .null, .null] hD dL_law_0 (gwd hG _ (tm_1 (List.mem_of_getElem? (i := 29) rfl)) rfl) (gwd hG _ (tm_1 (List.mem_of_getElem? (i := 30) rfl)) rfl) (gwd hG _ (tm_1 (List.mem_of_getElem? (i := 1) rfl)) rfl) (cwX10 hG) tyX10_ok rfl df_10 (fun _ => rfl) rfl rfl (fun q hD => ?_)
  refine s_dup (pc := 3) dL_law_3 rfl ?_
  refine c_init (k := 2077) (n := 223092) (pc := 4) (post := pX10 G) (t2 := fun f => pX10 G q f) [] [] hD dL_law_4 (ciL_122 hG) (by decide) rfl (cX10_ok hG hATray hAmage) rfl rfl (Nat.le_of_ble_eq_true rfl) rfl rfl (fun _ => rfl) (fun f hD => ?_)
  refine s_astore_n (pc := 7) [(1, .ref q), (0, .ref (gB G))] dL_law_7 rfl (by decide) rfl ?_
  refine c_new (k := 2076) (n := 223048) (pc := 8) (t2 := fun m => pX10 G q f ++ [(m, .inr (11, [.null, .null, .null, .null, .null, .int 0, .null, .int 0, .int 0, .int 0, .int 0, .int 0, .int 0, .int 0, .int 0, .int 0, .int 0, .int 0, .null, .int 0, .null, .null, .null, .null, .int 0, .int 0, .int 0, .null, .null, .int 0, .int 0, .null, .null, .null, .null, .null, .null, .null, .int 0, .int 0, .int 0, .null, .null, .null]))]) 11 44 [.null, .null, .null, .null, .null, .int 0, .null, .int 0, .int 0, .int 0, .int 0, .int 0, .int 0, .int 0, .int 0, .int 0, .int 0, .int 0, .null, .int 0, .null, .null, .null, .null, .int 0, .int 0, .int 0, .null, .null, .int 0, .int 0, .null, .null, .null, .null, .null, .null, .null, .int 0, .int 0, .int 0, .null, .null, .null] hD dL_law_8 (gwd hG _ (tm_6 (List.mem_of_getElem? (i := 233) rfl)) rfl) (gwd hG _ (tm_6 (List.mem_of_getElem? (i := 234) rfl)) rfl) (gwd hG _ (tm_1 (List.mem_of_getElem? (i := 12) rfl)) rfl) (cwX11 hG) tyX11_ok rfl df_11 (fun _ => rfl) rfl rfl (fun m hD => ?_)
  refine s_dup (pc := 11) dL_law_11 rfl ?_
  refine c_init (k := 2053) (n := 12313) (pc := 12) (post := pX11 G) (t2 := fun g => pX10 G q f ++ pX11 G m g) [] (pX10 G q f) hD dL_law_12 (ciL_125 hG) (by decide) rfl (cX11_ok hG) rfl rfl (Nat.le_of_ble_eq_true rfl) rfl rfl (fun _ => rfl) (fun g hD => ?_)
  refine s_astore_n (pc := 15) [(2, .ref m), (1, .ref q), (0, .ref (gB G))] dL_law_15 rfl (by decide) rfl ?_
  refine s_iconst (pc := 16) (v := 1) dL_law_16 rfl ?_
  refine c_newL (k := 2052) (n := 12312) (pc := 17) (t2 := fun r => wLw G q m r f g) 1 hD dL_law_17 (ac_long hG) rfl (by decide) (fun _ => rfl) rfl rfl (fun r hD => ?_)
  refine s_astore_n (pc := 19) [(3, .ref r), (2, .ref m), (1, .ref q), (0, .ref (gB G))] dL_law_19 rfl (by decide) rfl ?_
  refine s_iconst (pc := 20) (v := 0) dL_law_20 rfl ?_
  refine s_istore (pc := 21) [(4, .int 0), (3, .ref r), (2, .ref m), (1, .ref q), (0, .ref (gB G))] dL_law_21 (by decide) rfl ?_
  exact law_tail hG hD hm
end LAW0
/-! the claim's start out of the pure law -/
theorem same_forget {s t : State} {L : List Loc} {k n : Nat} (h : s.sameButNew t L k n) (hL : ∀ q ∈ L, s.heap.size ≤ q.base) : s.sameButNew t [] k n := by
  obtain ⟨h1, h2, h3, h4, h5, h6⟩ := h
  refine ⟨h1, h2, h3, h4, h5, fun a c hc => ?_⟩
  obtain ⟨c', g1, g2, g3, g4⟩ := h6 a c hc
  refine ⟨c', g1, g2, g3, fun i _ => g4 i (fun hm => ?_)⟩
  have := hL _ hm
  exact absurd (Array.getElem?_eq_some_iff.mp hc).1 (Nat.not_lt.mpr this)
theorem whole_of (hm : ∀ (L : Nat) (xs : Nat → Int32), L ≤ 3072 → ∃ P', Lw_law_23 L xs 513 0 P0 = some ((1 : Int32), P')) {p : Program} {e : Env} {s : State} {m : MethodId} {below : List Frame} {meth : Method} {c : Code} (l : Launch) (hflags : l.flags = flags0) {b L : Nat} {xs : Nat → Int32} (hL : L ≤ 3072)
    (hx : p.tables.exec = Jvm.exec) (hb : c.code = code) (hr : meth.sig.returnType = ret) (hml : c.maxLocals = 8) (hown : s.vm.findClass RL = some m.cls) (hts : ∀ w ∈ lw_tbl, w.before #[Value.ref b] s = true) (hX : va_X b L xs s s.heap) (hbl : b < s.heap.size) (hlocks : meth.locks = false) (hgv : (Jvm.Cond.and given_1 narrow_1).before #[Value.ref b] s = true) (hxt : ∀ x ∈ c.exceptionTable.toList, False) :
    W p l e room_1 s m #[Value.ref b] below meth c s.heap [] 0 0 (fun t => ∃ o, t.status = .running ∧ Ended t below o ∧ o = .returned (some (.int 1)) ∧ Framed s o t [] 601024 7293034) (entryFrame m ([Value.ref b] : List Value).toArray 8) := by
  obtain ⟨G, rfl, rfl, rfl, rfl, hG, hAT, hAI⟩ := start_ok hflags hL hts hX hbl hgv
  have hMC : MC G l miL_law p room_1 (gS G) m meth c := ⟨hG, hx, hb, hml, hown, hlocks, hr, ⟨State.WarmedH.refl _, Nat.le_refl _, fun _ _ => rfl⟩, by decide, by decide, List.eq_nil_iff_forall_not_mem.mpr (fun x hm => hxt x hm), fun h => absurd h (by decide)⟩
  have hl := lv_entry ([.ref (gB G)]) (n := 8) (Nat.le_of_ble_eq_true rfl)
  rw [lg_entry_eq]
  generalize (lg_sl ([.ref (gB G)]) ++ List.replicate (8 - (lg_sl ([.ref (gB G)])).length) Slot.unset).toArray = ls at hl ⊢
  have hl : lv_has ls 8 [(0, .ref (gB G))] := hl
  have h0 : va_D (gF G) ([] ++ []) := ⟨fun i j p q h => by simp at h, fun k q h => by simp at h⟩
  have hW := law_sem hG hAT hAI (hm _ _ hL) h0 p e room_1 (gS G) m #[Value.ref (gB G)] below meth c hMC (gS G).heap [] 0 0 601024 7293034 ls (fun k q h => by simp at h) va_S.rf hl (by decide) (by decide) (Nat.le_refl _) (Nat.le_refl _) () rfl
  intro T hT X
  obtain ⟨t, a1, o, b1, b2, b3⟩ := hW T hT X
  refine ⟨t, a1, o, b1, b2, ?_⟩
  rcases b3 with ⟨⟨ho, -⟩, L9, ⟨f1, f2, f3⟩, f4⟩ | ⟨q9, -, E, ce, L9, hv, -⟩
  · exact ⟨ho, f1, f2, same_forget f3 f4⟩
  · exact absurd hv (fun z => z)
