/-! THE PURE HEAP. Cells have names 0 to 110; what they hold: ints (also bytes, booleans) and longs by name and place; references never change once the constructors are through. -/
abbrev PH : Type := (Nat → Nat → Int32) × (Nat → Nat → Int64)
def u2 {α : Type} (f : Nat → Nat → α) (n k : Nat) (v : α) : Nat → Nat → α := fun a b => if a = n ∧ b = k then v else f a b
def sI (P : PH) (n k : Nat) (v : Int32) : PH := (u2 P.1 n k v, P.2)
def sL (P : PH) (n k : Nat) (v : Int64) : PH := (P.1, u2 P.2 n k v)
/-- a row as a whole -/
def rI (P : PH) (n : Nat) (f : Nat → Int32) : PH := (fun a => if a = n then f else P.1 a, P.2)
def rL (P : PH) (n : Nat) (f : Nat → Int64) : PH := (P.1, fun a => if a = n then f else P.2 a)
theorem u2_row {α : Type} (f : Nat → Nat → α) (n k : Nat) (v : α) : u2 f n k v n = fun j => if j = k then v else f n j := by
  funext j
  simp [u2]
theorem u2_off {α : Type} (f : Nat → Nat → α) {n k a : Nat} (v : α) (h : a ≠ n) : u2 f n k v a = f a := by
  funext j
  simp [u2, h]
theorem u2_s {α : Type} (f : Nat → Nat → α) (n k : Nat) (v : α) : u2 f n k v n k = v := by simp [u2]
theorem u2_n {α : Type} (f : Nat → Nat → α) {n k a b : Nat} (v : α) (h : ¬ (a = n ∧ b = k)) : u2 f n k v a b = f a b := by simp [u2, h]
/-- the world: the law's start, the classes' numbers and slots, the cells' addresses, the array classes, the texts' addresses (objects, bytes), the static rows' addresses, the script -/
abbrev GT : Type := State × (Nat → ClassId) × (Nat → Nat → Nat) × (Nat → Nat) × (Nat → ClassId) × (Nat → Nat) × (Nat → Nat) × Nat × Nat × Nat × Nat × (Nat → Int32)
abbrev gS (G : GT) : State := G.1
abbrev gD (G : GT) : va_G := (G.2.1, G.2.2.1)
abbrev gA (G : GT) : Nat → Nat := G.2.2.2.1
abbrev gR (G : GT) : Nat → ClassId := G.2.2.2.2.1
abbrev gK (G : GT) : Nat → Nat := G.2.2.2.2.2.1
abbrev gV (G : GT) : Nat → Nat := G.2.2.2.2.2.2.1
abbrev gEa (G : GT) : Nat := G.2.2.2.2.2.2.2.1
abbrev gNo (G : GT) : Nat := G.2.2.2.2.2.2.2.2.1
abbrev gB (G : GT) : Nat := G.2.2.2.2.2.2.2.2.2.1
abbrev gL (G : GT) : Nat := G.2.2.2.2.2.2.2.2.2.2.1
abbrev gX (G : GT) : Nat → Int32 := G.2.2.2.2.2.2.2.2.2.2.2
/-- what a method may write: what wasn't there at the law's start -/
def gF (G : GT) : Nat → Prop := fun q => G.1.heap.size ≤ q
/-- kinds and lengths by names -/
def shl : List (Nat × Nat) :=
  [(10, 0), (11, 0), (14, 1),
   (0, 0), (13, 60), (13, 60), (13, 60), (13, 1152), (14, 144), (14, 4), (13, 144),
   (0, 0), (13, 60), (13, 60), (13, 60), (13, 1152), (14, 144), (14, 4), (13, 144),
   (0, 0), (13, 60), (13, 60), (13, 60), (13, 1152), (14, 144), (14, 4), (13, 144),
   (0, 0), (13, 60), (13, 60), (13, 60), (13, 1152), (14, 144), (14, 4), (13, 144),
   (0, 0), (13, 60), (13, 60), (13, 60), (13, 1152), (14, 144), (14, 4), (13, 144),
   (2, 0), (13, 120), (2, 0), (13, 120), (2, 0), (13, 120), (2, 0), (13, 120), (2, 0), (13, 120),
   (8, 0), (14, 40), (8, 0), (14, 40), (8, 0), (14, 40), (8, 0), (14, 40),
   (1, 0), (1, 0), (1, 0), (17, 4), (16, 3),
   (6, 0), (13, 200), (13, 200), (13, 200), (13, 200),
   (4, 0), (12, 700), (13, 5), (3, 0), (5, 0), (13, 120),
   (9, 0), (13, 121), (14, 121), (14, 121), (13, 121),
   (7, 0), (13, 4096), (13, 4096), (13, 12), (13, 6), (13, 6),
   (13, 512), (13, 512), (13, 1536), (13, 512), (15, 3), (13, 700), (13, 1600), (13, 6), (13, 6), (13, 7), (13, 7), (15, 60), (15, 144), (13, 144), (13, 6), (13, 12), (13, 4096), (13, 98304), (15, 98304), (15, 4096), (13, 4), (13, 4), (14, 160)]
def kd (n : Nat) : Nat := (shl.getD n (99, 0)).1
def ln (n : Nat) : Nat := (shl.getD n (99, 0)).2
/-- the drawing of a needle; what an image holds -/
def ndD (n : Nat) : Nat := if n < 47 then 3 else 19 + 8 * ((n - 47) / 2)
def imD (n : Nat) : Nat := 19 + 8 * (n - 61)
def imN (n : Nat) : Nat := 47 + 2 * (n - 61)
/-- a class's fields: 0 int, 1 long, 2 a cell behind the object, 3 a cell by its name, 4 to 6 by tables -/
def spc : Nat → List (Nat × Nat)
  | 0 => [(0, 0), (0, 0), (2, 1), (2, 2), (2, 3), (2, 4), (2, 5), (2, 6), (2, 7)]
  | 1 => [(0, 0), (5, 0), (6, 0)]
  | 2 => [(1, 0), (1, 0), (0, 0), (0, 0), (0, 0), (0, 0), (0, 0), (0, 0), (0, 0), (4, 0), (2, 1)]
  | 3 => [(0, 0), (0, 0), (3, 66), (3, 11), (0, 0), (0, 0), (0, 0)]
  | 4 => [(0, 0), (0, 0), (0, 0), (3, 72), (3, 66), (0, 0), (0, 0), (0, 0), (0, 0), (0, 0), (0, 0), (3, 73)]
  | 5 => [(0, 0), (0, 0), (0, 0), (3, 3), (1, 0), (1, 0), (0, 0), (0, 0), (3, 76), (0, 0)]
  | 6 => [(0, 0), (3, 67), (3, 68), (3, 69), (3, 70)]
  | 7 => [(3, 3), (3, 83), (3, 84), (3, 85), (0, 0), (3, 86), (3, 87), (0, 0)]
  | 8 => [(0, 0), (0, 0), (0, 0), (2, 1)]
  | 9 => [(0, 0), (0, 0), (3, 3), (3, 75), (3, 78), (3, 79), (3, 80), (3, 81), (0, 0), (0, 0), (1, 0), (1, 0)]
  | 10 => [(0, 0), (0, 0), (3, 3), (3, 11), (3, 71), (3, 74), (3, 43), (3, 45), (3, 75), (3, 77), (3, 82), (3, 64), (3, 65)]
  | 11 => [(3, 88), (3, 89), (3, 90), (3, 91), (3, 92), (0, 0), (3, 93), (0, 0), (0, 0), (0, 0), (0, 0), (0, 0), (0, 0), (0, 0), (0, 0), (0, 0), (0, 0), (0, 0), (3, 94), (0, 0), (3, 95), (3, 96), (3, 97), (3, 98), (0, 0), (0, 0), (0, 0), (3, 99), (3, 100), (0, 0), (0, 0), (3, 101), (3, 102), (3, 103), (3, 104), (3, 105), (3, 106), (3, 107), (0, 0), (0, 0), (0, 0), (3, 108), (3, 109), (3, 110)]
  | _ => []
def rfn (n : Nat) (q : Nat × Nat) : Nat := match q.1 with
  | 2 => n + q.2
  | 3 => q.2
  | 4 => ndD n
  | 5 => imD n
  | _ => imN n
def fvl (G : GT) (P : PH) (n k : Nat) (q : Nat × Nat) : Value := match q.1 with
  | 0 => .int (P.1 n k)
  | 1 => .long (P.2 n k)
  | _ => .ref (gA G (rfn n q))
def fls (G : GT) (P : PH) (n : Nat) (l : List (Nat × Nat)) : List Value := l.mapIdx (fun k q => fvl G P n k q)
def aTray : Nat → Option Nat := fun i => if i < 4 then some (53 + 2 * i) else none
def aImg : Nat → Option Nat := fun i => if i < 3 then some (61 + i) else none
def celK (G : GT) (P : PH) (n : Nat) : Nat → va_E
  | 12 => .inl (gR G 12, ln n, .inl (P.1 n))
  | 13 => .inl (gR G 13, ln n, .inl (P.1 n))
  | 14 => .inl (gR G 14, ln n, .inr (.inl (P.2 n)))
  | 15 => .inl (gR G 15, ln n, .inl (P.1 n))
  | 16 => .inl (gR G 16, ln n, .inr (.inr (.inr (.inr (fun i => (aImg i).map (gA G))))))
  | 17 => .inl (gR G 17, ln n, .inr (.inr (.inr (.inr (fun i => (aTray i).map (gA G))))))
  | k => .inr (k, fls G P n (spc k))
def cel (G : GT) (P : PH) (n : Nat) : va_E := celK G P n (kd n)
def wsOf (G : GT) (P : PH) : va_W := (List.range 111).map (fun n => (gA G n, cel G P n))
def tysOf (G : GT) : List (ClassId × FieldType) := [(gR G 12, .byte), (gR G 13, .int), (gR G 14, .long), (gR G 15, .boolean), (gR G 16, .object "BothSides$Image"), (gR G 17, .object "BothSides$Tray")]
theorem ws_at {G : GT} {P : PH} {n : Nat} (h : n < 111) : (wsOf G P)[n]? = some (gA G n, cel G P n) := by
  simp [wsOf, List.getElem?_map, List.getElem?_range h]
theorem kd_lt {n k : Nat} (h : kd n = k) (hk : k < 99) : n < 111 := by
  rcases Nat.lt_or_ge n 111 with q | q
  · exact q
  · exfalso
    have : shl.getD n (99, 0) = (99, 0) := by
      rw [List.getD_eq_getElem?_getD, List.getElem?_eq_none (by simpa [shl] using q)]
      rfl
    unfold kd at h
    rw [this] at h
    omega
theorem fls_congr {G : GT} {P P' : PH} {n : Nat} (h1 : P'.1 n = P.1 n) (h2 : P'.2 n = P.2 n) (l : List (Nat × Nat)) : fls G P' n l = fls G P n l := by
  have : ∀ k q, fvl G P' n k q = fvl G P n k q := fun k q => by unfold fvl; rw [h1, h2]
  unfold fls
  simp only [this]
theorem cel_congr {G : GT} {P P' : PH} {n : Nat} (h1 : P'.1 n = P.1 n) (h2 : P'.2 n = P.2 n) : cel G P' n = cel G P n := by
  unfold cel celK
  split <;> simp only [h1, h2, fls_congr h1 h2]
theorem ws_set {G : GT} {P P' : PH} {n : Nat} {e : va_E} (he : cel G P' n = e) (ho : ∀ j, j ≠ n → cel G P' j = cel G P j) : (wsOf G P).set n (gA G n, e) = wsOf G P' := by
  apply List.ext_getElem?
  intro j
  subst he
  rcases Nat.lt_or_ge j 111 with h | h
  · rw [List.getElem?_set, ws_at h, ws_at h]
    by_cases hj : n = j
    · subst hj
      simp [wsOf, h]
    · rw [if_neg hj, ho j (fun q => hj q.symm)]
  · rw [List.getElem?_eq_none (by simpa [wsOf] using h), List.getElem?_eq_none (by simpa [wsOf] using h)]
theorem ws_one {G : GT} {P P' : PH} {n : Nat} {e : va_E} (he : cel G P' n = e) (h1 : ∀ j, j ≠ n → P'.1 j = P.1 j) (h2 : ∀ j, j ≠ n → P'.2 j = P.2 j) : (wsOf G P).set n (gA G n, e) = wsOf G P' := ws_set he (fun j hj => cel_congr (h1 j hj) (h2 j hj))
theorem fls_at {G : GT} {P : PH} {n k : Nat} {l : List (Nat × Nat)} {q : Nat × Nat} (h : l[k]? = some q) : (fls G P n l)[k]? = some (fvl G P n k q) := by
  simp [fls, List.getElem?_mapIdx, h]
theorem fls_setI {G : GT} {P : PH} {n k : Nat} {l : List (Nat × Nat)} {o : Nat} {v : Int32} (h : l[k]? = some (0, o)) : (fls G P n l).set k (.int v) = fls G (sI P n k v) n l := by
  apply List.ext_getElem?
  intro j
  rw [List.getElem?_set]
  unfold fls
  rw [List.getElem?_mapIdx, List.getElem?_mapIdx]
  by_cases hj : k = j
  · subst hj
    rw [if_pos rfl, h]
    have hk : k < l.length := (List.getElem?_eq_some_iff.mp h).1
    simp [hk, fvl, sI, u2]
  · rw [if_neg hj]
    cases hq : l[j]? with
    | none => rfl
    | some q =>
      obtain ⟨t, o2⟩ := q
      have h3 : (sI P n k v).1 n j = P.1 n j := u2_n _ _ (fun z => hj z.2.symm)
      simp only [Option.map_some, fvl]
      rw [h3]
      rfl
theorem fls_setL {G : GT} {P : PH} {n k : Nat} {l : List (Nat × Nat)} {o : Nat} {v : Int64} (h : l[k]? = some (1, o)) : (fls G P n l).set k (.long v) = fls G (sL P n k v) n l := by
  apply List.ext_getElem?
  intro j
  rw [List.getElem?_set]
  unfold fls
  rw [List.getElem?_mapIdx, List.getElem?_mapIdx]
  by_cases hj : k = j
  · subst hj
    rw [if_pos rfl, h]
    have hk : k < l.length := (List.getElem?_eq_some_iff.mp h).1
    simp [hk, fvl, sL, u2]
  · rw [if_neg hj]
    cases hq : l[j]? with
    | none => rfl
    | some q =>
      obtain ⟨t, o2⟩ := q
      have h3 : (sL P n k v).2 n j = P.2 n j := u2_n _ _ (fun z => hj z.2.symm)
      simp only [Option.map_some, fvl]
      rw [h3]
      rfl
theorem celK_obj {G : GT} {P : PH} {n ci : Nat} (h : ci < 12) : celK G P n ci = .inr (ci, fls G P n (spc ci)) := by
  match ci, h with
  | 0, _ => rfl
  | 1, _ => rfl
  | 2, _ => rfl
  | 3, _ => rfl
  | 4, _ => rfl
  | 5, _ => rfl
  | 6, _ => rfl
  | 7, _ => rfl
  | 8, _ => rfl
  | 9, _ => rfl
  | 10, _ => rfl
  | 11, _ => rfl
  | k + 12, h => omega
theorem cel_obj {G : GT} {P : PH} {n ci : Nat} (h : kd n = ci) (hc : ci < 12) : cel G P n = .inr (ci, fls G P n (spc ci)) := by
  unfold cel
  rw [h]
  exact celK_obj hc
theorem wa_obj {G : GT} {P : PH} {n ci : Nat} (h : kd n = ci) (hc : ci < 12) : (wsOf G P)[n]? = some (gA G n, .inr (ci, fls G P n (spc ci))) := by
  rw [ws_at (kd_lt h (by omega)), cel_obj h hc]
theorem wa_int {G : GT} {P : PH} {n : Nat} (h : kd n = 13) : (wsOf G P)[n]? = some (gA G n, .inl (gR G 13, ln n, .inl (P.1 n))) := by
  rw [ws_at (kd_lt h (by omega))]; unfold cel; rw [h]; rfl
theorem wa_byte {G : GT} {P : PH} {n : Nat} (h : kd n = 12) : (wsOf G P)[n]? = some (gA G n, .inl (gR G 12, ln n, .inl (P.1 n))) := by
  rw [ws_at (kd_lt h (by omega))]; unfold cel; rw [h]; rfl
theorem wa_bool {G : GT} {P : PH} {n : Nat} (h : kd n = 15) : (wsOf G P)[n]? = some (gA G n, .inl (gR G 15, ln n, .inl (P.1 n))) := by
  rw [ws_at (kd_lt h (by omega))]; unfold cel; rw [h]; rfl
theorem wa_long {G : GT} {P : PH} {n : Nat} (h : kd n = 14) : (wsOf G P)[n]? = some (gA G n, .inl (gR G 14, ln n, .inr (.inl (P.2 n)))) := by
  rw [ws_at (kd_lt h (by omega))]; unfold cel; rw [h]; rfl
theorem wa_img {G : GT} {P : PH} {n : Nat} (h : kd n = 16) : (wsOf G P)[n]? = some (gA G n, .inl (gR G 16, ln n, .inr (.inr (.inr (.inr (fun i => (aImg i).map (gA G))))))) := by
  rw [ws_at (kd_lt h (by omega))]; unfold cel; rw [h]; rfl
theorem wa_tray {G : GT} {P : PH} {n : Nat} (h : kd n = 17) : (wsOf G P)[n]? = some (gA G n, .inl (gR G 17, ln n, .inr (.inr (.inr (.inr (fun i => (aTray i).map (gA G))))))) := by
  rw [ws_at (kd_lt h (by omega))]; unfold cel; rw [h]; rfl
theorem wset_fI {G : GT} {P : PH} {n ci k o : Nat} {v : Int32} (h : kd n = ci) (hc : ci < 12) (hk : (spc ci)[k]? = some (0, o)) : (wsOf G P).set n (gA G n, .inr (ci, (fls G P n (spc ci)).set k (.int v))) = wsOf G (sI P n k v) :=
  ws_one (by rw [fls_setI hk]; exact cel_obj h hc) (fun j hj => u2_off _ _ hj) (fun _ _ => rfl)
theorem wset_fL {G : GT} {P : PH} {n ci k o : Nat} {v : Int64} (h : kd n = ci) (hc : ci < 12) (hk : (spc ci)[k]? = some (1, o)) : (wsOf G P).set n (gA G n, .inr (ci, (fls G P n (spc ci)).set k (.long v))) = wsOf G (sL P n k v) :=
  ws_one (by rw [fls_setL hk]; exact cel_obj h hc) (fun _ _ => rfl) (fun j hj => u2_off _ _ hj)
theorem sI_row (P : PH) (n k : Nat) (v : Int32) : (sI P n k v).1 n = upd (P.1 n) k v := u2_row _ _ _ _
theorem sL_row (P : PH) (n k : Nat) (v : Int64) : (sL P n k v).2 n = vp_updL (P.2 n) k v := u2_row _ _ _ _
theorem wset_aI {G : GT} {P : PH} {n t k : Nat} {v : Int32} (h : kd n = t) (ht : t = 12 ∨ t = 13 ∨ t = 15) : (wsOf G P).set n (gA G n, .inl (gR G t, ln n, .inl (upd (P.1 n) k v))) = wsOf G (sI P n k v) := by
  refine ws_one ?_ (fun j hj => u2_off _ _ hj) (fun _ _ => rfl)
  unfold cel
  rw [h]
  rcases ht with rfl | rfl | rfl
  · show Sum.inl (gR G 12, ln n, Sum.inl ((sI P n k v).1 n)) = _
    rw [sI_row]
  · show Sum.inl (gR G 13, ln n, Sum.inl ((sI P n k v).1 n)) = _
    rw [sI_row]
  · show Sum.inl (gR G 15, ln n, Sum.inl ((sI P n k v).1 n)) = _
    rw [sI_row]
theorem wset_aL {G : GT} {P : PH} {n k : Nat} {v : Int64} (h : kd n = 14) : (wsOf G P).set n (gA G n, .inl (gR G 14, ln n, .inr (.inl (vp_updL (P.2 n) k v)))) = wsOf G (sL P n k v) := by
  refine ws_one ?_ (fun _ _ => rfl) (fun j hj => u2_off _ _ hj)
  unfold cel
  rw [h]
  show Sum.inl (gR G 14, ln n, Sum.inr (Sum.inl ((sL P n k v).2 n))) = _
  rw [sL_row]
theorem wset_rI {G : GT} {P : PH} {n t : Nat} {f : Nat → Int32} (h : kd n = t) (ht : t = 12 ∨ t = 13 ∨ t = 15) : (wsOf G P).set n (gA G n, .inl (gR G t, ln n, .inl f)) = wsOf G (rI P n f) := by
  have e : (rI P n f).1 n = f := by simp [rI]
  refine ws_one ?_ (fun j hj => by simp [rI, hj]) (fun _ _ => rfl)
  unfold cel
  rw [h]
  rcases ht with rfl | rfl | rfl
  · show Sum.inl (gR G 12, ln n, Sum.inl ((rI P n f).1 n)) = _
    rw [e]
  · show Sum.inl (gR G 13, ln n, Sum.inl ((rI P n f).1 n)) = _
    rw [e]
  · show Sum.inl (gR G 15, ln n, Sum.inl ((rI P n f).1 n)) = _
    rw [e]
theorem wset_rL {G : GT} {P : PH} {n : Nat} {f : Nat → Int64} (h : kd n = 14) : (wsOf G P).set n (gA G n, .inl (gR G 14, ln n, .inr (.inl f))) = wsOf G (rL P n f) := by
  have e : (rL P n f).2 n = f := by simp [rL]
  refine ws_one ?_ (fun _ _ => rfl) (fun j hj => by simp [rL, hj])
  unfold cel
  rw [h]
  show Sum.inl (gR G 14, ln n, Sum.inr (Sum.inl ((rL P n f).2 n))) = _
  rw [e]
