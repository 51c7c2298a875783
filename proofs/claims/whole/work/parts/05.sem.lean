/-! SEM: at pc of method mi, with the listed locals, the stack and the pure heap P, the machine comes to what o tells. -/
/-- bytes, locals, class, answer's type, height, handlers -/
abbrev MI : Type := ByteArray × Nat × String × Option FieldType × Nat × List (Nat × Nat × Nat × Nat)
def GW (G : GT) (w : Cond) : Prop := ∀ (A : Array Value) (U : State), (gS G).WarmedH U.vm → w.before A U = true
def eastBy : Nat → Int32 := fun i => [1, 1, 0, -1, -1, -1, 0, 1].getD i 0
def northBy : Nat → Int32 := fun i => [0, 1, 1, 1, 0, -1, -1, -1].getD i 0
/-- the words' texts, and which class and entry of its pool tells which -/
def wTx : List String := ["east", "northeast", "north", "northwest", "west", "southwest", "south", "southeast", "at", "ink", "knot", "times", "turn", "mirror"]
def wLen : List Nat := wTx.map String.length
def wByt : List (List Int32) := wTx.map (fun t => t.toList.map (fun c => Int32.ofNat c.toNat))
/-- what holds of the law's start -/
def ncRefs : List (String × String) := [("java/lang/IllegalArgumentException", "java/util/NoSuchElementException"), ("java/lang/IllegalArgumentException", "java/lang/IllegalStateException"), ("java/lang/IllegalStateException", "java/util/NoSuchElementException"), ("java/lang/IndexOutOfBoundsException", "java/util/NoSuchElementException"), ("java/lang/IndexOutOfBoundsException", "java/lang/IllegalStateException")]
def strRefs : List (String × Nat × Nat) := [("BothSides$Reader", 136, 0), ("BothSides$Reader", 138, 1), ("BothSides$Reader", 140, 2), ("BothSides$Reader", 142, 3), ("BothSides$Reader", 144, 4), ("BothSides$Reader", 146, 5), ("BothSides$Reader", 148, 6), ("BothSides$Reader", 150, 7), ("BothSides$Reader", 152, 8), ("BothSides$Reader", 154, 9), ("BothSides$Reader", 156, 10), ("BothSides$Reader", 158, 11), ("BothSides$Reader", 160, 12), ("BothSides$Reader", 162, 13), ("BothSidesModel", 173, 0), ("BothSidesModel", 179, 1), ("BothSidesModel", 181, 2), ("BothSidesModel", 183, 3), ("BothSidesModel", 185, 4), ("BothSidesModel", 187, 5), ("BothSidesModel", 189, 6), ("BothSidesModel", 191, 7), ("BothSidesModel", 212, 8), ("BothSidesModel", 216, 10), ("BothSidesModel", 218, 9), ("BothSidesModel", 220, 11), ("BothSidesModel", 226, 12), ("BothSidesModel", 228, 13)]
def thrRefs : List (String × Nat × String) := [("BothSides", 102, "not so many bytes on the tape"), ("BothSides", 145, "what of a line is 0 to 3"), ("BothSides", 196, "alike by 0 to 3"), ("BothSides", 221, "the thread has not so many stitches"), ("BothSides", 239, "what of a thread is 0 to 4"), ("BothSides", 252, "what of told stitches is 0 to 3"), ("BothSides", 271, "what of a bar is 0 or 1"), ("BothSides", 295, "what of the unpicked is 0 to 2"), ("BothSides", 311, "a length is 1 to 20"), ("BothSides", 326, "no such sort, or not so many"), ("BothSides", 334, "no such place in the tray"), ("BothSides", 355, "no such image was made"), ("BothSides", 368, "no such hole"), ("BothSides", 371, "no such way"), ("BothSides", 373, "no such line"), ("BothSides", 375, "no such ink"), ("BothSides", 380, "there is no thread"), ("BothSides", 382, "no such tray"), ("BothSides", 385, "the tray is missing"), ("BothSides", 387, "no such image")]
def GStat (G : GT) : Prop :=
  (va_Z "BothSides" "EAST_BY" "[I" (.ref (gEa G)) (gF G) (gS G) (gS G).heap ∧ va_T .int (gEa G) 8 (fun j => .int (eastBy j)) (gF G) (gS G) (gS G).heap) ∧
  (va_Z "BothSides" "NORTH_BY" "[I" (.ref (gNo G)) (gF G) (gS G) (gS G).heap ∧ va_T .int (gNo G) 8 (fun j => .int (northBy j)) (gF G) (gS G) (gS G).heap) ∧
  vk_S 14 wLen wByt (gK G) (gV G) (gF G) (gS G) (gS G).heap ∧
  vx_Zq Bundle.tN "UNASSIGNED_STACK" Bundle.steD (gF G) (gS G) (gS G).heap ∧ vx_Zq Bundle.tN "SUPPRESSED_SENTINEL" Bundle.listD (gF G) (gS G) (gS G).heap ∧
  (∀ q ∈ strRefs, vk_R q.1 q.2.1 (wTx.getD q.2.2 "") (gK G q.2.2) (gS G)) ∧ (∀ q ∈ thrRefs, ∃ sa, vk_R q.1 q.2.1 q.2.2 sa (gS G)) ∧
  va_Z "java/lang/String" "COMPACT_STRINGS" "Z" (.int 1) (gF G) (gS G) (gS G).heap ∧ va_Zq "jdk/internal/util/Preconditions" "SIOOBE_FORMATTER" "Ljava/util/function/BiFunction;" (gF G) (gS G) (gS G).heap ∧
  (∀ q ∈ ncRefs, va_Nc q.1 q.2 (gS G)) ∧ va_X (gB G) (gL G) (gX G) (gS G) (gS G).heap ∧ gL G ≤ 3072 ∧ gB G < (gS G).heap.size
def okWord : Cond → Bool
  | .methodLinkNest _ _ _ _ => true
  | .castable _ _ => true
  | .declares _ => true
  | w => goodWord w
def GOK (G : GT) (l : Launch) : Prop :=
  l.stackTraces = false ∧ (∀ i j, i < 111 → j < 111 → gA G i = gA G j → i = j) ∧ (∀ i, i < 111 → gF G (gA G i)) ∧ va_K (gD G) vwCl (tysOf G) (gS G) ∧ GStat G ∧ ∀ w ∈ lw_tbl, okWord w = true → GW G w
/-- a state whose heap holds the pure heap -/
def Wd (G : GT) (P : PH) (s : State) : Prop := va_P (gD G) vwCl (wsOf G P) s.heap ∧ (gS G).WarmedH s.vm ∧ (gS G).heap.size ≤ s.heap.size ∧ ∀ q, q < (gS G).heap.size → s.heap[q]? = (gS G).heap[q]?
/-- a constructor bears the mark [(0, 0, 0, 0)] -/
def xt2 (h : List (Nat × Nat × Nat × Nat)) : List (Nat × Nat × Nat × Nat) := if h = [(0, 0, 0, 0)] then [] else h
def MC (G : GT) (l : Launch) (mi : MI) (p : Program) (R : Room) (s : State) (m : MethodId) (meth : Method) (c : Code) : Prop :=
  GOK G l ∧ p.tables.exec = Jvm.exec ∧ c.code = mi.1 ∧ c.maxLocals = mi.2.1 ∧ s.vm.findClass mi.2.2.1 = some m.cls ∧ meth.locks = false ∧ meth.sig.returnType = mi.2.2.2.1 ∧ ((gS G).WarmedH s.vm ∧ (gS G).heap.size ≤ s.heap.size ∧ ∀ q, q < (gS G).heap.size → s.heap[q]? = (gS G).heap[q]?) ∧ mi.2.2.2.2.1 ≤ R.frames ∧ 40 * mi.2.2.2.2.1 ≤ R.locals ∧ c.exceptionTable.toList = tableOf (xt2 mi.2.2.2.2.2) ∧ (mi.2.2.2.2.2 = [(0, 0, 0, 0)] → meth.name = "<init>")
abbrev RS : Type := (Option Value ⊕ String) × PH
def qc (G : GT) (y : RS) : Array Value → State → Outcome → State → Prop := fun _ st o t => ∃ v, y.1 = .inl v ∧ o = .returned v ∧ va_P (gD G) vwCl (wsOf G y.2) t.heap ∧ va_F (gF G) st t
def xc (G : GT) (y : RS) : String → State → State → Prop := fun E st t => y.1 = .inr E ∧ va_P (gD G) vwCl (wsOf G y.2) t.heap ∧ va_F (gF G) st t
abbrev QT : Type := (Array Value → State → Outcome → State → Prop) × (String → State → State → Prop)
/-- over any cells and any end -/
def SemW {T : Type} (G : GT) (l : Launch) (mi : MI) (k n : Nat) (Q : T → QT) (pc : Nat) (lv : List (Nat × Value)) (st : List Value) (ws : va_W) (o : Option T) : Prop :=
  ∀ (p : Program) (e : Env) (R : Room) (s : State) (m : MethodId) (args : Array Value) (below : List Frame) (meth : Method) (c : Code), MC G l mi p R s m meth c →
  ∀ (H : Heap) (locs : List Loc) (cells slots mc ms : Nat) (ls : Array Slot), va_P (gD G) vwCl ws H → va_S (gF G) s.heap H locs → lv_has ls mi.2.1 lv → cells + k ≤ mc → slots + n ≤ ms → mc ≤ R.cells → ms ≤ R.slots →
  ∀ z : T, o = some z → W p l e R s m args below meth c H locs cells slots (vx_MQ below (Q z).1 (Q z).2 args s mc ms (gF G)) (F0 m pc ls st)
abbrev qx (G : GT) (y : RS) : QT := (qc G y, xc G y)
/-- over the pure heap -/
abbrev Sem {T : Type} (G : GT) (l : Launch) (mi : MI) (k n : Nat) (τ : T → RS) (pc : Nat) (lv : List (Nat × Value)) (st : List Value) (P : PH) (o : Option T) : Prop := SemW G l mi k n (fun z => qx G (τ z)) pc lv st (wsOf G P) o
def gdI {T : Type} (i : Int32) (n : Nat) (o : Option T) : Option T := if i < 0 ∨ n ≤ i.toNatClampNeg then none else o
def gdP {T : Type} (c : Prop) [Decidable c] (o : Option T) : Option T := if c then o else none
theorem gdI_some {T : Type} {i : Int32} {n : Nat} {o : Option T} {z : T} (h : gdI i n o = some z) : vp_in i n ∧ o = some z := by
  unfold gdI at h
  by_cases c : i < 0 ∨ n ≤ i.toNatClampNeg
  · rw [if_pos c] at h; cases h
  · rw [if_neg c] at h; exact ⟨c, h⟩
theorem gdP_some {T : Type} {c : Prop} [Decidable c] {o : Option T} {z : T} (h : gdP c o = some z) : c ∧ o = some z := by
  unfold gdP at h
  by_cases hc : c
  · rw [if_pos hc] at h; exact ⟨hc, h⟩
  · rw [if_neg hc] at h; cases h
theorem gdI_in {T : Type} {i : Int32} {n : Nat} {o : Option T} (h : vp_in i n) : gdI i n o = o := if_neg h
theorem va_P_D {G : GT} {l : Launch} (h : GOK G l) (P : PH) : va_D (gF G) (wsOf G P) := by
  obtain ⟨-, h1, h2, -⟩ := h
  have at' : ∀ (k : Nat) (q : Nat × va_E), (wsOf G P)[k]? = some q → k < 111 ∧ q.1 = gA G k := by
    intro k q hk
    rcases Nat.lt_or_ge k 111 with c | c
    · rw [ws_at c] at hk
      cases hk
      exact ⟨c, rfl⟩
    · rw [List.getElem?_eq_none (by simpa [wsOf] using c)] at hk
      cases hk
  refine ⟨fun i j a b hi hj hab => ?_, fun k q hk => ?_⟩
  · obtain ⟨c1, e1⟩ := at' i a hi
    obtain ⟨c2, e2⟩ := at' j b hj
    exact h1 i j c1 c2 (by rw [← e1, ← e2]; exact hab)
  · obtain ⟨c1, e1⟩ := at' k q hk
    rw [e1]
    exact h2 k c1
theorem vwCl_at (ci : Nat) (h : ci < 12) : ∃ r, vwCl[ci]? = some r := ⟨_, List.getElem?_eq_getElem (by simpa [vwCl] using h)⟩
theorem cls_words : ∀ w ∈ u_ws RX0 TX0 9 ++ u_ws RX1 TX1 3 ++ u_ws RX2 TX2 11 ++ u_ws RX3 TX3 7 ++ u_ws RX4 TX4 12 ++ u_ws RX5 TX5 10 ++ u_ws RX6 TX6 5 ++ u_ws RX7 TX7 8 ++ u_ws RX8 TX8 4 ++ u_ws RX9 TX9 12 ++ u_ws RX10 TX10 13 ++ u_ws RX11 TX11 44, w ∈ lw_tbl ∧ goodWord w = true := by decide +kernel
section SEM
variable {T : Type} {G : GT} {l : Launch} {mi : MI} {k n : Nat} {τ : T → RS} {pc : Nat} {lv : List (Nat × Value)} {st : List Value} {P : PH} {o : Option T} {Q : T → QT} {ws : va_W}
theorem MC.kk {p : Program} {R : Room} {s : State} {m : MethodId} {meth : Method} {c : Code} (h : MC G l mi p R s m meth c) : va_K (gD G) vwCl (tysOf G) s := va_K.moved h.2.2.2.2.2.2.2.1.1.alike h.1.2.2.2.1
theorem MC.w {p : Program} {R : Room} {s : State} {m : MethodId} {meth : Method} {c : Code} (h : MC G l mi p R s m meth c) {w : Cond} (hw : GW G w) (args : Array Value) : w.before args s = true := hw _ _ h.2.2.2.2.2.2.2.1.1
theorem MC.keep {p : Program} {R : Room} {s : State} {m : MethodId} {meth : Method} {c : Code} (h : MC G l mi p R s m meth c) : ∀ a : Nat, a < (gS G).heap.size → ¬ gF G a → s.heap[a]? = (gS G).heap[a]? := fun a ha _ => h.2.2.2.2.2.2.2.1.2.2 a ha
theorem s_iadd {x y : Int32} (hd : decode mi.1 pc = .ok (.iadd, 1))  (K : SemW G l mi k n Q (pc + 1) lv (.int (x + y) :: st) ws o) : SemW G l mi k n Q pc lv (.int y :: .int x :: st) ws o := by
  intro p e R s m args below meth c hM H locs cells slots mc ms ls hP hS hl h1 h2 h3 h4 z hz
  exact lv_iadd hM.2.1 hM.2.2.1 hd  (K p e R s m args below meth c hM H locs cells slots mc ms ls hP hS hl h1 h2 h3 h4 z hz)
theorem s_isub {x y : Int32} (hd : decode mi.1 pc = .ok (.isub, 1))  (K : SemW G l mi k n Q (pc + 1) lv (.int (x - y) :: st) ws o) : SemW G l mi k n Q pc lv (.int y :: .int x :: st) ws o := by
  intro p e R s m args below meth c hM H locs cells slots mc ms ls hP hS hl h1 h2 h3 h4 z hz
  exact lv_isub hM.2.1 hM.2.2.1 hd  (K p e R s m args below meth c hM H locs cells slots mc ms ls hP hS hl h1 h2 h3 h4 z hz)
theorem s_imul {x y : Int32} (hd : decode mi.1 pc = .ok (.imul, 1))  (K : SemW G l mi k n Q (pc + 1) lv (.int (x * y) :: st) ws o) : SemW G l mi k n Q pc lv (.int y :: .int x :: st) ws o := by
  intro p e R s m args below meth c hM H locs cells slots mc ms ls hP hS hl h1 h2 h3 h4 z hz
  exact lv_imul hM.2.1 hM.2.2.1 hd  (K p e R s m args below meth c hM H locs cells slots mc ms ls hP hS hl h1 h2 h3 h4 z hz)
theorem s_iand {x y : Int32} (hd : decode mi.1 pc = .ok (.iand, 1))  (K : SemW G l mi k n Q (pc + 1) lv (.int (x &&& y) :: st) ws o) : SemW G l mi k n Q pc lv (.int y :: .int x :: st) ws o := by
  intro p e R s m args below meth c hM H locs cells slots mc ms ls hP hS hl h1 h2 h3 h4 z hz
  exact lv_iand hM.2.1 hM.2.2.1 hd  (K p e R s m args below meth c hM H locs cells slots mc ms ls hP hS hl h1 h2 h3 h4 z hz)
theorem s_ior {x y : Int32} (hd : decode mi.1 pc = .ok (.ior, 1))  (K : SemW G l mi k n Q (pc + 1) lv (.int (x ||| y) :: st) ws o) : SemW G l mi k n Q pc lv (.int y :: .int x :: st) ws o := by
  intro p e R s m args below meth c hM H locs cells slots mc ms ls hP hS hl h1 h2 h3 h4 z hz
  exact lv_ior hM.2.1 hM.2.2.1 hd  (K p e R s m args below meth c hM H locs cells slots mc ms ls hP hS hl h1 h2 h3 h4 z hz)
theorem s_ixor {x y : Int32} (hd : decode mi.1 pc = .ok (.ixor, 1))  (K : SemW G l mi k n Q (pc + 1) lv (.int (x ^^^ y) :: st) ws o) : SemW G l mi k n Q pc lv (.int y :: .int x :: st) ws o := by
  intro p e R s m args below meth c hM H locs cells slots mc ms ls hP hS hl h1 h2 h3 h4 z hz
  exact lv_ixor hM.2.1 hM.2.2.1 hd  (K p e R s m args below meth c hM H locs cells slots mc ms ls hP hS hl h1 h2 h3 h4 z hz)
theorem s_ishl {x y : Int32} (hd : decode mi.1 pc = .ok (.ishl, 1))  (K : SemW G l mi k n Q (pc + 1) lv (.int (x <<< (y &&& 31)) :: st) ws o) : SemW G l mi k n Q pc lv (.int y :: .int x :: st) ws o := by
  intro p e R s m args below meth c hM H locs cells slots mc ms ls hP hS hl h1 h2 h3 h4 z hz
  exact lv_ishl hM.2.1 hM.2.2.1 hd  (K p e R s m args below meth c hM H locs cells slots mc ms ls hP hS hl h1 h2 h3 h4 z hz)
theorem s_ishr {x y : Int32} (hd : decode mi.1 pc = .ok (.ishr, 1))  (K : SemW G l mi k n Q (pc + 1) lv (.int (x >>> (y &&& 31)) :: st) ws o) : SemW G l mi k n Q pc lv (.int y :: .int x :: st) ws o := by
  intro p e R s m args below meth c hM H locs cells slots mc ms ls hP hS hl h1 h2 h3 h4 z hz
  exact lv_ishr hM.2.1 hM.2.2.1 hd  (K p e R s m args below meth c hM H locs cells slots mc ms ls hP hS hl h1 h2 h3 h4 z hz)
theorem s_iushr {x y : Int32} (hd : decode mi.1 pc = .ok (.iushr, 1))  (K : SemW G l mi k n Q (pc + 1) lv (.int ((x.toUInt32 >>> (y.toUInt32 &&& Int32.toUInt32 31)).toInt32) :: st) ws o) : SemW G l mi k n Q pc lv (.int y :: .int x :: st) ws o := by
  intro p e R s m args below meth c hM H locs cells slots mc ms ls hP hS hl h1 h2 h3 h4 z hz
  exact lv_iushr hM.2.1 hM.2.2.1 hd rfl (K p e R s m args below meth c hM H locs cells slots mc ms ls hP hS hl h1 h2 h3 h4 z hz)
theorem s_idiv {x y : Int32} (hd : decode mi.1 pc = .ok (.idiv, 1)) (h0 : ¬ y = 0) (K : SemW G l mi k n Q (pc + 1) lv (.int (x / y) :: st) ws o) : SemW G l mi k n Q pc lv (.int y :: .int x :: st) ws o := by
  intro p e R s m args below meth c hM H locs cells slots mc ms ls hP hS hl h1 h2 h3 h4 z hz
  exact lv_idiv hM.2.1 hM.2.2.1 hd h0 (K p e R s m args below meth c hM H locs cells slots mc ms ls hP hS hl h1 h2 h3 h4 z hz)
theorem s_irem {x y : Int32} (hd : decode mi.1 pc = .ok (.irem, 1)) (h0 : ¬ y = 0) (K : SemW G l mi k n Q (pc + 1) lv (.int (x - x / y * y) :: st) ws o) : SemW G l mi k n Q pc lv (.int y :: .int x :: st) ws o := by
  intro p e R s m args below meth c hM H locs cells slots mc ms ls hP hS hl h1 h2 h3 h4 z hz
  exact lv_irem hM.2.1 hM.2.2.1 hd h0 (K p e R s m args below meth c hM H locs cells slots mc ms ls hP hS hl h1 h2 h3 h4 z hz)
theorem s_ineg {x : Int32} (hd : decode mi.1 pc = .ok (.ineg, 1))  (K : SemW G l mi k n Q (pc + 1) lv (.int (-x) :: st) ws o) : SemW G l mi k n Q pc lv (.int x :: st) ws o := by
  intro p e R s m args below meth c hM H locs cells slots mc ms ls hP hS hl h1 h2 h3 h4 z hz
  exact lv_ineg hM.2.1 hM.2.2.1 hd  (K p e R s m args below meth c hM H locs cells slots mc ms ls hP hS hl h1 h2 h3 h4 z hz)
theorem s_ladd {x y : Int64} (hd : decode mi.1 pc = .ok (.ladd, 1))  (K : SemW G l mi k n Q (pc + 1) lv (.long (x + y) :: st) ws o) : SemW G l mi k n Q pc lv (.long y :: .long x :: st) ws o := by
  intro p e R s m args below meth c hM H locs cells slots mc ms ls hP hS hl h1 h2 h3 h4 z hz
  exact lv_ladd hM.2.1 hM.2.2.1 hd  (K p e R s m args below meth c hM H locs cells slots mc ms ls hP hS hl h1 h2 h3 h4 z hz)
theorem s_lsub {x y : Int64} (hd : decode mi.1 pc = .ok (.lsub, 1))  (K : SemW G l mi k n Q (pc + 1) lv (.long (x - y) :: st) ws o) : SemW G l mi k n Q pc lv (.long y :: .long x :: st) ws o := by
  intro p e R s m args below meth c hM H locs cells slots mc ms ls hP hS hl h1 h2 h3 h4 z hz
  exact lv_lsub hM.2.1 hM.2.2.1 hd  (K p e R s m args below meth c hM H locs cells slots mc ms ls hP hS hl h1 h2 h3 h4 z hz)
theorem s_land {x y : Int64} (hd : decode mi.1 pc = .ok (.land, 1))  (K : SemW G l mi k n Q (pc + 1) lv (.long (x &&& y) :: st) ws o) : SemW G l mi k n Q pc lv (.long y :: .long x :: st) ws o := by
  intro p e R s m args below meth c hM H locs cells slots mc ms ls hP hS hl h1 h2 h3 h4 z hz
  exact lv_land hM.2.1 hM.2.2.1 hd  (K p e R s m args below meth c hM H locs cells slots mc ms ls hP hS hl h1 h2 h3 h4 z hz)
theorem s_lor {x y : Int64} (hd : decode mi.1 pc = .ok (.lor, 1))  (K : SemW G l mi k n Q (pc + 1) lv (.long (x ||| y) :: st) ws o) : SemW G l mi k n Q pc lv (.long y :: .long x :: st) ws o := by
  intro p e R s m args below meth c hM H locs cells slots mc ms ls hP hS hl h1 h2 h3 h4 z hz
  exact lv_lor hM.2.1 hM.2.2.1 hd  (K p e R s m args below meth c hM H locs cells slots mc ms ls hP hS hl h1 h2 h3 h4 z hz)
theorem s_lxor {x y : Int64} (hd : decode mi.1 pc = .ok (.lxor, 1))  (K : SemW G l mi k n Q (pc + 1) lv (.long (x ^^^ y) :: st) ws o) : SemW G l mi k n Q pc lv (.long y :: .long x :: st) ws o := by
  intro p e R s m args below meth c hM H locs cells slots mc ms ls hP hS hl h1 h2 h3 h4 z hz
  exact lv_lxor hM.2.1 hM.2.2.1 hd  (K p e R s m args below meth c hM H locs cells slots mc ms ls hP hS hl h1 h2 h3 h4 z hz)
theorem s_lneg {x : Int64} (hd : decode mi.1 pc = .ok (.lneg, 1))  (K : SemW G l mi k n Q (pc + 1) lv (.long (-x) :: st) ws o) : SemW G l mi k n Q pc lv (.long x :: st) ws o := by
  intro p e R s m args below meth c hM H locs cells slots mc ms ls hP hS hl h1 h2 h3 h4 z hz
  exact lv_lneg hM.2.1 hM.2.2.1 hd  (K p e R s m args below meth c hM H locs cells slots mc ms ls hP hS hl h1 h2 h3 h4 z hz)
theorem s_lshl {x : Int64} {y : Int32} (hd : decode mi.1 pc = .ok (.lshl, 1))  (K : SemW G l mi k n Q (pc + 1) lv (.long (x <<< (y.toInt64 &&& 63)) :: st) ws o) : SemW G l mi k n Q pc lv (.int y :: .long x :: st) ws o := by
  intro p e R s m args below meth c hM H locs cells slots mc ms ls hP hS hl h1 h2 h3 h4 z hz
  exact lv_lshl hM.2.1 hM.2.2.1 hd rfl (K p e R s m args below meth c hM H locs cells slots mc ms ls hP hS hl h1 h2 h3 h4 z hz)
theorem s_lshr {x : Int64} {y : Int32} (hd : decode mi.1 pc = .ok (.lshr, 1))  (K : SemW G l mi k n Q (pc + 1) lv (.long (x >>> (y.toInt64 &&& 63)) :: st) ws o) : SemW G l mi k n Q pc lv (.int y :: .long x :: st) ws o := by
  intro p e R s m args below meth c hM H locs cells slots mc ms ls hP hS hl h1 h2 h3 h4 z hz
  exact lv_lshr hM.2.1 hM.2.2.1 hd rfl (K p e R s m args below meth c hM H locs cells slots mc ms ls hP hS hl h1 h2 h3 h4 z hz)
theorem s_lushr {x : Int64} {y : Int32} (hd : decode mi.1 pc = .ok (.lushr, 1))  (K : SemW G l mi k n Q (pc + 1) lv (.long ((x.toUInt64 >>> (y.toInt64.toUInt64 &&& Int64.toUInt64 63)).toInt64) :: st) ws o) : SemW G l mi k n Q pc lv (.int y :: .long x :: st) ws o := by
  intro p e R s m args below meth c hM H locs cells slots mc ms ls hP hS hl h1 h2 h3 h4 z hz
  exact lv_lushr hM.2.1 hM.2.2.1 hd rfl (K p e R s m args below meth c hM H locs cells slots mc ms ls hP hS hl h1 h2 h3 h4 z hz)
theorem s_i2l {x : Int32} (hd : decode mi.1 pc = .ok (.i2l, 1))  (K : SemW G l mi k n Q (pc + 1) lv (.long x.toInt64 :: st) ws o) : SemW G l mi k n Q pc lv (.int x :: st) ws o := by
  intro p e R s m args below meth c hM H locs cells slots mc ms ls hP hS hl h1 h2 h3 h4 z hz
  exact lv_i2l hM.2.1 hM.2.2.1 hd rfl (K p e R s m args below meth c hM H locs cells slots mc ms ls hP hS hl h1 h2 h3 h4 z hz)
theorem s_l2i {x : Int64} (hd : decode mi.1 pc = .ok (.l2i, 1))  (K : SemW G l mi k n Q (pc + 1) lv (.int x.toInt32 :: st) ws o) : SemW G l mi k n Q pc lv (.long x :: st) ws o := by
  intro p e R s m args below meth c hM H locs cells slots mc ms ls hP hS hl h1 h2 h3 h4 z hz
  exact lv_l2i hM.2.1 hM.2.2.1 hd rfl (K p e R s m args below meth c hM H locs cells slots mc ms ls hP hS hl h1 h2 h3 h4 z hz)
theorem s_i2b {x : Int32} (hd : decode mi.1 pc = .ok (.i2b, 1))  (K : SemW G l mi k n Q (pc + 1) lv (.int x.toInt8.toInt32 :: st) ws o) : SemW G l mi k n Q pc lv (.int x :: st) ws o := by
  intro p e R s m args below meth c hM H locs cells slots mc ms ls hP hS hl h1 h2 h3 h4 z hz
  exact lv_i2b hM.2.1 hM.2.2.1 hd rfl (K p e R s m args below meth c hM H locs cells slots mc ms ls hP hS hl h1 h2 h3 h4 z hz)
theorem s_i2s {x : Int32} (hd : decode mi.1 pc = .ok (.i2s, 1))  (K : SemW G l mi k n Q (pc + 1) lv (.int x.toInt16.toInt32 :: st) ws o) : SemW G l mi k n Q pc lv (.int x :: st) ws o := by
  intro p e R s m args below meth c hM H locs cells slots mc ms ls hP hS hl h1 h2 h3 h4 z hz
  exact lv_i2s hM.2.1 hM.2.2.1 hd rfl (K p e R s m args below meth c hM H locs cells slots mc ms ls hP hS hl h1 h2 h3 h4 z hz)
theorem s_i2c {x : Int32} (hd : decode mi.1 pc = .ok (.i2c, 1))  (K : SemW G l mi k n Q (pc + 1) lv (.int (x.toUInt32 % 65536).toInt32 :: st) ws o) : SemW G l mi k n Q pc lv (.int x :: st) ws o := by
  intro p e R s m args below meth c hM H locs cells slots mc ms ls hP hS hl h1 h2 h3 h4 z hz
  exact lv_i2c hM.2.1 hM.2.2.1 hd rfl (K p e R s m args below meth c hM H locs cells slots mc ms ls hP hS hl h1 h2 h3 h4 z hz)
theorem s_iconst {j : Int} {v : Int32} (hd : decode mi.1 pc = .ok (.iconst j, 1)) (hv : Int32.ofInt j = v) (K : SemW G l mi k n Q (pc + 1) lv (.int v :: st) ws o) : SemW G l mi k n Q pc lv st ws o := by
  intro p e R s m args below meth c hM H locs cells slots mc ms ls hP hS hl h1 h2 h3 h4 z hz
  exact lv_iconst hM.2.1 hM.2.2.1 hd hv (K p e R s m args below meth c hM H locs cells slots mc ms ls hP hS hl h1 h2 h3 h4 z hz)
theorem s_bipush {j : Int} {v : Int32} (hd : decode mi.1 pc = .ok (.bipush j, 2)) (hv : (Int8.ofInt j).toInt32 = v) (K : SemW G l mi k n Q (pc + 2) lv (.int v :: st) ws o) : SemW G l mi k n Q pc lv st ws o := by
  intro p e R s m args below meth c hM H locs cells slots mc ms ls hP hS hl h1 h2 h3 h4 z hz
  exact lv_bipush hM.2.1 hM.2.2.1 hd hv (K p e R s m args below meth c hM H locs cells slots mc ms ls hP hS hl h1 h2 h3 h4 z hz)
theorem s_sipush {j : Int} {v : Int32} (hd : decode mi.1 pc = .ok (.sipush j, 3)) (hv : (Int16.ofInt j).toInt32 = v) (K : SemW G l mi k n Q (pc + 3) lv (.int v :: st) ws o) : SemW G l mi k n Q pc lv st ws o := by
  intro p e R s m args below meth c hM H locs cells slots mc ms ls hP hS hl h1 h2 h3 h4 z hz
  exact lv_sipush hM.2.1 hM.2.2.1 hd hv (K p e R s m args below meth c hM H locs cells slots mc ms ls hP hS hl h1 h2 h3 h4 z hz)
theorem s_lconst {j : Fin 2} {v : Int64} (hd : decode mi.1 pc = .ok (.lconst j, 1)) (hv : Int64.ofNat (j : Nat) = v) (K : SemW G l mi k n Q (pc + 1) lv (.long v :: st) ws o) : SemW G l mi k n Q pc lv st ws o := by
  intro p e R s m args below meth c hM H locs cells slots mc ms ls hP hS hl h1 h2 h3 h4 z hz
  exact lv_lconst hM.2.1 hM.2.2.1 hd hv (K p e R s m args below meth c hM H locs cells slots mc ms ls hP hS hl h1 h2 h3 h4 z hz)
theorem s_dup {va : Value} (hd : decode mi.1 pc = .ok (.dup, 1)) (hv : va.category = 1) (K : SemW G l mi k n Q (pc + 1) lv (va :: va :: st) ws o) : SemW G l mi k n Q pc lv (va :: st) ws o := by
  intro p e R s m args below meth c hM H locs cells slots mc ms ls hP hS hl h1 h2 h3 h4 z hz
  exact lv_dup hM.2.1 hM.2.2.1 hd hv (K p e R s m args below meth c hM H locs cells slots mc ms ls hP hS hl h1 h2 h3 h4 z hz)
theorem s_pop {va : Value} (hd : decode mi.1 pc = .ok (.pop, 1)) (hv : va.category = 1) (K : SemW G l mi k n Q (pc + 1) lv st ws o) : SemW G l mi k n Q pc lv (va :: st) ws o := by
  intro p e R s m args below meth c hM H locs cells slots mc ms ls hP hS hl h1 h2 h3 h4 z hz
  exact lv_pop hM.2.1 hM.2.2.1 hd hv (K p e R s m args below meth c hM H locs cells slots mc ms ls hP hS hl h1 h2 h3 h4 z hz)
theorem s_dup2 {va vb : Value} (hd : decode mi.1 pc = .ok (.dup2, 1)) (hv : va.category = 1) (hw : vb.category = 1) (K : SemW G l mi k n Q (pc + 1) lv (va :: vb :: va :: vb :: st) ws o) : SemW G l mi k n Q pc lv (va :: vb :: st) ws o := by
  intro p e R s m args below meth c hM H locs cells slots mc ms ls hP hS hl h1 h2 h3 h4 z hz
  exact lv_dup2_11 hM.2.1 hM.2.2.1 hd hv hw (K p e R s m args below meth c hM H locs cells slots mc ms ls hP hS hl h1 h2 h3 h4 z hz)
theorem s_lcmp {x y : Int64} (hd : decode mi.1 pc = .ok (.lcmp, 1)) (K : SemW G l mi k n Q (pc + 1) lv (.int (lg_cmp x y) :: st) ws o) : SemW G l mi k n Q pc lv (.long y :: .long x :: st) ws o := by
  intro p e R s m args below meth c hM H locs cells slots mc ms ls hP hS hl h1 h2 h3 h4 z hz
  exact W.lcmp hM.2.1 hM.2.2.1 hd (K p e R s m args below meth c hM H locs cells slots mc ms ls hP hS hl h1 h2 h3 h4 z hz)
theorem s_iload_n {a : Fin 4} {i : Nat} {x : Int32} (j : Nat) (hd : decode mi.1 pc = .ok (.iload_n a, 1)) (hi : (a : Nat) = i) (hk : lv[j]? = some (i, .int x)) (K : SemW G l mi k n Q (pc + 1) lv (.int x :: st) ws o) : SemW G l mi k n Q pc lv st ws o := by
  intro p e R s m args below meth c hM H locs cells slots mc ms ls hP hS hl h1 h2 h3 h4 z hz
  exact lv_iload_n hM.2.1 hM.2.2.1 hd hi (lv_at hl j hk) (K p e R s m args below meth c hM H locs cells slots mc ms ls hP hS hl h1 h2 h3 h4 z hz)
theorem s_iload {i : Nat} {x : Int32} (j : Nat) (hd : decode mi.1 pc = .ok (.iload i, 2)) (hk : lv[j]? = some (i, .int x)) (K : SemW G l mi k n Q (pc + 2) lv (.int x :: st) ws o) : SemW G l mi k n Q pc lv st ws o := by
  intro p e R s m args below meth c hM H locs cells slots mc ms ls hP hS hl h1 h2 h3 h4 z hz
  exact lv_iload hM.2.1 hM.2.2.1 hd (lv_at hl j hk) (K p e R s m args below meth c hM H locs cells slots mc ms ls hP hS hl h1 h2 h3 h4 z hz)
theorem s_lload_n {a : Fin 4} {i : Nat} {x : Int64} (j : Nat) (hd : decode mi.1 pc = .ok (.lload_n a, 1)) (hi : (a : Nat) = i) (hk : lv[j]? = some (i, .long x)) (K : SemW G l mi k n Q (pc + 1) lv (.long x :: st) ws o) : SemW G l mi k n Q pc lv st ws o := by
  intro p e R s m args below meth c hM H locs cells slots mc ms ls hP hS hl h1 h2 h3 h4 z hz
  exact lv_lload_n hM.2.1 hM.2.2.1 hd hi (lv_at hl j hk) (K p e R s m args below meth c hM H locs cells slots mc ms ls hP hS hl h1 h2 h3 h4 z hz)
theorem s_lload {i : Nat} {x : Int64} (j : Nat) (hd : decode mi.1 pc = .ok (.lload i, 2)) (hk : lv[j]? = some (i, .long x)) (K : SemW G l mi k n Q (pc + 2) lv (.long x :: st) ws o) : SemW G l mi k n Q pc lv st ws o := by
  intro p e R s m args below meth c hM H locs cells slots mc ms ls hP hS hl h1 h2 h3 h4 z hz
  exact lv_lload hM.2.1 hM.2.2.1 hd (lv_at hl j hk) (K p e R s m args below meth c hM H locs cells slots mc ms ls hP hS hl h1 h2 h3 h4 z hz)
theorem s_aload_n {a : Fin 4} {i x : Nat} (j : Nat) (hd : decode mi.1 pc = .ok (.aload_n a, 1)) (hi : (a : Nat) = i) (hk : lv[j]? = some (i, .ref x)) (K : SemW G l mi k n Q (pc + 1) lv (.ref x :: st) ws o) : SemW G l mi k n Q pc lv st ws o := by
  intro p e R s m args below meth c hM H locs cells slots mc ms ls hP hS hl h1 h2 h3 h4 z hz
  exact lv_aload_n hM.2.1 hM.2.2.1 hd hi (lv_at hl j hk) (K p e R s m args below meth c hM H locs cells slots mc ms ls hP hS hl h1 h2 h3 h4 z hz)
theorem s_aload {i x : Nat} (j : Nat) (hd : decode mi.1 pc = .ok (.aload i, 2)) (hk : lv[j]? = some (i, .ref x)) (K : SemW G l mi k n Q (pc + 2) lv (.ref x :: st) ws o) : SemW G l mi k n Q pc lv st ws o := by
  intro p e R s m args below meth c hM H locs cells slots mc ms ls hP hS hl h1 h2 h3 h4 z hz
  exact lv_aload hM.2.1 hM.2.2.1 hd (lv_at hl j hk) (K p e R s m args below meth c hM H locs cells slots mc ms ls hP hS hl h1 h2 h3 h4 z hz)
theorem s_istore_n {a : Fin 4} {i : Nat} {x : Int32} (lv2 : List (Nat × Value)) (hd : decode mi.1 pc = .ok (.istore_n a, 1)) (hi : (a : Nat) = i) (hn : i < mi.2.1) (hv : (i, Value.int x) :: lv.filter (fun q => !(q.1 == i) && !(q.1 + 1 == i && q.2.category == 2)) = lv2) (K : SemW G l mi k n Q (pc + 1) lv2 st ws o) : SemW G l mi k n Q pc lv (.int x :: st) ws o := by
  intro p e R s m args below meth c hM H locs cells slots mc ms ls hP hS hl h1 h2 h3 h4 z hz
  exact lv_istore_n hM.2.1 hM.2.2.1 hd hi hl hn hv (fun ls2 hl2 => (K p e R s m args below meth c hM H locs cells slots mc ms ls2 hP hS hl2 h1 h2 h3 h4 z hz))
theorem s_istore {i : Nat} {x : Int32} (lv2 : List (Nat × Value)) (hd : decode mi.1 pc = .ok (.istore i, 2)) (hn : i < mi.2.1) (hv : (i, Value.int x) :: lv.filter (fun q => !(q.1 == i) && !(q.1 + 1 == i && q.2.category == 2)) = lv2) (K : SemW G l mi k n Q (pc + 2) lv2 st ws o) : SemW G l mi k n Q pc lv (.int x :: st) ws o := by
  intro p e R s m args below meth c hM H locs cells slots mc ms ls hP hS hl h1 h2 h3 h4 z hz
  exact lv_istore hM.2.1 hM.2.2.1 hd hl hn hv (fun ls2 hl2 => (K p e R s m args below meth c hM H locs cells slots mc ms ls2 hP hS hl2 h1 h2 h3 h4 z hz))
theorem s_lstore_n {a : Fin 4} {i : Nat} {x : Int64} (lv2 : List (Nat × Value)) (hd : decode mi.1 pc = .ok (.lstore_n a, 1)) (hi : (a : Nat) = i) (hn : i + 1 < mi.2.1) (hv : (i, Value.long x) :: lv.filter (fun q => !(q.1 == i) && (!(q.1 == i + 1) && !(q.1 + 1 == i && q.2.category == 2))) = lv2) (K : SemW G l mi k n Q (pc + 1) lv2 st ws o) : SemW G l mi k n Q pc lv (.long x :: st) ws o := by
  intro p e R s m args below meth c hM H locs cells slots mc ms ls hP hS hl h1 h2 h3 h4 z hz
  exact lv_lstore_n hM.2.1 hM.2.2.1 hd hi hl hn hv (fun ls2 hl2 => (K p e R s m args below meth c hM H locs cells slots mc ms ls2 hP hS hl2 h1 h2 h3 h4 z hz))
theorem s_lstore {i : Nat} {x : Int64} (lv2 : List (Nat × Value)) (hd : decode mi.1 pc = .ok (.lstore i, 2)) (hn : i + 1 < mi.2.1) (hv : (i, Value.long x) :: lv.filter (fun q => !(q.1 == i) && (!(q.1 == i + 1) && !(q.1 + 1 == i && q.2.category == 2))) = lv2) (K : SemW G l mi k n Q (pc + 2) lv2 st ws o) : SemW G l mi k n Q pc lv (.long x :: st) ws o := by
  intro p e R s m args below meth c hM H locs cells slots mc ms ls hP hS hl h1 h2 h3 h4 z hz
  exact lv_lstore hM.2.1 hM.2.2.1 hd hl hn hv (fun ls2 hl2 => (K p e R s m args below meth c hM H locs cells slots mc ms ls2 hP hS hl2 h1 h2 h3 h4 z hz))
theorem s_astore_n {a : Fin 4} {i : Nat} {x : Nat} (lv2 : List (Nat × Value)) (hd : decode mi.1 pc = .ok (.astore_n a, 1)) (hi : (a : Nat) = i) (hn : i < mi.2.1) (hv : (i, Value.ref x) :: lv.filter (fun q => !(q.1 == i) && !(q.1 + 1 == i && q.2.category == 2)) = lv2) (K : SemW G l mi k n Q (pc + 1) lv2 st ws o) : SemW G l mi k n Q pc lv (.ref x :: st) ws o := by
  intro p e R s m args below meth c hM H locs cells slots mc ms ls hP hS hl h1 h2 h3 h4 z hz
  exact lv_astore_n hM.2.1 hM.2.2.1 hd hi hl hn hv (fun ls2 hl2 => (K p e R s m args below meth c hM H locs cells slots mc ms ls2 hP hS hl2 h1 h2 h3 h4 z hz))
theorem s_astore {i : Nat} {x : Nat} (lv2 : List (Nat × Value)) (hd : decode mi.1 pc = .ok (.astore i, 2)) (hn : i < mi.2.1) (hv : (i, Value.ref x) :: lv.filter (fun q => !(q.1 == i) && !(q.1 + 1 == i && q.2.category == 2)) = lv2) (K : SemW G l mi k n Q (pc + 2) lv2 st ws o) : SemW G l mi k n Q pc lv (.ref x :: st) ws o := by
  intro p e R s m args below meth c hM H locs cells slots mc ms ls hP hS hl h1 h2 h3 h4 z hz
  exact lv_astore hM.2.1 hM.2.2.1 hd hl hn hv (fun ls2 hl2 => (K p e R s m args below meth c hM H locs cells slots mc ms ls2 hP hS hl2 h1 h2 h3 h4 z hz))
theorem s_iinc {i : Nat} {a : Int} {x : Int32} (j : Nat) (d : Int32) (lv2 : List (Nat × Value)) (hd : decode mi.1 pc = .ok (.iinc i a, 3)) (hk : lv[j]? = some (i, .int x)) (ha : Int32.ofInt a = d) (hn : i < mi.2.1) (hv : (i, Value.int (x + d)) :: lv.filter (fun q => !(q.1 == i) && !(q.1 + 1 == i && q.2.category == 2)) = lv2) (K : SemW G l mi k n Q (pc + 3) lv2 st ws o) : SemW G l mi k n Q pc lv st ws o := by
  intro p e R s m args below meth c hM H locs cells slots mc ms ls hP hS hl h1 h2 h3 h4 z hz
  subst ha
  exact lv_iinc hM.2.1 hM.2.2.1 hd hl hk rfl hn hv (fun ls2 hl2 => (K p e R s m args below meth c hM H locs cells slots mc ms ls2 hP hS hl2 h1 h2 h3 h4 z hz))
theorem s_if_eq {x : Int32} {off : Int} (tgt : Nat) {o2 : Option T} (hd : decode mi.1 pc = .ok (.ifCond .eq off, 3)) (ht : (pc : Int) + off = (tgt : Int)) (K : SemW G l mi k n Q tgt lv st ws o) (K2 : SemW G l mi k n Q (pc + 3) lv st ws o2) : SemW G l mi k n Q pc lv (.int x :: st) ws (if x = 0 then o else o2) := by
  intro p e R s m args below meth c hM H locs cells slots mc ms ls hP hS hl h1 h2 h3 h4 z hz
  exact lv_if_eq hM.2.1 hM.2.2.1 hd ht (fun h => (K p e R s m args below meth c hM H locs cells slots mc ms ls hP hS hl h1 h2 h3 h4 z (by rw [if_pos h] at hz; exact hz))) (fun h => (K2 p e R s m args below meth c hM H locs cells slots mc ms ls hP hS hl h1 h2 h3 h4 z (by rw [if_neg h] at hz; exact hz)))
theorem s_if_lt {x : Int32} {off : Int} (tgt : Nat) {o2 : Option T} (hd : decode mi.1 pc = .ok (.ifCond .lt off, 3)) (ht : (pc : Int) + off = (tgt : Int)) (K : SemW G l mi k n Q tgt lv st ws o) (K2 : SemW G l mi k n Q (pc + 3) lv st ws o2) : SemW G l mi k n Q pc lv (.int x :: st) ws (if x < 0 then o else o2) := by
  intro p e R s m args below meth c hM H locs cells slots mc ms ls hP hS hl h1 h2 h3 h4 z hz
  exact lv_if_lt hM.2.1 hM.2.2.1 hd ht (fun h => (K p e R s m args below meth c hM H locs cells slots mc ms ls hP hS hl h1 h2 h3 h4 z (by rw [if_pos h] at hz; exact hz))) (fun h => (K2 p e R s m args below meth c hM H locs cells slots mc ms ls hP hS hl h1 h2 h3 h4 z (by rw [if_neg h] at hz; exact hz)))
theorem s_if_ge {x : Int32} {off : Int} (tgt : Nat) {o2 : Option T} (hd : decode mi.1 pc = .ok (.ifCond .ge off, 3)) (ht : (pc : Int) + off = (tgt : Int)) (K : SemW G l mi k n Q tgt lv st ws o) (K2 : SemW G l mi k n Q (pc + 3) lv st ws o2) : SemW G l mi k n Q pc lv (.int x :: st) ws (if 0 ≤ x then o else o2) := by
  intro p e R s m args below meth c hM H locs cells slots mc ms ls hP hS hl h1 h2 h3 h4 z hz
  exact lv_if_ge hM.2.1 hM.2.2.1 hd ht (fun h => (K p e R s m args below meth c hM H locs cells slots mc ms ls hP hS hl h1 h2 h3 h4 z (by rw [if_pos h] at hz; exact hz))) (fun h => (K2 p e R s m args below meth c hM H locs cells slots mc ms ls hP hS hl h1 h2 h3 h4 z (by rw [if_neg h] at hz; exact hz)))
theorem s_if_gt {x : Int32} {off : Int} (tgt : Nat) {o2 : Option T} (hd : decode mi.1 pc = .ok (.ifCond .gt off, 3)) (ht : (pc : Int) + off = (tgt : Int)) (K : SemW G l mi k n Q tgt lv st ws o) (K2 : SemW G l mi k n Q (pc + 3) lv st ws o2) : SemW G l mi k n Q pc lv (.int x :: st) ws (if 0 < x then o else o2) := by
  intro p e R s m args below meth c hM H locs cells slots mc ms ls hP hS hl h1 h2 h3 h4 z hz
  exact lv_if_gt hM.2.1 hM.2.2.1 hd ht (fun h => (K p e R s m args below meth c hM H locs cells slots mc ms ls hP hS hl h1 h2 h3 h4 z (by rw [if_pos h] at hz; exact hz))) (fun h => (K2 p e R s m args below meth c hM H locs cells slots mc ms ls hP hS hl h1 h2 h3 h4 z (by rw [if_neg h] at hz; exact hz)))
theorem s_if_le {x : Int32} {off : Int} (tgt : Nat) {o2 : Option T} (hd : decode mi.1 pc = .ok (.ifCond .le off, 3)) (ht : (pc : Int) + off = (tgt : Int)) (K : SemW G l mi k n Q tgt lv st ws o) (K2 : SemW G l mi k n Q (pc + 3) lv st ws o2) : SemW G l mi k n Q pc lv (.int x :: st) ws (if x ≤ 0 then o else o2) := by
  intro p e R s m args below meth c hM H locs cells slots mc ms ls hP hS hl h1 h2 h3 h4 z hz
  exact lv_if_le hM.2.1 hM.2.2.1 hd ht (fun h => (K p e R s m args below meth c hM H locs cells slots mc ms ls hP hS hl h1 h2 h3 h4 z (by rw [if_pos h] at hz; exact hz))) (fun h => (K2 p e R s m args below meth c hM H locs cells slots mc ms ls hP hS hl h1 h2 h3 h4 z (by rw [if_neg h] at hz; exact hz)))
theorem s_if_ne {x : Int32} {off : Int} (tgt : Nat) {o2 : Option T} (hd : decode mi.1 pc = .ok (.ifCond .ne off, 3)) (ht : (pc : Int) + off = (tgt : Int)) (K : SemW G l mi k n Q (pc + 3) lv st ws o) (K2 : SemW G l mi k n Q tgt lv st ws o2) : SemW G l mi k n Q pc lv (.int x :: st) ws (if x = 0 then o else o2) := by
  intro p e R s m args below meth c hM H locs cells slots mc ms ls hP hS hl h1 h2 h3 h4 z hz
  exact lv_if_ne hM.2.1 hM.2.2.1 hd ht (fun h => (K2 p e R s m args below meth c hM H locs cells slots mc ms ls hP hS hl h1 h2 h3 h4 z (by rw [if_neg h] at hz; exact hz))) (fun h => (K p e R s m args below meth c hM H locs cells slots mc ms ls hP hS hl h1 h2 h3 h4 z (by rw [if_pos h] at hz; exact hz)))
theorem s_icmp_eq {x y : Int32} {off : Int} (tgt : Nat) {o2 : Option T} (hd : decode mi.1 pc = .ok (.if_icmp .eq off, 3)) (ht : (pc : Int) + off = (tgt : Int)) (K : SemW G l mi k n Q tgt lv st ws o) (K2 : SemW G l mi k n Q (pc + 3) lv st ws o2) : SemW G l mi k n Q pc lv (.int y :: .int x :: st) ws (if x = y then o else o2) := by
  intro p e R s m args below meth c hM H locs cells slots mc ms ls hP hS hl h1 h2 h3 h4 z hz
  exact lv_icmp_eq hM.2.1 hM.2.2.1 hd ht (fun h => (K p e R s m args below meth c hM H locs cells slots mc ms ls hP hS hl h1 h2 h3 h4 z (by rw [if_pos h] at hz; exact hz))) (fun h => (K2 p e R s m args below meth c hM H locs cells slots mc ms ls hP hS hl h1 h2 h3 h4 z (by rw [if_neg h] at hz; exact hz)))
theorem s_icmp_lt {x y : Int32} {off : Int} (tgt : Nat) {o2 : Option T} (hd : decode mi.1 pc = .ok (.if_icmp .lt off, 3)) (ht : (pc : Int) + off = (tgt : Int)) (K : SemW G l mi k n Q tgt lv st ws o) (K2 : SemW G l mi k n Q (pc + 3) lv st ws o2) : SemW G l mi k n Q pc lv (.int y :: .int x :: st) ws (if x < y then o else o2) := by
  intro p e R s m args below meth c hM H locs cells slots mc ms ls hP hS hl h1 h2 h3 h4 z hz
  exact lv_icmp_lt hM.2.1 hM.2.2.1 hd ht (fun h => (K p e R s m args below meth c hM H locs cells slots mc ms ls hP hS hl h1 h2 h3 h4 z (by rw [if_pos h] at hz; exact hz))) (fun h => (K2 p e R s m args below meth c hM H locs cells slots mc ms ls hP hS hl h1 h2 h3 h4 z (by rw [if_neg h] at hz; exact hz)))
theorem s_icmp_ge {x y : Int32} {off : Int} (tgt : Nat) {o2 : Option T} (hd : decode mi.1 pc = .ok (.if_icmp .ge off, 3)) (ht : (pc : Int) + off = (tgt : Int)) (K : SemW G l mi k n Q tgt lv st ws o) (K2 : SemW G l mi k n Q (pc + 3) lv st ws o2) : SemW G l mi k n Q pc lv (.int y :: .int x :: st) ws (if y ≤ x then o else o2) := by
  intro p e R s m args below meth c hM H locs cells slots mc ms ls hP hS hl h1 h2 h3 h4 z hz
  exact lv_icmp_ge hM.2.1 hM.2.2.1 hd ht (fun h => (K p e R s m args below meth c hM H locs cells slots mc ms ls hP hS hl h1 h2 h3 h4 z (by rw [if_pos h] at hz; exact hz))) (fun h => (K2 p e R s m args below meth c hM H locs cells slots mc ms ls hP hS hl h1 h2 h3 h4 z (by rw [if_neg h] at hz; exact hz)))
theorem s_icmp_gt {x y : Int32} {off : Int} (tgt : Nat) {o2 : Option T} (hd : decode mi.1 pc = .ok (.if_icmp .gt off, 3)) (ht : (pc : Int) + off = (tgt : Int)) (K : SemW G l mi k n Q tgt lv st ws o) (K2 : SemW G l mi k n Q (pc + 3) lv st ws o2) : SemW G l mi k n Q pc lv (.int y :: .int x :: st) ws (if y < x then o else o2) := by
  intro p e R s m args below meth c hM H locs cells slots mc ms ls hP hS hl h1 h2 h3 h4 z hz
  exact lv_icmp_gt hM.2.1 hM.2.2.1 hd ht (fun h => (K p e R s m args below meth c hM H locs cells slots mc ms ls hP hS hl h1 h2 h3 h4 z (by rw [if_pos h] at hz; exact hz))) (fun h => (K2 p e R s m args below meth c hM H locs cells slots mc ms ls hP hS hl h1 h2 h3 h4 z (by rw [if_neg h] at hz; exact hz)))
theorem s_icmp_le {x y : Int32} {off : Int} (tgt : Nat) {o2 : Option T} (hd : decode mi.1 pc = .ok (.if_icmp .le off, 3)) (ht : (pc : Int) + off = (tgt : Int)) (K : SemW G l mi k n Q tgt lv st ws o) (K2 : SemW G l mi k n Q (pc + 3) lv st ws o2) : SemW G l mi k n Q pc lv (.int y :: .int x :: st) ws (if x ≤ y then o else o2) := by
  intro p e R s m args below meth c hM H locs cells slots mc ms ls hP hS hl h1 h2 h3 h4 z hz
  exact lv_icmp_le hM.2.1 hM.2.2.1 hd ht (fun h => (K p e R s m args below meth c hM H locs cells slots mc ms ls hP hS hl h1 h2 h3 h4 z (by rw [if_pos h] at hz; exact hz))) (fun h => (K2 p e R s m args below meth c hM H locs cells slots mc ms ls hP hS hl h1 h2 h3 h4 z (by rw [if_neg h] at hz; exact hz)))
theorem s_icmp_ne {x y : Int32} {off : Int} (tgt : Nat) {o2 : Option T} (hd : decode mi.1 pc = .ok (.if_icmp .ne off, 3)) (ht : (pc : Int) + off = (tgt : Int)) (K : SemW G l mi k n Q (pc + 3) lv st ws o) (K2 : SemW G l mi k n Q tgt lv st ws o2) : SemW G l mi k n Q pc lv (.int y :: .int x :: st) ws (if x = y then o else o2) := by
  intro p e R s m args below meth c hM H locs cells slots mc ms ls hP hS hl h1 h2 h3 h4 z hz
  exact lv_icmp_ne hM.2.1 hM.2.2.1 hd ht (fun h => (K2 p e R s m args below meth c hM H locs cells slots mc ms ls hP hS hl h1 h2 h3 h4 z (by rw [if_neg h] at hz; exact hz))) (fun h => (K p e R s m args below meth c hM H locs cells slots mc ms ls hP hS hl h1 h2 h3 h4 z (by rw [if_pos h] at hz; exact hz)))
theorem s_goto {off : Int} (tgt : Nat) (hd : decode mi.1 pc = .ok (.goto off, 3)) (ht : (pc : Int) + off = (tgt : Int)) (K : SemW G l mi k n Q tgt lv st ws o) : SemW G l mi k n Q pc lv st ws o := by
  intro p e R s m args below meth c hM H locs cells slots mc ms ls hP hS hl h1 h2 h3 h4 z hz
  exact lv_goto hM.2.1 hM.2.2.1 hd ht (K p e R s m args below meth c hM H locs cells slots mc ms ls hP hS hl h1 h2 h3 h4 z hz)
/-- a field as a method of class own reaches it -/
def FK (G : GT) (own : String) (index ci q : Nat) (CC : String) (TT : u_T) (NN : Nat) : Prop := GW G (.fieldLink own index CC (TT q).2.1 (TT q).2.2.1) ∧ vwCl[ci]? = some (CC, TT, NN) ∧ (∀ w ∈ u_ws CC TT NN, GW G w) ∧ q < NN ∧ (TT q).1 = CC ∧ ci < 12
def FI (G : GT) (own : String) (index ci q t o9 : Nat) : Prop := ∃ CC TT NN, FK G own index ci q CC TT NN ∧ (spc ci)[q]? = some (t, o9)
def FP (G : GT) (own : String) (index ci q t : Nat) (ty : FieldType) : Prop := ∃ CC TT NN, FK G own index ci q CC TT NN ∧ (∃ o9, (spc ci)[q]? = some (t, o9)) ∧ (∀ a, a < NN → ∀ b, b < NN → a ≠ b → (TT a).2.1 ≠ (TT b).2.1) ∧ (TT q).2.2.2 = false ∧ ∃ ty0 : Nat → FieldType, (∀ k, k < NN → parseFieldDescriptor (TT k).2.2.1 = some (ty0 k)) ∧ ty0 q = ty
theorem s_getI {x ci q o9 index : Nat} (hd : decode mi.1 pc = .ok (.getfield index, 3)) (hF : FI G mi.2.2.1 index ci q 0 o9) (hx : kd x = ci) (K : Sem G l mi k n τ (pc + 3) lv (.int (P.1 x q) :: st) P o) : Sem G l mi k n τ pc lv (.ref (gA G x) :: st) P o := by
  intro p e R s m args below meth c hM H locs cells slots mc ms ls hP hS hl h1 h2 h3 h4 z hz
  obtain ⟨CC, TT, NN, ⟨hw, hc, hwc, hq, hs, h12⟩, hf⟩ := hF
  exact va_get (Ts := u_ws CC TT NN) (T := TT) (own := mi.2.2.1) (ref := CC) (v := .int (P.1 x q)) hM.2.1 hM.2.2.1 (fun w h => hM.w (hwc w h) args) (fun _ h => h) hM.2.2.2.2.1 hM.kk hP x (wa_obj hx h12) hc q hq (hM.w hw args) (fun _ h => hs ▸ h) (fls_at hf) hd (K p e R s m args below meth c hM H locs cells slots mc ms ls hP hS hl h1 h2 h3 h4 z hz)
theorem s_getL {x ci q o9 index : Nat} (hd : decode mi.1 pc = .ok (.getfield index, 3)) (hF : FI G mi.2.2.1 index ci q 1 o9) (hx : kd x = ci) (K : Sem G l mi k n τ (pc + 3) lv (.long (P.2 x q) :: st) P o) : Sem G l mi k n τ pc lv (.ref (gA G x) :: st) P o := by
  intro p e R s m args below meth c hM H locs cells slots mc ms ls hP hS hl h1 h2 h3 h4 z hz
  obtain ⟨CC, TT, NN, ⟨hw, hc, hwc, hq, hs, h12⟩, hf⟩ := hF
  exact va_get (Ts := u_ws CC TT NN) (T := TT) (own := mi.2.2.1) (ref := CC) (v := .long (P.2 x q)) hM.2.1 hM.2.2.1 (fun w h => hM.w (hwc w h) args) (fun _ h => h) hM.2.2.2.2.1 hM.kk hP x (wa_obj hx h12) hc q hq (hM.w hw args) (fun _ h => hs ▸ h) (fls_at hf) hd (K p e R s m args below meth c hM H locs cells slots mc ms ls hP hS hl h1 h2 h3 h4 z hz)
theorem s_getR {x ci q o9 index : Nat} {t : Nat} (y : Nat) (hd : decode mi.1 pc = .ok (.getfield index, 3)) (hF : FI G mi.2.2.1 index ci q (t + 2) o9) (hx : kd x = ci) (hy : rfn x (t + 2, o9) = y) (K : Sem G l mi k n τ (pc + 3) lv (.ref (gA G y) :: st) P o) : Sem G l mi k n τ pc lv (.ref (gA G x) :: st) P o := by
  intro p e R s m args below meth c hM H locs cells slots mc ms ls hP hS hl h1 h2 h3 h4 z hz
  obtain ⟨CC, TT, NN, ⟨hw, hc, hwc, hq, hs, h12⟩, hf⟩ := hF
  subst hy
  exact va_get (Ts := u_ws CC TT NN) (T := TT) (own := mi.2.2.1) (ref := CC) (v := .ref (gA G (rfn x (t + 2, o9)))) hM.2.1 hM.2.2.1 (fun w h => hM.w (hwc w h) args) (fun _ h => h) hM.2.2.2.2.1 hM.kk hP x (wa_obj hx h12) hc q hq (hM.w hw args) (fun _ h => hs ▸ h) (fls_at hf) hd (K p e R s m args below meth c hM H locs cells slots mc ms ls hP hS hl h1 h2 h3 h4 z hz)
theorem s_putI {x ci q index : Nat} {v : Int32} (hd : decode mi.1 pc = .ok (.putfield index, 3)) (hF : FP G mi.2.2.1 index ci q 0 .int) (hx : kd x = ci) (K : Sem G l mi k n τ (pc + 3) lv st (sI P x q v) o) : Sem G l mi k n τ pc lv (.int v :: .ref (gA G x) :: st) P o := by
  intro p e R s m args below meth c hM H locs cells slots mc ms ls hP hS hl h1 h2 h3 h4 z hz
  obtain ⟨CC, TT, NN, ⟨hw, hc, hwc, hq, hs, h12⟩, ⟨o9, hf⟩, hnm, hfin, ty0, hty, hT⟩ := hF
  exact va_put (Ts := u_ws CC TT NN) (T := TT) (own := mi.2.2.1) (ref := CC) (v := .int v) (ty := .int) hM.2.1 hM.2.2.1 (fun w h => hM.w (hwc w h) args) (fun _ h => h) ty0 hty hnm hM.2.2.2.2.1 hM.kk hP (va_P_D hM.1 P) hS x (wa_obj hx h12) hc q hq (hM.w hw args) (fun _ h => hs ▸ h) hfin (by rw [hty q hq, hT]) rfl rfl (by rw [fls, List.length_mapIdx]; exact (List.getElem?_eq_some_iff.mp hf).1) hd (fun H1 locs1 hP1 _ hS1 => (K p e R s m args below meth c hM H1 locs1 cells slots mc ms ls (by rw [wset_fI hx h12 hf] at hP1; exact hP1) hS1 hl h1 h2 h3 h4 z hz))
theorem s_putL {x ci q index : Nat} {v : Int64} (hd : decode mi.1 pc = .ok (.putfield index, 3)) (hF : FP G mi.2.2.1 index ci q 1 .long) (hx : kd x = ci) (K : Sem G l mi k n τ (pc + 3) lv st (sL P x q v) o) : Sem G l mi k n τ pc lv (.long v :: .ref (gA G x) :: st) P o := by
  intro p e R s m args below meth c hM H locs cells slots mc ms ls hP hS hl h1 h2 h3 h4 z hz
  obtain ⟨CC, TT, NN, ⟨hw, hc, hwc, hq, hs, h12⟩, ⟨o9, hf⟩, hnm, hfin, ty0, hty, hT⟩ := hF
  exact va_put (Ts := u_ws CC TT NN) (T := TT) (own := mi.2.2.1) (ref := CC) (v := .long v) (ty := .long) hM.2.1 hM.2.2.1 (fun w h => hM.w (hwc w h) args) (fun _ h => h) ty0 hty hnm hM.2.2.2.2.1 hM.kk hP (va_P_D hM.1 P) hS x (wa_obj hx h12) hc q hq (hM.w hw args) (fun _ h => hs ▸ h) hfin (by rw [hty q hq, hT]) rfl rfl (by rw [fls, List.length_mapIdx]; exact (List.getElem?_eq_some_iff.mp hf).1) hd (fun H1 locs1 hP1 _ hS1 => (K p e R s m args below meth c hM H1 locs1 cells slots mc ms ls (by rw [wset_fL hx h12 hf] at hP1; exact hP1) hS1 hl h1 h2 h3 h4 z hz))
theorem s_putZ {x ci q index : Nat} {v : Int32} (hd : decode mi.1 pc = .ok (.putfield index, 3)) (hF : FP G mi.2.2.1 index ci q 0 .boolean) (hx : kd x = ci) (K : Sem G l mi k n τ (pc + 3) lv st (sI P x q v) o) : Sem G l mi k n τ pc lv (.int v :: .ref (gA G x) :: st) P (gdP (v = 0 ∨ v = 1) o) := by
  intro p e R s m args below meth c hM H locs cells slots mc ms ls hP hS hl h1 h2 h3 h4 z hz
  obtain ⟨CC, TT, NN, ⟨hw, hc, hwc, hq, hs, h12⟩, ⟨o9, hf⟩, hnm, hfin, ty0, hty, hT⟩ := hF
  obtain ⟨hv, hz⟩ := gdP_some hz
  exact va_put (Ts := u_ws CC TT NN) (T := TT) (own := mi.2.2.1) (ref := CC) (v := .int v) (ty := .boolean) hM.2.1 hM.2.2.1 (fun w h => hM.w (hwc w h) args) (fun _ h => h) ty0 hty hnm hM.2.2.2.2.1 hM.kk hP (va_P_D hM.1 P) hS x (wa_obj hx h12) hc q hq (hM.w hw args) (fun _ h => hs ▸ h) hfin (by rw [hty q hq, hT]) (by rcases hv with rfl | rfl <;> rfl) (by rcases hv with rfl | rfl <;> rfl) (by rw [fls, List.length_mapIdx]; exact (List.getElem?_eq_some_iff.mp hf).1) hd (fun H1 locs1 hP1 _ hS1 => (K p e R s m args below meth c hM H1 locs1 cells slots mc ms ls (by rw [wset_fI hx h12 hf] at hP1; exact hP1) hS1 hl h1 h2 h3 h4 z hz))
theorem s_guard {c9 : Prop} [Decidable c9] (K : c9 → SemW G l mi k n Q pc lv st ws o) : SemW G l mi k n Q pc lv st ws (gdP c9 o) := by
  intro p e R s m args below meth c hM H locs cells slots mc ms ls hP hS hl h1 h2 h3 h4 z hz
  obtain ⟨h9, hz⟩ := gdP_some hz
  exact (K h9 p e R s m args below meth c hM H locs cells slots mc ms ls hP hS hl h1 h2 h3 h4 z hz)
theorem s_alen {x t : Nat} (N : Nat) (v : Int32) (hd : decode mi.1 pc = .ok (.arraylength, 1)) (hx : kd x = t + 12) (ht : t < 6) (hn : ln x = N) (hv : Int32.ofNat N = v) (K : Sem G l mi k n τ (pc + 1) lv (.int v :: st) P o) : Sem G l mi k n τ pc lv (.ref (gA G x) :: st) P o := by
  intro p e R s m args below meth c hM H locs cells slots mc ms ls hP hS hl h1 h2 h3 h4 z hz
  subst hn
  match t, ht, hx with
  | 0, _, hx => exact va_alen hM.2.1 hM.2.2.1 hM.kk hP x 0 (wa_byte hx) rfl hv hd (K p e R s m args below meth c hM H locs cells slots mc ms ls hP hS hl h1 h2 h3 h4 z hz)
  | 1, _, hx => exact va_alen hM.2.1 hM.2.2.1 hM.kk hP x 1 (wa_int hx) rfl hv hd (K p e R s m args below meth c hM H locs cells slots mc ms ls hP hS hl h1 h2 h3 h4 z hz)
  | 2, _, hx => exact va_alen hM.2.1 hM.2.2.1 hM.kk hP x 2 (wa_long hx) rfl hv hd (K p e R s m args below meth c hM H locs cells slots mc ms ls hP hS hl h1 h2 h3 h4 z hz)
  | 3, _, hx => exact va_alen hM.2.1 hM.2.2.1 hM.kk hP x 3 (wa_bool hx) rfl hv hd (K p e R s m args below meth c hM H locs cells slots mc ms ls hP hS hl h1 h2 h3 h4 z hz)
  | 4, _, hx => exact va_alen hM.2.1 hM.2.2.1 hM.kk hP x 4 (wa_img hx) rfl hv hd (K p e R s m args below meth c hM H locs cells slots mc ms ls hP hS hl h1 h2 h3 h4 z hz)
  | 5, _, hx => exact va_alen hM.2.1 hM.2.2.1 hM.kk hP x 5 (wa_tray hx) rfl hv hd (K p e R s m args below meth c hM H locs cells slots mc ms ls hP hS hl h1 h2 h3 h4 z hz)
  | t + 6, h, _ => omega
theorem s_iald {x : Nat} {i : Int32} (N : Nat) (hd : decode mi.1 pc = .ok (.iaload, 1)) (hx : kd x = 13) (hn : ln x = N) (K : Sem G l mi k n τ (pc + 1) lv (.int (P.1 x i.toNatClampNeg) :: st) P o) : Sem G l mi k n τ pc lv (.int i :: .ref (gA G x) :: st) P (gdI i N o) := by
  intro p e R s m args below meth c hM H locs cells slots mc ms ls hP hS hl h1 h2 h3 h4 z hz
  obtain ⟨hi, hy⟩ := gdI_some hz
  subst hn
  exact va_iald hM.2.1 hM.2.2.1 hM.kk hP x 1 (wa_int hx) rfl hi hd (K p e R s m args below meth c hM H locs cells slots mc ms ls hP hS hl h1 h2 h3 h4 z hy)
theorem s_bald {x : Nat} {i : Int32} (N : Nat) (hd : decode mi.1 pc = .ok (.baload, 1)) (hx : kd x = 12) (hn : ln x = N) (K : Sem G l mi k n τ (pc + 1) lv (.int (P.1 x i.toNatClampNeg) :: st) P o) : Sem G l mi k n τ pc lv (.int i :: .ref (gA G x) :: st) P (gdI i N o) := by
  intro p e R s m args below meth c hM H locs cells slots mc ms ls hP hS hl h1 h2 h3 h4 z hz
  obtain ⟨hi, hy⟩ := gdI_some hz
  subst hn
  exact va_bald hM.2.1 hM.2.2.1 hM.kk hP x 0 (wa_byte hx) rfl hi hd (K p e R s m args below meth c hM H locs cells slots mc ms ls hP hS hl h1 h2 h3 h4 z hy)
theorem s_zald {x : Nat} {i : Int32} (N : Nat) (hd : decode mi.1 pc = .ok (.baload, 1)) (hx : kd x = 15) (hn : ln x = N) (K : Sem G l mi k n τ (pc + 1) lv (.int (P.1 x i.toNatClampNeg) :: st) P o) : Sem G l mi k n τ pc lv (.int i :: .ref (gA G x) :: st) P (gdI i N o) := by
  intro p e R s m args below meth c hM H locs cells slots mc ms ls hP hS hl h1 h2 h3 h4 z hz
  obtain ⟨hi, hy⟩ := gdI_some hz
  subst hn
  exact va_zald hM.2.1 hM.2.2.1 hM.kk hP x 3 (wa_bool hx) rfl hi hd (K p e R s m args below meth c hM H locs cells slots mc ms ls hP hS hl h1 h2 h3 h4 z hy)
theorem s_lald {x : Nat} {i : Int32} (N : Nat) (hd : decode mi.1 pc = .ok (.laload, 1)) (hx : kd x = 14) (hn : ln x = N) (K : Sem G l mi k n τ (pc + 1) lv (.long (P.2 x i.toNatClampNeg) :: st) P o) : Sem G l mi k n τ pc lv (.int i :: .ref (gA G x) :: st) P (gdI i N o) := by
  intro p e R s m args below meth c hM H locs cells slots mc ms ls hP hS hl h1 h2 h3 h4 z hz
  obtain ⟨hi, hy⟩ := gdI_some hz
  subst hn
  exact va_lald hM.2.1 hM.2.2.1 hM.kk hP x 2 (wa_long hx) rfl hi hd (K p e R s m args below meth c hM H locs cells slots mc ms ls hP hS hl h1 h2 h3 h4 z hy)
theorem s_iast {x : Nat} {i : Int32} {v : Int32} (N : Nat) (hd : decode mi.1 pc = .ok (.iastore, 1)) (hx : kd x = 13) (hn : ln x = N) (K : Sem G l mi k n τ (pc + 1) lv st (sI P x i.toNatClampNeg v) o) : Sem G l mi k n τ pc lv (.int v :: .int i :: .ref (gA G x) :: st) P (gdI i N o) := by
  intro p e R s m args below meth c hM H locs cells slots mc ms ls hP hS hl h1 h2 h3 h4 z hz
  obtain ⟨hi, hy⟩ := gdI_some hz
  subst hn
  exact va_iast hM.2.1 hM.2.2.1 hM.kk hP (va_P_D hM.1 P) hS x 1 (wa_int hx) rfl hi hd (fun H1 locs1 hP1 _ hS1 => (K p e R s m args below meth c hM H1 locs1 cells slots mc ms ls (by rw [wset_aI hx (Or.inr (Or.inl rfl))] at hP1; exact hP1) hS1 hl h1 h2 h3 h4 z hy))
theorem s_bast {x : Nat} {i : Int32} {v : Int32} (N : Nat) (hd : decode mi.1 pc = .ok (.bastore, 1)) (hx : kd x = 12) (hn : ln x = N) (K : Sem G l mi k n τ (pc + 1) lv st (sI P x i.toNatClampNeg (vp_nar .byte v)) o) : Sem G l mi k n τ pc lv (.int v :: .int i :: .ref (gA G x) :: st) P (gdI i N o) := by
  intro p e R s m args below meth c hM H locs cells slots mc ms ls hP hS hl h1 h2 h3 h4 z hz
  obtain ⟨hi, hy⟩ := gdI_some hz
  subst hn
  exact va_bast hM.2.1 hM.2.2.1 hM.kk hP (va_P_D hM.1 P) hS x 0 (wa_byte hx) rfl hi hd (fun H1 locs1 hP1 _ hS1 => (K p e R s m args below meth c hM H1 locs1 cells slots mc ms ls (by rw [wset_aI hx (Or.inl rfl)] at hP1; exact hP1) hS1 hl h1 h2 h3 h4 z hy))
theorem s_zast {x : Nat} {i : Int32} {v : Int32} (N : Nat) (hd : decode mi.1 pc = .ok (.bastore, 1)) (hx : kd x = 15) (hn : ln x = N) (K : Sem G l mi k n τ (pc + 1) lv st (sI P x i.toNatClampNeg (vp_nar .boolean v)) o) : Sem G l mi k n τ pc lv (.int v :: .int i :: .ref (gA G x) :: st) P (gdI i N o) := by
  intro p e R s m args below meth c hM H locs cells slots mc ms ls hP hS hl h1 h2 h3 h4 z hz
  obtain ⟨hi, hy⟩ := gdI_some hz
  subst hn
  exact va_zast hM.2.1 hM.2.2.1 hM.kk hP (va_P_D hM.1 P) hS x 3 (wa_bool hx) rfl hi hd (fun H1 locs1 hP1 _ hS1 => (K p e R s m args below meth c hM H1 locs1 cells slots mc ms ls (by rw [wset_aI hx (Or.inr (Or.inr rfl))] at hP1; exact hP1) hS1 hl h1 h2 h3 h4 z hy))
theorem s_last {x : Nat} {i : Int32} {v : Int64} (N : Nat) (hd : decode mi.1 pc = .ok (.lastore, 1)) (hx : kd x = 14) (hn : ln x = N) (K : Sem G l mi k n τ (pc + 1) lv st (sL P x i.toNatClampNeg v) o) : Sem G l mi k n τ pc lv (.long v :: .int i :: .ref (gA G x) :: st) P (gdI i N o) := by
  intro p e R s m args below meth c hM H locs cells slots mc ms ls hP hS hl h1 h2 h3 h4 z hz
  obtain ⟨hi, hy⟩ := gdI_some hz
  subst hn
  exact va_last hM.2.1 hM.2.2.1 hM.kk hP (va_P_D hM.1 P) hS x 2 (wa_long hx) rfl hi hd (fun H1 locs1 hP1 _ hS1 => (K p e R s m args below meth c hM H1 locs1 cells slots mc ms ls (by rw [wset_aL hx] at hP1; exact hP1) hS1 hl h1 h2 h3 h4 z hy))
theorem s_aaldI {x : Nat} {i : Int32} (hd : decode mi.1 pc = .ok (.aaload, 1)) (hx : kd x = 16) (hn : ln x = 3) (K : Sem G l mi k n τ (pc + 1) lv (.ref (gA G (61 + i.toNatClampNeg)) :: st) P o) : Sem G l mi k n τ pc lv (.int i :: .ref (gA G x) :: st) P (gdI i 3 o) := by
  intro p e R s m args below meth c hM H locs cells slots mc ms ls hP hS hl h1 h2 h3 h4 z hz
  obtain ⟨hi, hy⟩ := gdI_some hz
  have hlt : i.toNatClampNeg < 3 := Nat.not_le.mp fun q => hi (Or.inr q)
  have r := (K p e R s m args below meth c hM H locs cells slots mc ms ls hP hS hl h1 h2 h3 h4 z hy)
  refine va_aldq hM.2.1 hM.2.2.1 hM.kk hP x 4 (wa_img hx) rfl (by rw [hn]; exact hi) hd ?_
  show W p l e R s m args below meth c H locs cells slots _ (F0 m (pc + 1) ls (va_rf ((aImg i.toNatClampNeg).map (gA G)) :: st))
  unfold aImg
  rw [if_pos hlt]
  exact r
theorem s_aaldT {x : Nat} {i : Int32} (hd : decode mi.1 pc = .ok (.aaload, 1)) (hx : kd x = 17) (hn : ln x = 4) (K : Sem G l mi k n τ (pc + 1) lv (.ref (gA G (53 + 2 * i.toNatClampNeg)) :: st) P o) : Sem G l mi k n τ pc lv (.int i :: .ref (gA G x) :: st) P (gdI i 4 o) := by
  intro p e R s m args below meth c hM H locs cells slots mc ms ls hP hS hl h1 h2 h3 h4 z hz
  obtain ⟨hi, hy⟩ := gdI_some hz
  have hlt : i.toNatClampNeg < 4 := Nat.not_le.mp fun q => hi (Or.inr q)
  have r := (K p e R s m args below meth c hM H locs cells slots mc ms ls hP hS hl h1 h2 h3 h4 z hy)
  refine va_aldq hM.2.1 hM.2.2.1 hM.kk hP x 5 (wa_tray hx) rfl (by rw [hn]; exact hi) hd ?_
  show W p l e R s m args below meth c H locs cells slots _ (F0 m (pc + 1) ls (va_rf ((aTray i.toNatClampNeg).map (gA G)) :: st))
  unfold aTray
  rw [if_pos hlt]
  exact r
theorem s_get_east {index : Nat} (hd : decode mi.1 pc = .ok (.getstatic index, 3)) (hw : GW G (.fieldLink mi.2.2.1 index "BothSides" "EAST_BY" "[I")) (K : SemW G l mi k n Q (pc + 3) lv (.ref (gEa G) :: st) ws o) : SemW G l mi k n Q pc lv st ws o := by
  intro p e R s m args below meth c hM H locs cells slots mc ms ls hP hS hl h1 h2 h3 h4 z hz
  exact va_gets hM.2.1 hM.2.2.1 (va_Z.kept (va_Z.moved hM.2.2.2.2.2.2.2.1.1.alike hM.1.2.2.2.2.1.1.1) hM.keep) hS hM.2.2.2.2.1 (hM.w hw args) (fun _ h => h) hd (K p e R s m args below meth c hM H locs cells slots mc ms ls hP hS hl h1 h2 h3 h4 z hz)
theorem s_len_east  (hd : decode mi.1 pc = .ok (.arraylength, 1)) (K : SemW G l mi k n Q (pc + 1) lv (.int 8 :: st) ws o) : SemW G l mi k n Q pc lv (.ref (gEa G) :: st) ws o := by
  intro p e R s m args below meth c hM H locs cells slots mc ms ls hP hS hl h1 h2 h3 h4 z hz
  exact va_tlen hM.2.1 hM.2.2.1 (va_T.kept (va_T.moved hM.2.2.2.2.2.2.2.1.1.alike hM.1.2.2.2.2.1.1.2) hM.keep) hS rfl hd (K p e R s m args below meth c hM H locs cells slots mc ms ls hP hS hl h1 h2 h3 h4 z hz)
theorem s_ld_east {i : Int32} (hd : decode mi.1 pc = .ok (.iaload, 1)) (K : SemW G l mi k n Q (pc + 1) lv (.int (eastBy i.toNatClampNeg) :: st) ws o) : SemW G l mi k n Q pc lv (.int i :: .ref (gEa G) :: st) ws (gdI i 8 o) := by
  intro p e R s m args below meth c hM H locs cells slots mc ms ls hP hS hl h1 h2 h3 h4 z hz
  obtain ⟨hi, hz⟩ := gdI_some hz
  exact va_ti hM.2.1 hM.2.2.1 (va_T.kept (va_T.moved hM.2.2.2.2.2.2.2.1.1.alike hM.1.2.2.2.2.1.1.2) hM.keep) hS hi rfl hd (K p e R s m args below meth c hM H locs cells slots mc ms ls hP hS hl h1 h2 h3 h4 z hz)
theorem s_get_north {index : Nat} (hd : decode mi.1 pc = .ok (.getstatic index, 3)) (hw : GW G (.fieldLink mi.2.2.1 index "BothSides" "NORTH_BY" "[I")) (K : SemW G l mi k n Q (pc + 3) lv (.ref (gNo G) :: st) ws o) : SemW G l mi k n Q pc lv st ws o := by
  intro p e R s m args below meth c hM H locs cells slots mc ms ls hP hS hl h1 h2 h3 h4 z hz
  exact va_gets hM.2.1 hM.2.2.1 (va_Z.kept (va_Z.moved hM.2.2.2.2.2.2.2.1.1.alike hM.1.2.2.2.2.1.2.1.1) hM.keep) hS hM.2.2.2.2.1 (hM.w hw args) (fun _ h => h) hd (K p e R s m args below meth c hM H locs cells slots mc ms ls hP hS hl h1 h2 h3 h4 z hz)
theorem s_len_north  (hd : decode mi.1 pc = .ok (.arraylength, 1)) (K : SemW G l mi k n Q (pc + 1) lv (.int 8 :: st) ws o) : SemW G l mi k n Q pc lv (.ref (gNo G) :: st) ws o := by
  intro p e R s m args below meth c hM H locs cells slots mc ms ls hP hS hl h1 h2 h3 h4 z hz
  exact va_tlen hM.2.1 hM.2.2.1 (va_T.kept (va_T.moved hM.2.2.2.2.2.2.2.1.1.alike hM.1.2.2.2.2.1.2.1.2) hM.keep) hS rfl hd (K p e R s m args below meth c hM H locs cells slots mc ms ls hP hS hl h1 h2 h3 h4 z hz)
theorem s_ld_north {i : Int32} (hd : decode mi.1 pc = .ok (.iaload, 1)) (K : SemW G l mi k n Q (pc + 1) lv (.int (northBy i.toNatClampNeg) :: st) ws o) : SemW G l mi k n Q pc lv (.int i :: .ref (gNo G) :: st) ws (gdI i 8 o) := by
  intro p e R s m args below meth c hM H locs cells slots mc ms ls hP hS hl h1 h2 h3 h4 z hz
  obtain ⟨hi, hz⟩ := gdI_some hz
  exact va_ti hM.2.1 hM.2.2.1 (va_T.kept (va_T.moved hM.2.2.2.2.2.2.2.1.1.alike hM.1.2.2.2.2.1.2.1.2) hM.keep) hS hi rfl hd (K p e R s m args below meth c hM H locs cells slots mc ms ls hP hS hl h1 h2 h3 h4 z hz)
theorem s_slen  (hd : decode mi.1 pc = .ok (.arraylength, 1)) (K : SemW G l mi k n Q (pc + 1) lv (.int (nI (gL G)) :: st) ws o) : SemW G l mi k n Q pc lv (.ref (gB G) :: st) ws o := by
  intro p e R s m args below meth c hM H locs cells slots mc ms ls hP hS hl h1 h2 h3 h4 z hz
  exact va_slen hM.2.1 hM.2.2.1 (va_X.kept (va_X.moved hM.2.2.2.2.2.2.2.1.1.alike hM.1.2.2.2.2.1.2.2.2.2.2.2.2.2.2.2.1) (hM.2.2.2.2.2.2.2.1.2.2 _ hM.1.2.2.2.2.1.2.2.2.2.2.2.2.2.2.2.2.2)) (Nat.lt_of_lt_of_le hM.1.2.2.2.2.1.2.2.2.2.2.2.2.2.2.2.2.2 hM.2.2.2.2.2.2.2.1.2.1) (Nat.not_le.mpr hM.1.2.2.2.2.1.2.2.2.2.2.2.2.2.2.2.2.2) hS hd (K p e R s m args below meth c hM H locs cells slots mc ms ls hP hS hl h1 h2 h3 h4 z hz)
theorem s_sld {i : Int32} (hd : decode mi.1 pc = .ok (.iaload, 1)) (K : SemW G l mi k n Q (pc + 1) lv (.int (gX G i.toNatClampNeg) :: st) ws o) : SemW G l mi k n Q pc lv (.int i :: .ref (gB G) :: st) ws (gdI i (gL G) o) := by
  intro p e R s m args below meth c hM H locs cells slots mc ms ls hP hS hl h1 h2 h3 h4 z hz
  obtain ⟨hi, hz⟩ := gdI_some hz
  exact va_sld hM.2.1 hM.2.2.1 (va_X.kept (va_X.moved hM.2.2.2.2.2.2.2.1.1.alike hM.1.2.2.2.2.1.2.2.2.2.2.2.2.2.2.2.1) (hM.2.2.2.2.2.2.2.1.2.2 _ hM.1.2.2.2.2.1.2.2.2.2.2.2.2.2.2.2.2.2)) (Nat.lt_of_lt_of_le hM.1.2.2.2.2.1.2.2.2.2.2.2.2.2.2.2.2.2 hM.2.2.2.2.2.2.2.1.2.1) (Nat.not_le.mpr hM.1.2.2.2.2.1.2.2.2.2.2.2.2.2.2.2.2.2) hS hi hd (K p e R s m args below meth c hM H locs cells slots mc ms ls hP hS hl h1 h2 h3 h4 z hz)
theorem s_ldc2 {index : Nat} {v : Int64} (hd : decode mi.1 pc = .ok (.ldc2_w index, 3)) (hw : GW G (.constantLong mi.2.2.1 index v)) (K : SemW G l mi k n Q (pc + 3) lv (.long v :: st) ws o) : SemW G l mi k n Q pc lv st ws o := by
  intro p e R s m args below meth c hM H locs cells slots mc ms ls hP hS hl h1 h2 h3 h4 z hz
  exact lv_ldc2 hM.2.1 hM.2.2.1 hM.2.2.2.2.1 (hM.w hw args) hd (K p e R s m args below meth c hM H locs cells slots mc ms ls hP hS hl h1 h2 h3 h4 z hz)
theorem s_ldc {index : Nat} {v : Int32} (hd : decode mi.1 pc = .ok (.ldc index, 2)) (hw : GW G (.constant mi.2.2.1 index v)) (K : SemW G l mi k n Q (pc + 2) lv (.int v :: st) ws o) : SemW G l mi k n Q pc lv st ws o := by
  intro p e R s m args below meth c hM H locs cells slots mc ms ls hP hS hl h1 h2 h3 h4 z hz
  exact lv_ldc hM.2.1 hM.2.2.1 hM.2.2.2.2.1 (hM.w hw args) hd (K p e R s m args below meth c hM H locs cells slots mc ms ls hP hS hl h1 h2 h3 h4 z hz)
theorem s_ldcw {index : Nat} {v : Int32} (hd : decode mi.1 pc = .ok (.ldc_w index, 3)) (hw : GW G (.constant mi.2.2.1 index v)) (K : SemW G l mi k n Q (pc + 3) lv (.int v :: st) ws o) : SemW G l mi k n Q pc lv st ws o := by
  intro p e R s m args below meth c hM H locs cells slots mc ms ls hP hS hl h1 h2 h3 h4 z hz
  exact lv_ldcw hM.2.1 hM.2.2.1 hM.2.2.2.2.1 (hM.w hw args) hd (K p e R s m args below meth c hM H locs cells slots mc ms ls hP hS hl h1 h2 h3 h4 z hz)
theorem s_iret {v : Int32} {x : T} (hd : decode mi.1 pc = .ok (.ireturn, 1)) (hr : mi.2.2.2.1 = some .int) (ht : τ x = (.inl (some (.int v)), P)) : Sem G l mi k n τ pc lv [.int v] P (some x) := by
  intro p e R s m args below meth c hM H locs cells slots mc ms ls hP hS hl h1 h2 h3 h4 z hz
  cases hz
  refine vx_ret (W.widen (k := mc) (n := ms) (by omega) (by omega) ?_)
  exact W.iret hM.2.1 hM.2.2.1 (hM.2.2.2.2.2.2.1.trans hr) (fun t hH _ => ⟨_, by rw [ht], rfl, by rw [ht, hH]; exact hP, hS.F hH⟩) hS.2.2 hd hM.2.2.2.2.2.1
theorem s_zret {v : Int32} {x : T} (hd : decode mi.1 pc = .ok (.ireturn, 1)) (hr : mi.2.2.2.1 = some .boolean) (ht : τ x = (.inl (some (.int v)), P)) : Sem G l mi k n τ pc lv [.int v] P (gdP (v = 0 ∨ v = 1) (some x)) := by
  intro p e R s m args below meth c hM H locs cells slots mc ms ls hP hS hl h1 h2 h3 h4 z hz
  obtain ⟨hv, hz⟩ := gdP_some hz
  cases hz
  refine vx_ret (W.widen (k := mc) (n := ms) (by omega) (by omega) ?_)
  exact W.zret hM.2.1 hM.2.2.1 (hM.2.2.2.2.2.2.1.trans hr) (by rcases hv with rfl | rfl <;> rfl) (fun t hH _ => ⟨_, by rw [ht], rfl, by rw [ht, hH]; exact hP, hS.F hH⟩) hS.2.2 hd hM.2.2.2.2.2.1
theorem s_lret {v : Int64} {x : T} (hd : decode mi.1 pc = .ok (.lreturn, 1)) (hr : mi.2.2.2.1 = some .long) (ht : τ x = (.inl (some (.long v)), P)) : Sem G l mi k n τ pc lv [.long v] P (some x) := by
  intro p e R s m args below meth c hM H locs cells slots mc ms ls hP hS hl h1 h2 h3 h4 z hz
  cases hz
  refine vx_ret (W.widen (k := mc) (n := ms) (by omega) (by omega) ?_)
  exact W.lret hM.2.1 hM.2.2.1 (hM.2.2.2.2.2.2.1.trans hr) (fun t hH _ => ⟨_, by rw [ht], rfl, by rw [ht, hH]; exact hP, hS.F hH⟩) hS.2.2 hd hM.2.2.2.2.2.1
theorem s_vret {x : T} (hd : decode mi.1 pc = .ok (.return_, 1)) (hr : mi.2.2.2.1 = none) (ht : τ x = (.inl none, P)) : Sem G l mi k n τ pc lv [] P (some x) := by
  intro p e R s m args below meth c hM H locs cells slots mc ms ls hP hS hl h1 h2 h3 h4 z hz
  cases hz
  refine vx_ret (W.widen (k := mc) (n := ms) (by omega) (by omega) ?_)
  exact W.vret hM.2.1 hM.2.2.1 (hM.2.2.2.2.2.2.1.trans hr) (fun t hH _ => ⟨_, by rw [ht], rfl, by rw [ht, hH]; exact hP, hS.F hH⟩) hS.2.2 hd hM.2.2.2.2.2.1
theorem s_aret {v : Nat} {x : T} {C : String} (hd : decode mi.1 pc = .ok (.areturn, 1)) (hr : mi.2.2.2.1 = some (.object C)) (ht : τ x = (.inl (some (.ref v)), P)) : Sem G l mi k n τ pc lv [.ref v] P (some x) := by
  intro p e R s m args below meth c hM H locs cells slots mc ms ls hP hS hl h1 h2 h3 h4 z hz
  cases hz
  refine vx_ret (W.widen (k := mc) (n := ms) (by omega) (by omega) ?_)
  exact W.aret hM.2.1 hM.2.2.1 (hM.2.2.2.2.2.2.1.trans hr) (Or.inl ⟨_, rfl⟩) (Or.inr ⟨_, rfl⟩) (fun t hH _ => ⟨_, by rw [ht], rfl, by rw [ht, hH]; exact hP, hS.F hH⟩) hS.2.2 hd hM.2.2.2.2.2.1
end SEM
