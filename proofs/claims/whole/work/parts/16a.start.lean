/-! THE START. -/
def stT (i : Nat) : Term := .string "BothSides$Reader" (136 + 2 * i)
def stV (i : Nat) : Term := .field (stT i) "java/lang/String" "value" "[B"
def stNeed (i : Nat) : List Cond := [.exactly (stT i) "java/lang/String", .eq (.field (stT i) "java/lang/String" "coder" "B") (.int 0), .arrayOf (stV i) .byte, .eq (.length (stV i)) (.int (Int32.ofNat (wLen.getD i 0)))] ++ (List.range (wLen.getD i 0)).map (fun j => .eq (.elem (stV i) (.int (Int32.ofNat j))) (.int ((wByt.getD i []).getD j 0)))
def eaT : Term := .static "BothSides" "EAST_BY" "[I"
def noT : Term := .static "BothSides" "NORTH_BY" "[I"
def rowNeed (t : Term) (f : Nat → Int32) : List Cond := [.isRef t, .arrayOf t .int, .eq (.length t) (.int (Int32.ofNat 8))] ++ (List.range 8).map (fun j => .eq (.elem t (.int (Int32.ofNat j))) (.int (f j)))
def otNeed : List Cond := [.isRef (.static "java/lang/Throwable" "UNASSIGNED_STACK" "[Ljava/lang/StackTraceElement;"), .isRef (.static "java/lang/Throwable" "SUPPRESSED_SENTINEL" "Ljava/util/List;"), .eq (.static "java/lang/String" "COMPACT_STRINGS" "Z") (.int 1), .isRef (.static "jdk/internal/util/Preconditions" "SIOOBE_FORMATTER" "Ljava/util/function/BiFunction;")] ++ ncRefs.map (fun q => .not (.castable q.1 q.2))
def gvL : List Cond := flatC (Cond.and given_1 narrow_1)
set_option maxRecDepth 100000 in
theorem stNeed_in : ∀ i, i < 14 → ∀ w ∈ stNeed i, w ∈ gvL := by decide +kernel
set_option maxRecDepth 100000 in
theorem otNeed_in : ∀ w ∈ rowNeed eaT eastBy ++ (rowNeed noT northBy ++ otNeed), w ∈ gvL := by decide +kernel
set_option maxRecDepth 100000 in
theorem thr_in : ∀ q ∈ thrRefs, Cond.stringRef q.1 q.2.1 q.2.2 ∈ lw_tbl ∧ Cond.exactly (.string q.1 q.2.1) "java/lang/String" ∈ gvL := by decide +kernel
set_option maxRecDepth 100000 in
theorem str_in : ∀ q ∈ strRefs, q.2.2 < 14 ∧ Cond.stringRef q.1 q.2.1 (wTx.getD q.2.2 "") ∈ lw_tbl ∧ ((q.1 = "BothSides$Reader" ∧ q.2.1 = 136 + 2 * q.2.2) ∨ Cond.eq (stT q.2.2) (.string q.1 q.2.1) ∈ gvL) := by decide +kernel
theorem str_apart : ∀ i, i < 14 → ∀ j, j < 14 → Int32.ofNat (wLen.getD i 0) = Int32.ofNat (wLen.getD j 0) → (∀ k, k < wLen.getD i 0 → (wByt.getD i []).getD k 0 = (wByt.getD j []).getD k 0) → i = j := by decide +kernel
theorem str_same : ∀ i, i < 14 → ∀ j, j < 14 → Int32.ofNat (wLen.getD i 0) = Int32.ofNat (wLen.getD j 0) → wLen.getD i 0 = wLen.getD j 0 := by decide +kernel
theorem gw_of {s : State} {args : Array Value} {w : Cond} (hw : w.before args s = true) (ho : okWord w = true) : ∀ (A : Array Value) (U : State), s.WarmedH U.vm → w.before A U = true := by
  intro A U hW
  unfold okWord at ho
  split at ho
  · exact va_Nw.use rfl (va_Nw.warmM hW (va_Nw.of rfl hw))
  · exact va_Nw.use rfl (va_Nw.warmC hW (va_Nw.of rfl hw))
  · exact va_Nw.use rfl (va_Nw.warmD hW (va_Nw.of rfl hw))
  · exact word_at hW (good_of_word ho) hw
section START
variable {s : State} {b : Nat} {args : Array Value}
theorem ev_field {t u : Term} {o n d : String} (h : t.eval args s none [] s = u.eval args s none [] s) : (Term.field t o n d).eval args s none [] s = (Term.field u o n d).eval args s none [] s := by
  simp only [Term.eval, h]
theorem ev_len {t u : Term} (h : t.eval args s none [] s = u.eval args s none [] s) : (Term.length t).eval args s none [] s = (Term.length u).eval args s none [] s := by
  simp only [Term.eval, h]
theorem ev_elem {t u i : Term} (h : t.eval args s none [] s = u.eval args s none [] s) : (Term.elem t i).eval args s none [] s = (Term.elem u i).eval args s none [] s := by
  simp only [Term.eval, h]
theorem st_words (hq : ∀ w ∈ gvL, w.before args s = true) : ∃ adK adV : Nat → Nat, vk_S 14 wLen wByt adK adV (fun q => s.heap.size ≤ q) s s.heap ∧ ∀ i, i < 14 → (stT i).eval args s none [] s = some (.ref (adK i)) := by
  have hA : ∀ a : Nat, a < s.heap.size → ¬ (s.heap.size ≤ a) := fun a h => Nat.not_le.mpr h
  have w1 : ∀ i, i < 14 → (Cond.exactly (stT i) "java/lang/String").before args s = true := fun i hi => hq _ (stNeed_in i hi _ (List.mem_append_left _ List.mem_cons_self))
  have w2 : ∀ i, i < 14 → (Cond.eq (.field (stT i) "java/lang/String" "coder" "B") (.int 0)).before args s = true := fun i hi => hq _ (stNeed_in i hi _ (List.mem_append_left _ (List.mem_cons_of_mem _ List.mem_cons_self)))
  have w3 : ∀ i, i < 14 → (Cond.arrayOf (stV i) .byte).before args s = true := fun i hi => hq _ (stNeed_in i hi _ (List.mem_append_left _ (List.mem_cons_of_mem _ (List.mem_cons_of_mem _ List.mem_cons_self))))
  have w4 : ∀ i, i < 14 → (Cond.eq (.length (stV i)) (.int (Int32.ofNat (wLen.getD i 0)))).before args s = true := fun i hi => hq _ (stNeed_in i hi _ (List.mem_append_left _ (List.mem_cons_of_mem _ (List.mem_cons_of_mem _ (List.mem_cons_of_mem _ List.mem_cons_self)))))
  have w5 : ∀ i, i < 14 → ∀ j, j < wLen.getD i 0 → (Cond.eq (.elem (stV i) (.int (Int32.ofNat j))) (.int ((wByt.getD i []).getD j 0))).before args s = true := fun i hi j hj => hq _ (stNeed_in i hi _ (List.mem_append_right _ (List.mem_map.mpr ⟨j, List.mem_range.mpr hj, rfl⟩)))
  have one : ∀ i : Nat, ∃ q : Nat × Nat, i < 14 → (stT i).eval args s none [] s = some (.ref q.1) ∧ va_O "java/lang/String" q.1 (fun q => s.heap.size ≤ q) s s.heap ∧ va_OF "java/lang/String" "coder" "B" (.int 0) q.1 (fun q => s.heap.size ≤ q) s s.heap ∧ va_OF "java/lang/String" "value" "[B" (.ref q.2) q.1 (fun q => s.heap.size ≤ q) s s.heap ∧ va_T .byte q.2 (wLen.getD i 0) (fun j => .int ((wByt.getD i []).getD j 0)) (fun q => s.heap.size ≤ q) s s.heap := by
    intro i
    by_cases hi : i < 14
    · obtain ⟨aK, aV, ⟨h1, -⟩, h2⟩ := vk_Sof (args := args) (s := s) (N := 1) (tm := fun _ => stT i) (len := [wLen.getD i 0]) (byt := [wByt.getD i []]) (A := fun q => s.heap.size ≤ q)
        (fun k hk => by
          have : k = 0 := by omega
          subst this
          exact (by decide +kernel : ∀ i, i < 14 → wLen.getD i 0 < 2 ^ 31) i hi) (fun k hk => w1 i hi) (fun k hk => w2 i hi) (fun k hk => w3 i hi)
        (fun k hk => by
          have : k = 0 := by omega
          subst this
          exact w4 i hi)
        (fun k hk j hj => by
          have : k = 0 := by omega
          subst this
          exact w5 i hi j hj) (fun k j hk hj hne => absurd (show k = j by omega) hne) hA
      exact ⟨(aK 0, aV 0), fun _ => ⟨h2 0 (by omega), h1 0 (by omega)⟩⟩
    · exact ⟨(0, 0), fun h => absurd h hi⟩
  obtain ⟨ad, had⟩ := Classical.axiomOfChoice one
  refine ⟨fun i => (ad i).1, fun i => (ad i).2, ⟨fun i hi => (had i hi).2, fun i j hi hj e => ?_⟩, fun i hi => (had i hi).1⟩
  have e0 : (stT i).eval args s none [] s = (stT j).eval args s none [] s := by
    rw [(had i hi).1, (had j hj).1, show (ad i).1 = (ad j).1 from e]
  have e1 : (stV i).eval args s none [] s = (stV j).eval args s none [] s := ev_field e0
  have e2 := ev_len e1
  rw [va_eqt (w4 i hi), va_eqt (w4 j hj)] at e2
  have e3 : Int32.ofNat (wLen.getD i 0) = Int32.ofNat (wLen.getD j 0) := by
    injection e2 with e2
    injection e2
  refine str_apart i hi j hj e3 (fun k hk => ?_)
  have e4 := ev_elem (i := .int (Int32.ofNat k)) e1
  rw [va_eqt (w5 i hi k hk), va_eqt (w5 j hj k (by rw [← str_same i hi j hj e3]; exact hk))] at e4
  injection e4 with e4
  injection e4
theorem st_row {t : Term} {C n : String} {f : Nat → Int32} (ht : t = .static C n "[I") (hl : (Cond.laysStatic C n "[I").before args s = true) (hini : (Cond.initialized C).before args s = true) (hq : ∀ w ∈ rowNeed t f, w.before args s = true) : ∃ a : Nat, va_Z C n "[I" (.ref a) (fun q => s.heap.size ≤ q) s s.heap ∧ va_T .int a 8 (fun j => .int (f j)) (fun q => s.heap.size ≤ q) s s.heap := by
  have hA : ∀ a : Nat, a < s.heap.size → ¬ (s.heap.size ≤ a) := fun a h => Nat.not_le.mpr h
  obtain ⟨a, h1, h2⟩ := va_Tof (args := args) (s := s) (tm := t) (ty := .int) (N := 8) (f := fun j => .int (f j)) (A := fun q => s.heap.size ≤ q) (by decide) (hq _ (List.mem_append_left _ (List.mem_cons_of_mem _ List.mem_cons_self))) (va_eqt (hq _ (List.mem_append_left _ (List.mem_cons_of_mem _ (List.mem_cons_of_mem _ List.mem_cons_self))))) (fun j hj => va_eqt (hq _ (List.mem_append_right _ (List.mem_map.mpr ⟨j, List.mem_range.mpr hj, rfl⟩)))) hA
  subst ht
  exact ⟨a, va_Zof hl hini h1 hA, h2⟩
theorem st_classes (hts : ∀ w ∈ lw_tbl, w.before args s = true) : ∃ D : va_G, ∀ (k : Nat) (r : vw_C), vwCl[k]? = some r → u_Kn s r.1 r.2.1 r.2.2 (D.1 k) (D.2 k) := by
  have one : ∀ k : Nat, ∃ q : ClassId × (Nat → Nat), ∀ r : vw_C, vwCl[k]? = some r → u_Kn s r.1 r.2.1 r.2.2 q.1 q.2 := by
    intro k
    match k with
    | 0 =>
      obtain ⟨c, i, h⟩ := u_known (C := RX0) (T := TX0) (N := 9) (n := 9) hts (fun w hw => (cls_words w (by simp only [List.mem_append, hw, true_or, or_true])).1) (hts (.instantiable RX0 9) (tm_1 (List.mem_of_getElem? (i := 42) rfl)))
      exact ⟨(c, i), fun r hr => by cases hr; exact h⟩
    | 1 =>
      obtain ⟨c, i, h⟩ := u_known (C := RX1) (T := TX1) (N := 3) (n := 3) hts (fun w hw => (cls_words w (by simp only [List.mem_append, hw, true_or, or_true])).1) (hts (.instantiable RX1 3) (tm_2 (List.mem_of_getElem? (i := 131) rfl)))
      exact ⟨(c, i), fun r hr => by cases hr; exact h⟩
    | 2 =>
      obtain ⟨c, i, h⟩ := u_known (C := RX2) (T := TX2) (N := 11) (n := 11) hts (fun w hw => (cls_words w (by simp only [List.mem_append, hw, true_or, or_true])).1) (hts (.instantiable RX2 11) (tm_1 (List.mem_of_getElem? (i := 183) rfl)))
      exact ⟨(c, i), fun r hr => by cases hr; exact h⟩
    | 3 =>
      obtain ⟨c, i, h⟩ := u_known (C := RX3) (T := TX3) (N := 7) (n := 7) hts (fun w hw => (cls_words w (by simp only [List.mem_append, hw, true_or, or_true])).1) (hts (.instantiable RX3 7) (tm_1 (List.mem_of_getElem? (i := 153) rfl)))
      exact ⟨(c, i), fun r hr => by cases hr; exact h⟩
    | 4 =>
      obtain ⟨c, i, h⟩ := u_known (C := RX4) (T := TX4) (N := 12) (n := 12) hts (fun w hw => (cls_words w (by simp only [List.mem_append, hw, true_or, or_true])).1) (hts (.instantiable RX4 12) (tm_1 (List.mem_of_getElem? (i := 106) rfl)))
      exact ⟨(c, i), fun r hr => by cases hr; exact h⟩
    | 5 =>
      obtain ⟨c, i, h⟩ := u_known (C := RX5) (T := TX5) (N := 10) (n := 10) hts (fun w hw => (cls_words w (by simp only [List.mem_append, hw, true_or, or_true])).1) (hts (.instantiable RX5 10) (tm_1 (List.mem_of_getElem? (i := 236) rfl)))
      exact ⟨(c, i), fun r hr => by cases hr; exact h⟩
    | 6 =>
      obtain ⟨c, i, h⟩ := u_known (C := RX6) (T := TX6) (N := 5) (n := 5) hts (fun w hw => (cls_words w (by simp only [List.mem_append, hw, true_or, or_true])).1) (hts (.instantiable RX6 5) (tm_1 (List.mem_of_getElem? (i := 82) rfl)))
      exact ⟨(c, i), fun r hr => by cases hr; exact h⟩
    | 7 =>
      obtain ⟨c, i, h⟩ := u_known (C := RX7) (T := TX7) (N := 8) (n := 8) hts (fun w hw => (cls_words w (by simp only [List.mem_append, hw, true_or, or_true])).1) (hts (.instantiable RX7 8) (tm_2 (List.mem_of_getElem? (i := 81) rfl)))
      exact ⟨(c, i), fun r hr => by cases hr; exact h⟩
    | 8 =>
      obtain ⟨c, i, h⟩ := u_known (C := RX8) (T := TX8) (N := 4) (n := 4) hts (fun w hw => (cls_words w (by simp only [List.mem_append, hw, true_or, or_true])).1) (hts (.instantiable RX8 4) (tm_2 (List.mem_of_getElem? (i := 111) rfl)))
      exact ⟨(c, i), fun r hr => by cases hr; exact h⟩
    | 9 =>
      obtain ⟨c, i, h⟩ := u_known (C := RX9) (T := TX9) (N := 12) (n := 12) hts (fun w hw => (cls_words w (by simp only [List.mem_append, hw, true_or, or_true])).1) (hts (.instantiable RX9 12) (tm_2 (List.mem_of_getElem? (i := 36) rfl)))
      exact ⟨(c, i), fun r hr => by cases hr; exact h⟩
    | 10 =>
      obtain ⟨c, i, h⟩ := u_known (C := RX10) (T := TX10) (N := 13) (n := 13) hts (fun w hw => (cls_words w (by simp only [List.mem_append, hw, true_or, or_true])).1) (hts (.instantiable RX10 13) (tm_1 (List.mem_of_getElem? (i := 30) rfl)))
      exact ⟨(c, i), fun r hr => by cases hr; exact h⟩
    | 11 =>
      obtain ⟨c, i, h⟩ := u_known (C := RX11) (T := TX11) (N := 44) (n := 44) hts (fun w hw => (cls_words w (by simp only [List.mem_append, hw, true_or, or_true])).1) (hts (.instantiable RX11 44) (tm_6 (List.mem_of_getElem? (i := 234) rfl)))
      exact ⟨(c, i), fun r hr => by cases hr; exact h⟩
    | k + 12 => exact ⟨(0, fun _ => 0), fun r hr => by simp [vwCl] at hr⟩
  obtain ⟨f, hf⟩ := Classical.axiomOfChoice one
  exact ⟨(fun k => (f k).1, fun k => (f k).2), hf⟩
theorem st_rows (hts : ∀ w ∈ lw_tbl, w.before args s = true) : ∃ R : Nat → ClassId, ∀ (k : Nat) (q : ClassId × FieldType), ([(R 12, .byte), (R 13, .int), (R 14, .long), (R 15, .boolean), (R 16, .object "BothSides$Image"), (R 17, .object "BothSides$Tray")] : List (ClassId × FieldType))[k]? = some q → ArrOfT s q.1 q.2 ∧ va_RA s q.1 q.2 := by
  obtain ⟨c0, k0, p0, f0, g0, h0⟩ := Cond.arrayClass_spec (hts (.arrayClass .byte) (tm_1 (List.mem_of_getElem? (i := 151) rfl)))
  obtain ⟨c1, k1, p1, f1, g1, h1⟩ := Cond.arrayClass_spec (hts (.arrayClass .int) (tm_1 (List.mem_of_getElem? (i := 79) rfl)))
  obtain ⟨c2, k2, p2, f2, g2, h2⟩ := Cond.arrayClass_spec (hts (.arrayClass .long) (tm_1 (List.mem_of_getElem? (i := 80) rfl)))
  obtain ⟨c3, k3, p3, f3, g3, h3⟩ := Cond.arrayClass_spec (hts (.arrayClass .boolean) (tm_7 (List.mem_of_getElem? (i := 133) rfl)))
  obtain ⟨p4, c4, k4, e4, -, g4, h4, f4⟩ := Cond.arrayOver_spec (hts (.arrayOver (.object "BothSides$Image")) (tm_1 (List.mem_of_getElem? (i := 40) rfl)))
  obtain ⟨p5, c5, k5, e5, -, g5, h5, f5⟩ := Cond.arrayOver_spec (hts (.arrayOver (.object "BothSides$Tray")) (tm_1 (List.mem_of_getElem? (i := 38) rfl)))
  refine ⟨fun n => if n = 12 then c0 else if n = 13 then c1 else if n = 14 then c2 else if n = 15 then c3 else if n = 16 then c4 else c5, fun k q hq => ?_⟩
  match k, hq with
  | 0, hq => cases hq; exact ⟨fun n z => ⟨(fun k h => by cases h), k0, g0, p0, h0⟩, f0⟩
  | 1, hq => cases hq; exact ⟨fun n z => ⟨(fun k h => by cases h), k1, g1, p1, h1⟩, f1⟩
  | 2, hq => cases hq; exact ⟨fun n z => ⟨(fun k h => by cases h), k2, g2, p2, h2⟩, f2⟩
  | 3, hq => cases hq; exact ⟨fun n z => ⟨(fun k h => by cases h), k3, g3, p3, h3⟩, f3⟩
  | 4, hq => cases hq; exact ⟨fun n z => ⟨(fun k h => by cases h), k4, g4, p4, h4⟩, k4, p4, g4, h4, e4, f4⟩
  | 5, hq => cases hq; exact ⟨fun n z => ⟨(fun k h => by cases h), k5, g5, p5, h5⟩, k5, p5, g5, h5, e5, f5⟩
  | k + 6, hq => simp at hq
end START
def setA (G : GT) (A : Nat → Nat) : GT := (G.1, G.2.1, G.2.2.1, A, G.2.2.2.2)
theorem setA_ok {G : GT} {l : Launch} (h : GOK G l) {A : Nat → Nat} (h1 : ∀ i j, i < 111 → j < 111 → A i = A j → i = j) (h2 : ∀ i, i < 111 → gF G (A i)) : GOK (setA G A) l := ⟨h.1, h1, h2, h.2.2.2.1, h.2.2.2.2.1, h.2.2.2.2.2⟩
theorem start_ok {s : State} {b L : Nat} {xs : Nat → Int32} {l : Launch} (hflags : l.flags = flags0) (hL : L ≤ 3072) (hts : ∀ w ∈ lw_tbl, w.before #[Value.ref b] s = true) (hX : va_X b L xs s s.heap) (hbl : b < s.heap.size) (hgv : (Cond.and given_1 narrow_1).before #[Value.ref b] s = true) :
    ∃ G : GT, gS G = s ∧ gB G = b ∧ gL G = L ∧ gX G = xs ∧ GOK G l ∧ va_AO "BothSides$Tray" s ∧ va_AO "BothSides$Image" s := by
  have hA : ∀ a : Nat, a < s.heap.size → ¬ (s.heap.size ≤ a) := fun a h => Nat.not_le.mpr h
  have hq : ∀ w ∈ gvL, w.before #[Value.ref b] s = true := flat_of_before _ hgv
  obtain ⟨adK, adV, hK, hKe⟩ := st_words hq
  obtain ⟨D, hD⟩ := st_classes hts
  obtain ⟨R, hR⟩ := st_rows hts
  obtain ⟨ea, he1, he2⟩ := st_row (f := eastBy) (t := eaT) rfl (hts (.laysStatic "BothSides" "EAST_BY" "[I") (tm_2 (List.mem_of_getElem? (i := 229) rfl))) (hts (.initialized "BothSides") (tm_1 (List.mem_of_getElem? (i := 1) rfl))) (fun w hw => hq w (otNeed_in w (List.mem_append_left _ hw)))
  obtain ⟨no, hn1, hn2⟩ := st_row (f := northBy) (t := noT) rfl (hts (.laysStatic "BothSides" "NORTH_BY" "[I") (tm_2 (List.mem_of_getElem? (i := 231) rfl))) (hts (.initialized "BothSides") (tm_1 (List.mem_of_getElem? (i := 1) rfl))) (fun w hw => hq w (otNeed_in w (List.mem_append_right _ (List.mem_append_left _ hw))))
  have hot : ∀ w ∈ otNeed, w.before #[Value.ref b] s = true := fun w hw => hq w (otNeed_in w (List.mem_append_right _ (List.mem_append_right _ hw)))
  refine ⟨(s, D.1, D.2, fun n => s.heap.size + n, R, adK, adV, ea, no, b, L, xs), rfl, rfl, rfl, rfl, ⟨?_, fun i j _ _ h => Nat.add_left_cancel h, fun i _ => Nat.le_add_right _ _, ⟨hD, hR⟩, ?_, fun w hw ho => gw_of (hts w hw) ho⟩, va_AO.of (hts (.arrayOver (.object "BothSides$Tray")) (tm_1 (List.mem_of_getElem? (i := 38) rfl))), va_AO.of (hts (.arrayOver (.object "BothSides$Image")) (tm_1 (List.mem_of_getElem? (i := 40) rfl)))⟩
  · unfold Launch.stackTraces
    rw [hflags]
    decide
  · refine ⟨⟨he1, he2⟩, ⟨hn1, hn2⟩, hK, ?_, ?_, ?_, ?_, ?_, ?_, ?_, hX, hL, hbl⟩
    · exact vx_Zqof (hts (.laysStatic "java/lang/Throwable" "UNASSIGNED_STACK" "[Ljava/lang/StackTraceElement;") (tm_3 (List.mem_of_getElem? (i := 52) rfl))) (hts (.initialized "java/lang/Throwable") (tm_1 (List.mem_of_getElem? (i := 13) rfl))) (hot _ List.mem_cons_self) hA
    · exact vx_Zqof (hts (.laysStatic "java/lang/Throwable" "SUPPRESSED_SENTINEL" "Ljava/util/List;") (tm_3 (List.mem_of_getElem? (i := 54) rfl))) (hts (.initialized "java/lang/Throwable") (tm_1 (List.mem_of_getElem? (i := 13) rfl))) (hot _ (List.mem_cons_of_mem _ List.mem_cons_self)) hA
    · intro q hq9
      obtain ⟨h1, h2, h3⟩ := str_in q hq9
      rcases h3 with ⟨h3, h4⟩ | h3
      · refine vk_R.of (hts _ h2) ?_
        rw [h3, h4]
        exact hKe _ h1
      · exact vk_R.of (hts _ h2) (va_eqR (hq _ h3) (hKe _ h1))
    · intro q hq9
      obtain ⟨h1, h2⟩ := thr_in q hq9
      obtain ⟨a, c, cA, kA, q1, -⟩ := Cond.exactly_spec (args := #[Value.ref b]) (first := s) (o := none) (s := s) (idx := []) (hq _ h2)
      exact ⟨a, vk_R.of (hts _ h1) q1⟩
    · exact va_Zof (hts (.laysStatic "java/lang/String" "COMPACT_STRINGS" "Z") (tm_3 (List.mem_of_getElem? (i := 168) rfl))) (hts (.initialized "java/lang/String") (tm_1 (List.mem_of_getElem? (i := 18) rfl))) (va_eqt (hot _ (List.mem_append_left _ (List.mem_cons_of_mem _ (List.mem_cons_of_mem _ List.mem_cons_self))))) hA
    · exact va_Zqof (hts (.laysStatic "jdk/internal/util/Preconditions" "SIOOBE_FORMATTER" "Ljava/util/function/BiFunction;") (tm_3 (List.mem_of_getElem? (i := 184) rfl))) (hts (.initialized "jdk/internal/util/Preconditions") (tm_1 (List.mem_of_getElem? (i := 20) rfl))) (hot _ (List.mem_append_left _ (List.mem_cons_of_mem _ (List.mem_cons_of_mem _ (List.mem_cons_of_mem _ List.mem_cons_self))))) hA
    · intro q hq9
      exact va_Nc.of (hot _ (List.mem_append_right _ (List.mem_map.mpr ⟨q, hq9, rfl⟩)))
