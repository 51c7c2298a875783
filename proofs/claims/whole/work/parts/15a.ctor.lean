/-! CONSTRUCTORS. The world is a list ws0 ++ t: of t the constructor knows, ws0 was there. -/
theorem wz_at (ws0 t : va_W) (j : Nat) : (ws0 ++ t)[ws0.length + j]? = t[j]? := by
  rw [List.getElem?_append_right (Nat.le_add_right _ _), Nat.add_sub_cancel_left]
theorem wz_set (ws0 t : va_W) (j : Nat) (e : Nat × va_E) : (ws0 ++ t).set (ws0.length + j) e = ws0 ++ t.set j e := by
  rw [List.set_append_right _ _ (Nat.le_add_right _ _), Nat.add_sub_cancel_left]
def Wm (G : GT) (U : State) : Prop := (gS G).WarmedH U.vm ∧ (gS G).heap.size ≤ U.heap.size ∧ ∀ q, q < (gS G).heap.size → U.heap[q]? = (gS G).heap[q]?
/-- a constructor's end -/
def QC (G : GT) (ws0 : va_W) (q0 : Nat) (post : Nat → (Nat → Nat) → va_W) : QT := (fun _ st o t => o = .returned none ∧ (∃ f, va_P (gD G) vwCl (ws0 ++ post q0 f) t.heap ∧ va_D (gF G) (ws0 ++ post q0 f)) ∧ va_F (gF G) st t, fun _ _ _ => False)
/-- a constructor: whatever was there, its object last; then the object filled, and what it made -/
def OkC (G : GT) (l : Launch) (y : MethodName) (mi : MI) (k n : Nat) (as : List Value) (ci : Nat) (fs0 : List Value) (post : Nat → (Nat → Nat) → va_W) : Prop :=
  ∀ (ws0 : va_W) (q0 : Nat), Met l y (codeOf y mi) (rmOf mi k n) (va_Pc (.ref q0 :: as) (fun U => va_P (gD G) vwCl (ws0 ++ [(q0, .inr (ci, fs0))]) U.heap ∧ va_D (gF G) (ws0 ++ [(q0, .inr (ci, fs0))]) ∧ Wm G U)) (QC G ws0 q0 post).1 k n (gF G)
theorem okC_of {G : GT} {l : Launch} {y : MethodName} {mi : MI} {k n : Nat} {as : List Value} {ci : Nat} {fs0 : List Value} {post : Nat → (Nat → Nat) → va_W} (hG : GOK G l) (lv : Nat → List (Nat × Value)) (hy : plainName y.cls = true) (hc : y.cls = mi.2.2.1)
    (hlv : ∀ q0, lv_args 0 (.ref q0 :: as) = lv q0) (hfit : ∀ q0, (lg_sl (.ref q0 :: as)).length ≤ mi.2.1) (hx : xtOf mi = [(0, 0, 0, 0)]) (hn : y.name = "<init>")
    (K : ∀ ws0 q0, va_D (gF G) (ws0 ++ [(q0, .inr (ci, fs0))]) → SemW G l mi k n (fun _ : Unit => QC G ws0 q0 post) 0 (lv q0) [] (ws0 ++ [(q0, .inr (ci, fs0))]) (some ())) : OkC G l y mi k n as ci fs0 post := by
  intro ws0 q0
  have h : vx_Met l y (codeOf y mi) (rmOf mi k n) (va_Pc (.ref q0 :: as) (fun U => va_P (gD G) vwCl (ws0 ++ [(q0, .inr (ci, fs0))]) U.heap ∧ va_D (gF G) (ws0 ++ [(q0, .inr (ci, fs0))]) ∧ Wm G U)) (QC G ws0 q0 post).1 (QC G ws0 q0 post).2 k n (gF G) := by
    refine vx_ofW (cc := mi.1) (maxL := mi.2.1) (ret := mi.2.2.2.1) hy rfl ?_
    intro p e s m args below meth c s₁ B hml hx0 hv
    obtain ⟨rfl, hP, hD, hW, hsz, hfr⟩ := hv
    have hl := lv_entry (.ref q0 :: as) (n := mi.2.1) (hfit q0)
    rw [lg_entry_eq]
    rw [hlv q0] at hl
    generalize (lg_sl (.ref q0 :: as) ++ List.replicate (mi.2.1 - (lg_sl (.ref q0 :: as)).length) Slot.unset).toArray = ls at hl ⊢
    exact K ws0 q0 hD p e _ s m _ below meth c ⟨hG, B.exec, B.bytes, hml, by rw [← hc]; exact findClass_of_methodNamed B.named, B.notSynchronized, B.returns, ⟨hW, hsz, hfr⟩, Nat.le_refl _, Nat.le_refl _, by rw [show xt2 mi.2.2.2.2.2 = [] from if_pos hx]; exact List.eq_nil_iff_forall_not_mem.mpr (fun x hm => hx0 x hm), fun _ => (name_of_methodNamed B.named B.method).1.trans hn⟩ s.heap [] 0 0 k n ls hP va_S.rf hl (by omega) (by omega) (Nat.le_refl _) (Nat.le_refl _) () rfl
  have e : vx_Q (QC G ws0 q0 post).1 (QC G ws0 q0 post).2 k n (gF G) = fun a st o t => (QC G ws0 q0 post).1 a st o t ∧ ∃ L, FrameEnd st o t L k n ∧ ∀ q ∈ L, gF G q.base := by
    funext a st o t
    apply propext
    constructor
    · rintro (h5 | ⟨q, -, E, ce, L, h1, -⟩)
      · exact h5
      · exact absurd h1 (fun z => z)
    · exact fun h5 => Or.inl h5
  unfold vx_Met at h
  rw [e] at h
  exact h
/-- a final field that holds a reference, as its own class's constructor reaches it -/
def FPF (G : GT) (own : String) (index ci q : Nat) : Prop := ∃ CC TT NN, FK G own index ci q CC TT NN ∧ (∀ a, a < NN → ∀ b, b < NN → a ≠ b → (TT a).2.1 ≠ (TT b).2.1) ∧ (TT q).2.2.2 = true ∧ (TT q).1 = own ∧ ∃ ty0 : Nat → FieldType, (∀ k, k < NN → parseFieldDescriptor (TT k).2.2.1 = some (ty0 k)) ∧ (∀ b, narrow (ty0 q) (.ref b) = .ref b) ∧ ∀ b, fits (ty0 q) (.ref b) = true
def CIK (G : GT) (own : String) (index : Nat) (y : MethodName) (mi : MI) (na : Nat) : Prop := GW G (.methodLink own index y) ∧ GW G (.instanceMethod y) ∧ MOK G y mi na ∧ y.name = "<init>" ∧ mi.2.2.2.1 = none
def CIN (G : GT) (own : String) (index : Nat) (y : MethodName) (mi : MI) (na : Nat) : Prop := ∃ host, GW G (.methodLinkNest own index y host) ∧ GW G (.instanceMethod y) ∧ MOK G y mi na ∧ y.name = "<init>" ∧ mi.2.2.2.1 = none
section CTOR
variable {T : Type} {G : GT} {l : Launch} {mi : MI} {k n : Nat} {Q : T → QT} {pc : Nat} {lv : List (Nat × Value)} {st : List Value} {ws0 t : va_W} {o : Option T}
theorem c_newI {t2 : Nat → va_W} (N : Nat) {k0 n0 : Nat} {v : Int32} (hD : va_D (gF G) (ws0 ++ t)) (hd : decode mi.1 pc = .ok (.newarray .int, 2)) (hw : GW G (.arrayClass .int)) (hv : v = nI N) (hN : N ≤ 100000) (ht : ∀ q : Nat, t ++ [(q, .inl (gR G 13, N, .inl (fun _ => 0)))] = t2 q) (hk : k + 1 = k0) (hn : n + N = n0)
    (K : ∀ q, va_D (gF G) (ws0 ++ t2 q) → SemW G l mi k n Q (pc + 2) lv (.ref q :: st) (ws0 ++ t2 q) o) : SemW G l mi k0 n0 Q pc lv (.int v :: st) (ws0 ++ t) o := by
  intro p e R s m args below meth c hM H locs cells slots mc ms ls hP hS hl h1 h2 h3 h4 z hz
  subst hv hk hn
  refine va_newa (atype := .int) (ty := .int) (a0 := (N, .inl (fun _ => 0))) (N' := N) hM.2.1 hM.2.2.1 (hM.w hw args) rfl hM.kk hP hD hS (fun q hq => Nat.le_trans hM.2.2.2.2.2.2.2.1.2.1 hq) (fun cA => rfl) (nI_pos (by omega)) (nI_clamp (by omega)) (by rw [show componentBytes FieldType.int = 4 from rfl]; omega) (by omega) (by omega) hd (fun q cA H1 hK hP hD hS => ?_)
  have a1 : s.vm.findClass ("[" ++ FieldType.int.toString) = some cA := (hK.2 6 (cA, .int) rfl).2
  have a2 : s.vm.findClass ("[" ++ FieldType.int.toString) = some (gR G 13) := (hM.kk.2 1 (gR G 13, .int) rfl).2
  have e1 : cA = gR G 13 := Option.some.inj (a1.symm.trans a2)
  rw [e1, List.append_assoc, ht] at hP hD
  exact K q hD p e R s m args below meth c hM H1 locs (cells + 1) (slots + N) mc ms ls hP hS hl (by omega) (by omega) h3 h4 z hz
theorem c_newL {t2 : Nat → va_W} (N : Nat) {k0 n0 : Nat} {v : Int32} (hD : va_D (gF G) (ws0 ++ t)) (hd : decode mi.1 pc = .ok (.newarray .long, 2)) (hw : GW G (.arrayClass .long)) (hv : v = nI N) (hN : N ≤ 100000) (ht : ∀ q : Nat, t ++ [(q, .inl (gR G 14, N, .inr (.inl (fun _ => 0))))] = t2 q) (hk : k + 1 = k0) (hn : n + N = n0)
    (K : ∀ q, va_D (gF G) (ws0 ++ t2 q) → SemW G l mi k n Q (pc + 2) lv (.ref q :: st) (ws0 ++ t2 q) o) : SemW G l mi k0 n0 Q pc lv (.int v :: st) (ws0 ++ t) o := by
  intro p e R s m args below meth c hM H locs cells slots mc ms ls hP hS hl h1 h2 h3 h4 z hz
  subst hv hk hn
  refine va_newa (atype := .long) (ty := .long) (a0 := (N, .inr (.inl (fun _ => 0)))) (N' := N) hM.2.1 hM.2.2.1 (hM.w hw args) rfl hM.kk hP hD hS (fun q hq => Nat.le_trans hM.2.2.2.2.2.2.2.1.2.1 hq) (fun cA => rfl) (nI_pos (by omega)) (nI_clamp (by omega)) (by rw [show componentBytes FieldType.long = 8 from rfl]; omega) (by omega) (by omega) hd (fun q cA H1 hK hP hD hS => ?_)
  have a1 : s.vm.findClass ("[" ++ FieldType.long.toString) = some cA := (hK.2 6 (cA, .long) rfl).2
  have a2 : s.vm.findClass ("[" ++ FieldType.long.toString) = some (gR G 14) := (hM.kk.2 2 (gR G 14, .long) rfl).2
  have e1 : cA = gR G 14 := Option.some.inj (a1.symm.trans a2)
  rw [e1, List.append_assoc, ht] at hP hD
  exact K q hD p e R s m args below meth c hM H1 locs (cells + 1) (slots + N) mc ms ls hP hS hl (by omega) (by omega) h3 h4 z hz
theorem c_newB {t2 : Nat → va_W} (N : Nat) {k0 n0 : Nat} {v : Int32} (hD : va_D (gF G) (ws0 ++ t)) (hd : decode mi.1 pc = .ok (.newarray .byte, 2)) (hw : GW G (.arrayClass .byte)) (hv : v = nI N) (hN : N ≤ 100000) (ht : ∀ q : Nat, t ++ [(q, .inl (gR G 12, N, .inl (fun _ => 0)))] = t2 q) (hk : k + 1 = k0) (hn : n + N = n0)
    (K : ∀ q, va_D (gF G) (ws0 ++ t2 q) → SemW G l mi k n Q (pc + 2) lv (.ref q :: st) (ws0 ++ t2 q) o) : SemW G l mi k0 n0 Q pc lv (.int v :: st) (ws0 ++ t) o := by
  intro p e R s m args below meth c hM H locs cells slots mc ms ls hP hS hl h1 h2 h3 h4 z hz
  subst hv hk hn
  refine va_newa (atype := .byte) (ty := .byte) (a0 := (N, .inl (fun _ => 0))) (N' := N) hM.2.1 hM.2.2.1 (hM.w hw args) rfl hM.kk hP hD hS (fun q hq => Nat.le_trans hM.2.2.2.2.2.2.2.1.2.1 hq) (fun cA => rfl) (nI_pos (by omega)) (nI_clamp (by omega)) (by rw [show componentBytes FieldType.byte = 1 from rfl]; omega) (by omega) (by omega) hd (fun q cA H1 hK hP hD hS => ?_)
  have a1 : s.vm.findClass ("[" ++ FieldType.byte.toString) = some cA := (hK.2 6 (cA, .byte) rfl).2
  have a2 : s.vm.findClass ("[" ++ FieldType.byte.toString) = some (gR G 12) := (hM.kk.2 0 (gR G 12, .byte) rfl).2
  have e1 : cA = gR G 12 := Option.some.inj (a1.symm.trans a2)
  rw [e1, List.append_assoc, ht] at hP hD
  exact K q hD p e R s m args below meth c hM H1 locs (cells + 1) (slots + N) mc ms ls hP hS hl (by omega) (by omega) h3 h4 z hz
theorem c_newZ {t2 : Nat → va_W} (N : Nat) {k0 n0 : Nat} {v : Int32} (hD : va_D (gF G) (ws0 ++ t)) (hd : decode mi.1 pc = .ok (.newarray .boolean, 2)) (hw : GW G (.arrayClass .boolean)) (hv : v = nI N) (hN : N ≤ 100000) (ht : ∀ q : Nat, t ++ [(q, .inl (gR G 15, N, .inl (fun _ => 0)))] = t2 q) (hk : k + 1 = k0) (hn : n + N = n0)
    (K : ∀ q, va_D (gF G) (ws0 ++ t2 q) → SemW G l mi k n Q (pc + 2) lv (.ref q :: st) (ws0 ++ t2 q) o) : SemW G l mi k0 n0 Q pc lv (.int v :: st) (ws0 ++ t) o := by
  intro p e R s m args below meth c hM H locs cells slots mc ms ls hP hS hl h1 h2 h3 h4 z hz
  subst hv hk hn
  refine va_newa (atype := .boolean) (ty := .boolean) (a0 := (N, .inl (fun _ => 0))) (N' := N) hM.2.1 hM.2.2.1 (hM.w hw args) rfl hM.kk hP hD hS (fun q hq => Nat.le_trans hM.2.2.2.2.2.2.2.1.2.1 hq) (fun cA => rfl) (nI_pos (by omega)) (nI_clamp (by omega)) (by rw [show componentBytes FieldType.boolean = 1 from rfl]; omega) (by omega) (by omega) hd (fun q cA H1 hK hP hD hS => ?_)
  have a1 : s.vm.findClass ("[" ++ FieldType.boolean.toString) = some cA := (hK.2 6 (cA, .boolean) rfl).2
  have a2 : s.vm.findClass ("[" ++ FieldType.boolean.toString) = some (gR G 15) := (hM.kk.2 3 (gR G 15, .boolean) rfl).2
  have e1 : cA = gR G 15 := Option.some.inj (a1.symm.trans a2)
  rw [e1, List.append_assoc, ht] at hP hD
  exact K q hD p e R s m args below meth c hM H1 locs (cells + 1) (slots + N) mc ms ls hP hS hl (by omega) (by omega) h3 h4 z hz
theorem c_newq {t2 : Nat → va_W} (C : String) (g j : Nat) (N : Nat) {k0 n0 index : Nat} {v : Int32} (hD : va_D (gF G) (ws0 ++ t)) (hd : decode mi.1 pc = .ok (.anewarray index, 3)) (hw : GW G (.classLink mi.2.2.1 index C)) (hover : va_AO C (gS G)) (hg : (tysOf G)[j]? = some (gR G g, .object C)) (hv : v = nI N) (hN : N ≤ 100000) (ht : ∀ q : Nat, t ++ [(q, .inl (gR G g, N, .inr (.inr (.inr (.inr (fun _ => none))))))] = t2 q) (hk : k + 1 = k0) (hn : n + N = n0)
    (K : ∀ q, va_D (gF G) (ws0 ++ t2 q) → SemW G l mi k n Q (pc + 3) lv (.ref q :: st) (ws0 ++ t2 q) o) : SemW G l mi k0 n0 Q pc lv (.int v :: st) (ws0 ++ t) o := by
  intro p e R s m args below meth c hM H locs cells slots mc ms ls hP hS hl h1 h2 h3 h4 z hz
  subst hv hk hn
  refine va_newq (C := C) (own := mi.2.2.1) (N' := N) hM.2.1 hM.2.2.1 hM.2.2.2.2.1 (hM.w hw args) (va_AO.moved hM.2.2.2.2.2.2.2.1.1.alike hover) hM.kk hP hD hS (fun q hq => Nat.le_trans hM.2.2.2.2.2.2.2.1.2.1 hq) (nI_pos (by omega)) (nI_clamp (by omega)) (by omega) (by omega) (by omega) hd (fun q cA H1 hK hP hD hS => ?_)
  obtain ⟨_, _, _, _, _, a1⟩ := (hK.2 6 (cA, .object C) rfl).2
  obtain ⟨_, _, _, _, _, a2⟩ := (hM.kk.2 j (gR G g, .object C) hg).2
  have e1 : cA = gR G g := Option.some.inj (a1.symm.trans a2)
  rw [e1, List.append_assoc, ht] at hP hD
  exact K q hD p e R s m args below meth c hM H1 locs (cells + 1) (slots + N) mc ms ls hP hS hl (by omega) (by omega) h3 h4 z hz
theorem c_new {t2 : Nat → va_W} (ci NN : Nat) {k0 n0 : Nat} {C : String} {TT : u_T} {ty : Nat → FieldType} (fs : List Value) {index : Nat} (hD : va_D (gF G) (ws0 ++ t)) (hd : decode mi.1 pc = .ok (.new index, 3)) (hw : GW G (.classLink mi.2.2.1 index C)) (hi : GW G (.instantiable C NN)) (hini : GW G (.initialized C)) (hcw : ∀ w ∈ u_ws C TT NN, GW G w)
    (hty : ∀ k, k < NN → parseFieldDescriptor (TT k).2.2.1 = some (ty k)) (hc : vwCl[ci]? = some (C, TT, NN)) (hfs : ∀ j, j < NN → defaultValue (ty j) = vp_V fs j) (ht : ∀ q : Nat, t ++ [(q, .inr (ci, fs))] = t2 q) (hk : k + 1 = k0) (hn : n + NN = n0)
    (K : ∀ q, va_D (gF G) (ws0 ++ t2 q) → SemW G l mi k n Q (pc + 3) lv (.ref q :: st) (ws0 ++ t2 q) o) : SemW G l mi k0 n0 Q pc lv st (ws0 ++ t) o := by
  intro p e R s m args below meth c hM H locs cells slots mc ms ls hP hS hl h1 h2 h3 h4 z hz
  subst hk hn
  refine va_new (Ts := u_ws C TT NN) (T := TT) (own := mi.2.2.1) (fs := fs) hM.2.1 hM.2.2.1 (fun w h => hM.w (hcw w h) args) (fun _ h => h) ty hty hM.2.2.2.2.1 (hM.w hw args) (hM.w hi args) (hM.w hini args) hM.kk hP hD hS (fun q hq => Nat.le_trans hM.2.2.2.2.2.2.2.1.2.1 hq) hc hfs (by omega) (by omega) hd (fun q H1 hP hD hS => ?_)
  rw [List.append_assoc, ht] at hP hD
  exact K q hD p e R s m args below meth c hM H1 locs (cells + 1) (slots + NN) mc ms ls hP hS hl (by omega) (by omega) h3 h4 z hz
theorem c_putF {t2 : va_W} (j : Nat) {ci q a b index : Nat} (fs : List Value) (hD : va_D (gF G) (ws0 ++ t)) (hd : decode mi.1 pc = .ok (.putfield index, 3)) (hF : FPF G mi.2.2.1 index ci q) (hx : mi.2.2.2.2.2 = [(0, 0, 0, 0)]) (he : t[j]? = some (a, .inr (ci, fs))) (hl0 : q < fs.length) (ht : t.set j (a, .inr (ci, fs.set q (.ref b))) = t2)
    (K : va_D (gF G) (ws0 ++ t2) → SemW G l mi k n Q (pc + 3) lv st (ws0 ++ t2) o) : SemW G l mi k n Q pc lv (.ref b :: .ref a :: st) (ws0 ++ t) o := by
  intro p e R s m args below meth c hM H locs cells slots mc ms ls hP hS hl h1 h2 h3 h4 z hz
  obtain ⟨CC, TT, NN, ⟨hw, hc, hwc, hq, hs, h12⟩, hnm, hfin, hdecl, ty0, hty, hnr, hft⟩ := hF
  refine va_putF (Ts := u_ws CC TT NN) (T := TT) (own := mi.2.2.1) (ref := CC) (v := .ref b) (ty := ty0 q) hM.2.1 hM.2.2.1 (fun w h => hM.w (hwc w h) args) (fun _ h => h) ty0 hty hnm hM.2.2.2.2.1 hM.kk hP hD hS (ws0.length + j) (by rw [wz_at]; exact he) hc q hq (hM.w hw args) (fun _ h => hs ▸ h) hfin (hM.2.2.2.2.2.2.2.2.2.2.2 hx) hdecl (hty q hq) (hnr b) (hft b) hl0 hd (fun H1 locs1 hP hD hS => ?_)
  rw [wz_set, ht] at hP hD
  exact K hD p e R s m args below meth c hM H1 locs1 cells slots mc ms ls hP hS hl h1 h2 h3 h4 z hz
theorem c_putI {t2 : va_W} (j : Nat) {ci q a index : Nat} {v : Int32} (fs : List Value) (hD : va_D (gF G) (ws0 ++ t)) (hd : decode mi.1 pc = .ok (.putfield index, 3)) (hF : FP G mi.2.2.1 index ci q 0 .int) (he : t[j]? = some (a, .inr (ci, fs))) (hl0 : q < fs.length) (ht : t.set j (a, .inr (ci, fs.set q (.int v))) = t2)
    (K : va_D (gF G) (ws0 ++ t2) → SemW G l mi k n Q (pc + 3) lv st (ws0 ++ t2) o) : SemW G l mi k n Q pc lv (.int v :: .ref a :: st) (ws0 ++ t) o := by
  intro p e R s m args below meth c hM H locs cells slots mc ms ls hP hS hl h1 h2 h3 h4 z hz
  obtain ⟨CC, TT, NN, ⟨hw, hc, hwc, hq, hs, h12⟩, ⟨o9, hf⟩, hnm, hfin, ty0, hty, hT⟩ := hF
  refine va_put (Ts := u_ws CC TT NN) (T := TT) (own := mi.2.2.1) (ref := CC) (v := .int v) (ty := .int) hM.2.1 hM.2.2.1 (fun w h => hM.w (hwc w h) args) (fun _ h => h) ty0 hty hnm hM.2.2.2.2.1 hM.kk hP hD hS (ws0.length + j) (by rw [wz_at]; exact he) hc q hq (hM.w hw args) (fun _ h => hs ▸ h) hfin (by rw [hty q hq, hT]) rfl rfl hl0 hd (fun H1 locs1 hP hD hS => ?_)
  rw [wz_set, ht] at hP hD
  exact K hD p e R s m args below meth c hM H1 locs1 cells slots mc ms ls hP hS hl h1 h2 h3 h4 z hz
theorem c_getR (j : Nat) {ci q o9 t9 a b index : Nat} (fs : List Value) (hd : decode mi.1 pc = .ok (.getfield index, 3)) (hF : FI G mi.2.2.1 index ci q t9 o9) (he : t[j]? = some (a, .inr (ci, fs))) (hv : fs[q]? = some (.ref b))
    (K : SemW G l mi k n Q (pc + 3) lv (.ref b :: st) (ws0 ++ t) o) : SemW G l mi k n Q pc lv (.ref a :: st) (ws0 ++ t) o := by
  intro p e R s m args below meth c hM H locs cells slots mc ms ls hP hS hl h1 h2 h3 h4 z hz
  obtain ⟨CC, TT, NN, ⟨hw, hc, hwc, hq, hs, h12⟩, hf⟩ := hF
  exact va_get (Ts := u_ws CC TT NN) (T := TT) (own := mi.2.2.1) (ref := CC) (v := .ref b) hM.2.1 hM.2.2.1 (fun w h => hM.w (hwc w h) args) (fun _ h => h) hM.2.2.2.2.1 hM.kk hP (ws0.length + j) (by rw [wz_at]; exact he) hc q hq (hM.w hw args) (fun _ h => hs ▸ h) hv hd (K p e R s m args below meth c hM H locs cells slots mc ms ls hP hS hl h1 h2 h3 h4 z hz)
theorem c_alen (j t0 N : Nat) {a : Nat} {cA : ClassId} {x : (Nat → Int32) ⊕ (Nat → Int64) ⊕ (Nat → UInt32) ⊕ (Nat → UInt64) ⊕ (Nat → Option Nat)} {ty : FieldType} (v : Int32) (hd : decode mi.1 pc = .ok (.arraylength, 1)) (he : t[j]? = some (a, .inl (cA, N, x))) (ht : (tysOf G)[t0]? = some (cA, ty)) (hv : Int32.ofNat N = v)
    (K : SemW G l mi k n Q (pc + 1) lv (.int v :: st) (ws0 ++ t) o) : SemW G l mi k n Q pc lv (.ref a :: st) (ws0 ++ t) o := by
  intro p e R s m args below meth c hM H locs cells slots mc ms ls hP hS hl h1 h2 h3 h4 z hz
  exact va_alen hM.2.1 hM.2.2.1 hM.kk hP (ws0.length + j) t0 (by rw [wz_at]; exact he) ht hv hd (K p e R s m args below meth c hM H locs cells slots mc ms ls hP hS hl h1 h2 h3 h4 z hz)
theorem c_iast {t2 : va_W} (j : Nat) {a N : Nat} {i x : Int32} (f : Nat → Int32) (hD : va_D (gF G) (ws0 ++ t)) (hd : decode mi.1 pc = .ok (.iastore, 1)) (he : t[j]? = some (a, .inl (gR G 13, N, .inl f))) (hin : vp_in i N) (ht : t.set j (a, .inl (gR G 13, N, .inl (upd f i.toNatClampNeg x))) = t2)
    (K : va_D (gF G) (ws0 ++ t2) → SemW G l mi k n Q (pc + 1) lv st (ws0 ++ t2) o) : SemW G l mi k n Q pc lv (.int x :: .int i :: .ref a :: st) (ws0 ++ t) o := by
  intro p e R s m args below meth c hM H locs cells slots mc ms ls hP hS hl h1 h2 h3 h4 z hz
  refine va_iast hM.2.1 hM.2.2.1 hM.kk hP hD hS (ws0.length + j) 1 (by rw [wz_at]; exact he) rfl hin hd (fun H1 locs1 hP hD hS => ?_)
  rw [wz_set, ht] at hP hD
  exact K hD p e R s m args below meth c hM H1 locs1 cells slots mc ms ls hP hS hl h1 h2 h3 h4 z hz
theorem c_aast {t2 : va_W} (j j2 t0 : Nat) {a b N ci : Nat} {cA : ClassId} {i : Int32} {vs : List Value} {r : vw_C} (f : Nat → Option Nat) (hD : va_D (gF G) (ws0 ++ t)) (hd : decode mi.1 pc = .ok (.aastore, 1)) (he : t[j]? = some (a, .inl (cA, N, .inr (.inr (.inr (.inr f)))))) (ht0 : (tysOf G)[t0]? = some (cA, .object r.1)) (hb : t[j2]? = some (b, .inr (ci, vs))) (hc : vwCl[ci]? = some r) (hin : vp_in i N) (ht : t.set j (a, .inl (cA, N, .inr (.inr (.inr (.inr (va_up f i.toNatClampNeg (some b))))))) = t2)
    (K : va_D (gF G) (ws0 ++ t2) → SemW G l mi k n Q (pc + 1) lv st (ws0 ++ t2) o) : SemW G l mi k n Q pc lv (.ref b :: .int i :: .ref a :: st) (ws0 ++ t) o := by
  intro p e R s m args below meth c hM H locs cells slots mc ms ls hP hS hl h1 h2 h3 h4 z hz
  refine va_astq hM.2.1 hM.2.2.1 hM.kk hP hD hS (ws0.length + j) t0 (ws0.length + j2) ci (by rw [wz_at]; exact he) ht0 (by rw [wz_at]; exact hb) hc hin hd (fun H1 locs1 hP hD hS => ?_)
  rw [wz_set, ht] at hP hD
  exact K hD p e R s m args below meth c hM H1 locs1 cells slots mc ms ls hP hS hl h1 h2 h3 h4 z hz
theorem c_obj {ws : va_W} {index a : Nat} (hd : decode mi.1 pc = .ok (.invokespecial index, 3)) (hw : GW G (.methodLink mi.2.2.1 index Lib.objectInit)) (hi : GW G (.instanceMethod Lib.objectInit)) (hcd : GW G (.code Lib.objectInit ⟨#[0xb1]⟩ 1 none)) (h0 : 1 ≤ hiOf mi) (hcat : (st.map fun v => v.category).sum ≤ 8) (K : SemW G l mi k n Q (pc + 3) lv st ws o) : SemW G l mi k n Q pc lv (.ref a :: st) ws o := by
  intro p e R s m args below meth c hM H locs cells slots mc ms ls hP hS hl h1 h2 h3 h4 z hz
  have hf : hiOf mi ≤ R.frames := hM.2.2.2.2.2.2.2.2.1
  have hlo : 40 * hiOf mi ≤ R.locals := hM.2.2.2.2.2.2.2.2.2.1
  have hr := lv_room (m := m) (pc := pc) (ls := ls) (rest := .ref a :: st) hcat
  refine W.objInit hM.2.1 hM.2.2.1 hM.2.2.2.2.1 (hM.w hw args) (hM.w hi args) (hM.w hcd args) rfl (by rw [hM.2.2.2.1]; exact hl.1) rfl hd (by omega) (by omega) ?_
  exact W.eq (g2 := F0 m (pc + 3) ls st) rfl (K p e R s m args below meth c hM H locs cells slots mc ms ls hP hS hl h1 h2 h3 h4 z hz)
theorem c_vret {q0 : Nat} {post : Nat → (Nat → Nat) → va_W} (f : Nat → Nat) (hD : va_D (gF G) (ws0 ++ t)) (hd : decode mi.1 pc = .ok (.return_, 1)) (hr : mi.2.2.2.1 = none) (ht : t = post q0 f) : SemW G l mi k n (fun _ : Unit => QC G ws0 q0 post) pc lv [] (ws0 ++ t) (some ()) := by
  intro p e R s m args below meth c hM H locs cells slots mc ms ls hP hS hl h1 h2 h3 h4 z hz
  subst ht
  refine vx_ret (W.widen (k := mc) (n := ms) (by omega) (by omega) ?_)
  exact W.vret hM.2.1 hM.2.2.1 (hM.2.2.2.2.2.2.1.trans hr) (fun t hH _ => ⟨rfl, ⟨f, by rw [hH]; exact hP, hD⟩, hS.F hH⟩) hS.2.2 hd hM.2.2.2.2.2.1
theorem MC.wm {p : Program} {R : Room} {s : State} {m : MethodId} {meth : Method} {c : Code} {H : Heap} {locs : List Loc} (h : MC G l mi p R s m meth c) (hS : va_S (gF G) s.heap H locs) {U : State} (hU : U.heap = H) (hW : s.WarmedH U.vm) : Wm G U := by
  obtain ⟨w1, w2, w3⟩ := h.2.2.2.2.2.2.2.1
  refine ⟨State.WarmedH.trans w1 hW, by rw [hU]; exact Nat.le_trans w2 hS.1, fun q hq => ?_⟩
  rw [hU, hS.2.1 q (Nat.lt_of_lt_of_le hq w2) (Nat.not_le.mpr hq)]
  exact w3 q hq
theorem blindC {as : List Value} {ws : va_W} : FrameBlind (va_Pc as (fun U => va_P (gD G) vwCl ws U.heap ∧ va_D (gF G) ws ∧ Wm G U)) := fun _ _ _ _ h => h
theorem c_init {y : MethodName} {mi2 : MI} {k2 n2 na index k0 n0 ci q0 : Nat} {stk : List Value} {fs0 : List Value} {post : Nat → (Nat → Nat) → va_W} {t2 : (Nat → Nat) → va_W} (as : List Value) (t1 : va_W) (hD : va_D (gF G) (ws0 ++ t)) (hd : decode mi.1 pc = .ok (.invokespecial index, 3)) (hC : CIK G mi.2.2.1 index y mi2 na) (hh : hiOf mi2 + 1 ≤ hiOf mi) (hlen : as.length = na)
    (hok : OkC G l y mi2 k2 n2 as ci fs0 post) (hsk : as.reverse ++ .ref q0 :: st = stk) (ht : t = t1 ++ [(q0, .inr (ci, fs0))]) (hcat : (st.map fun v => v.category).sum ≤ 8) (hk : k2 + k = k0) (hn : n2 + n = n0) (ht2 : ∀ f, t1 ++ post q0 f = t2 f)
    (K : ∀ f, va_D (gF G) (ws0 ++ t2 f) → SemW G l mi k n Q (pc + 3) lv st (ws0 ++ t2 f) o) : SemW G l mi k0 n0 Q pc lv stk (ws0 ++ t) o := by
  intro p e R s m args below meth c hM H locs cells slots mc ms ls hP hS hl h1 h2 h3 h4 z hz
  subst hsk ht
  obtain ⟨hw, hi, hm, hnm, hrn⟩ := hC
  rw [← List.append_assoc] at hP hD
  have cb := hm.cb (k2 := k2) (n2 := n2) hM hw hh args
  rw [hrn] at cb
  have run := va_runI (e := e) (below := below) (meth := meth) (locs := locs) (cells := cells) (slots := slots) (g := F0 m pc ls (as.reverse ++ .ref q0 :: st)) (As := as) (rest := st) (hM.fix args) (hok (ws0 ++ t1) q0) ⟨cb, hnm, hM.w hi args⟩ ⟨blindC, fun U hU hW => ⟨rfl, by rw [hU]; exact hP, hD, hM.wm hS hU hW⟩⟩ rfl hlen hl.1 rfl (lv_room hcat) hd ⟨by omega, by omega⟩
  intro U hU X
  obtain ⟨v, st₀, t', T', L, g0, X', hL, e1, e2, ⟨hv, ⟨f, hp, hd'⟩, hF⟩, stp⟩ := run U hU X
  cases hv
  obtain ⟨-, -, k3⟩ := vx_keep g0 e1 hS (fun _ _ q => q) (fun _ q => q) hL hF
  rw [List.append_assoc, ht2] at hp hd'
  obtain ⟨t9, a1, b1⟩ := K f hd' p e R s m args below meth c hM T'.heap (locs ++ L) (cells + k2) (slots + n2) mc ms ls (by rw [e1]; exact hp) k3 hl (by omega) (by omega) h3 h4 z hz T' rfl X'
  exact ⟨t9, stp t9 a1, b1⟩
theorem c_initN {y : MethodName} {mi2 : MI} {k2 n2 na index k0 n0 ci q0 : Nat} {stk : List Value} {fs0 : List Value} {post : Nat → (Nat → Nat) → va_W} {t2 : (Nat → Nat) → va_W} (as : List Value) (t1 : va_W) (hD : va_D (gF G) (ws0 ++ t)) (hd : decode mi.1 pc = .ok (.invokespecial index, 3)) (hC : CIN G mi.2.2.1 index y mi2 na) (hh : hiOf mi2 + 1 ≤ hiOf mi) (hlen : as.length = na)
    (hok : OkC G l y mi2 k2 n2 as ci fs0 post) (hsk : as.reverse ++ .ref q0 :: st = stk) (ht : t = t1 ++ [(q0, .inr (ci, fs0))]) (hcat : (st.map fun v => v.category).sum ≤ 8) (hk : k2 + k = k0) (hn : n2 + n = n0) (ht2 : ∀ f, t1 ++ post q0 f = t2 f)
    (K : ∀ f, va_D (gF G) (ws0 ++ t2 f) → SemW G l mi k n Q (pc + 3) lv st (ws0 ++ t2 f) o) : SemW G l mi k0 n0 Q pc lv stk (ws0 ++ t) o := by
  intro p e R s m args below meth c hM H locs cells slots mc ms ls hP hS hl h1 h2 h3 h4 z hz
  subst hsk ht
  obtain ⟨host, hw, hi, hm, hnm, hrn⟩ := hC
  rw [← List.append_assoc] at hP hD
  have cb := hm.cn (k2 := k2) (n2 := n2) hM hw hh args
  rw [hrn] at cb
  have run := va_runIN (e := e) (below := below) (meth := meth) (locs := locs) (cells := cells) (slots := slots) (g := F0 m pc ls (as.reverse ++ .ref q0 :: st)) (As := as) (rest := st) (hM.fix args) (hok (ws0 ++ t1) q0) ⟨cb, hnm, hM.w hi args⟩ ⟨blindC, fun U hU hW => ⟨rfl, by rw [hU]; exact hP, hD, hM.wm hS hU hW⟩⟩ rfl hlen hl.1 rfl (lv_room hcat) hd ⟨by omega, by omega⟩
  intro U hU X
  obtain ⟨v, st₀, t', T', L, g0, X', hL, e1, e2, ⟨hv, ⟨f, hp, hd'⟩, hF⟩, stp⟩ := run U hU X
  cases hv
  obtain ⟨-, -, k3⟩ := vx_keep g0 e1 hS (fun _ _ q => q) (fun _ q => q) hL hF
  rw [List.append_assoc, ht2] at hp hd'
  obtain ⟨t9, a1, b1⟩ := K f hd' p e R s m args below meth c hM T'.heap (locs ++ L) (cells + k2) (slots + n2) mc ms ls (by rw [e1]; exact hp) k3 hl (by omega) (by omega) h3 h4 z hz T' rfl X'
  exact ⟨t9, stp t9 a1, b1⟩
theorem c_geNo {x y : Int32} {ws : va_W} {off : Int} (tgt : Nat) (hd : decode mi.1 pc = .ok (.if_icmp .ge off, 3)) (ht : (pc : Int) + off = (tgt : Int)) (h : ¬ y ≤ x) (K : SemW G l mi k n Q (pc + 3) lv st ws o) : SemW G l mi k n Q pc lv (.int y :: .int x :: st) ws o := by
  have h9 := s_icmp_ge (x := x) (y := y) tgt hd ht (s_none (o := none) rfl) K
  rw [if_neg h] at h9
  exact h9
theorem c_geYes {x y : Int32} {ws : va_W} {off : Int} (tgt : Nat) (hd : decode mi.1 pc = .ok (.if_icmp .ge off, 3)) (ht : (pc : Int) + off = (tgt : Int)) (h : y ≤ x) (K : SemW G l mi k n Q tgt lv st ws o) : SemW G l mi k n Q pc lv (.int y :: .int x :: st) ws o := by
  have h9 := s_icmp_ge (x := x) (y := y) tgt hd ht K (s_none (o := none) rfl)
  rw [if_pos h] at h9
  exact h9
end CTOR
