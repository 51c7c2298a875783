/-! METHODS WITH HANDLERS (the law's own): try { .. } catch (E e) { return j; } -/
abbrev codeX (y : MethodName) (mi : MI) : List Cond := [Cond.codeWith y mi.1 mi.2.1 mi.2.2.2.1 (xtOf mi)]
/-- a method with handlers, that returns -/
def OkW {T : Type} (G : GT) (l : Launch) (y : MethodName) (mi : MI) (k n : Nat) (τ : T → Option Value × PH) (as : List Value) (P : PH) (o : Option T) : Prop :=
  ∀ z, o = some z → Met l y (codeX y mi) (rmOf mi k n) (va_Pc as (Wd G P)) (qn G (τ z)) k n (gF G)
theorem okW_of {T : Type} {G : GT} {l : Launch} {y : MethodName} {mi : MI} {k n : Nat} {τ : T → Option Value × PH} {P : PH} {o : Option T} (hG : GOK G l) (as : List Value) (lv : List (Nat × Value)) (hy : plainName y.cls = true) (hc : y.cls = mi.2.2.1)
    (hlv : lv_args 0 as = lv) (hfit : (lg_sl as).length ≤ mi.2.1) (hxf : xtOf mi ≠ [(0, 0, 0, 0)]) (K : Sem G l mi k n (rn τ) 0 lv [] P o) : OkW G l y mi k n τ as P o := by
  intro z hz
  have h : vx_Met l y (codeX y mi) (rmOf mi k n) (va_Pc as (Wd G P)) (qc G (rn τ z)) (xc G (rn τ z)) k n (gF G) := by
    refine vx_ofWH (cc := mi.1) (maxL := mi.2.1) (ret := mi.2.2.2.1) (hh := xtOf mi) hy rfl ?_
    intro p e s m args below meth c s₁ B hml hv
    obtain ⟨rfl, hP, hW, hsz, hfr⟩ := hv
    have hw : (Cond.codeWith y mi.1 mi.2.1 mi.2.2.2.1 (xtOf mi)).before as.toArray s = true := atoms_spec (ws := codeX y mi) B.pre _ (List.mem_singleton.mpr rfl)
    have htab := vx_table (x := y) B hw
    have hl := lv_entry as (n := mi.2.1) hfit
    rw [lg_entry_eq]
    generalize (lg_sl as ++ List.replicate (mi.2.1 - (lg_sl as).length) Slot.unset).toArray = ls at hl ⊢
    subst hlv
    exact K p e _ s m _ below meth c ⟨hG, B.exec, B.bytes, hml, by rw [← hc]; exact findClass_of_methodNamed B.named, B.notSynchronized, B.returns, ⟨hW, hsz, hfr⟩, Nat.le_refl _, Nat.le_refl _, by rw [show xt2 mi.2.2.2.2.2 = xtOf mi from if_neg hxf]; exact htab, fun hq => absurd hq hxf⟩ s.heap [] 0 0 k n ls hP va_S.rf hl (by omega) (by omega) (Nat.le_refl _) (Nat.le_refl _) z hz
  have e : vx_Q (qc G (rn τ z)) (xc G (rn τ z)) k n (gF G) = fun a st o t => qn G (τ z) a st o t ∧ ∃ L, FrameEnd st o t L k n ∧ ∀ q ∈ L, gF G q.base := by
    funext a st o t
    apply propext
    constructor
    · rintro (⟨⟨v, h1, h2, h3, h4⟩, h5⟩ | ⟨q, -, E, ce, L, ⟨h1, -⟩, -⟩)
      · cases h1
        exact ⟨⟨h2, h3, h4⟩, h5⟩
      · cases h1
    · rintro ⟨⟨h1, h2, h3⟩, h5⟩
      exact Or.inl ⟨⟨_, rfl, h1, h2, h3⟩, h5⟩
  unfold vx_Met at h
  rw [e] at h
  exact h
/-- which handler takes E at pc: astore, iconst, ireturn -/
def Hnd (G : GT) (mi : MI) (pc : Nat) (E : String) (v : Int32) : Prop := ∃ (pre : List (Nat × Nat × Nat × Nat)) (x : Nat × Nat × Nat × Nat) (suf : List (Nat × Nat × Nat × Nat)) (a i len : Nat) (j : Int), xtOf mi = pre ++ x :: suf ∧
  (∀ y ∈ pre, y.2.2.2 ≠ 0 ∧ ∃ nm, GW G (.classLink mi.2.2.1 y.2.2.2 nm) ∧ va_Nc E nm (gS G)) ∧ (decide (x.1 ≤ pc) && decide (pc < x.2.1)) = true ∧ x.2.2.2 ≠ 0 ∧ GW G (.classLink mi.2.2.1 x.2.2.2 E) ∧ GW G (.castable E E) ∧ mi.2.2.2.1 = some .int ∧
  a = x.2.2.1 ∧ ((∃ f : Fin 4, decode mi.1 a = .ok (.astore_n f, 1) ∧ (f : Nat) = i ∧ len = 1) ∨ (decode mi.1 a = .ok (.astore i, 2) ∧ len = 2)) ∧ i < mi.2.1 ∧ decode mi.1 (a + len) = .ok (.iconst j, 1) ∧ Int32.ofInt j = v ∧ decode mi.1 (a + len + 1) = .ok (.ireturn, 1)
section WRAP
variable {T T2 : Type} {G : GT} {l : Launch} {mi : MI} {k n : Nat} {τ : T → RS} {pc : Nat} {lv : List (Nat × Value)} {st : List Value} {P : PH} {o : Option T}
theorem Hnd.go {E : String} {v : Int32} (hH : Hnd G mi pc E v) {z : T} {P' : PH} (hz : τ z = (.inl (some (.int v)), P')) {p : Program} {e : Env} {R : Room} {s : State} {m : MethodId} {args : Array Value} {below : List Frame} {meth : Method} {c : Code} {H : Heap} {locs : List Loc} {cells slots mc ms : Nat} {ls : Array Slot} {rest : List Value} {ce : Cell} {q : Addr}
    (hM : MC G l mi p R s m meth c) (hl : lv_has ls mi.2.1 lv) (hP : va_P (gD G) vwCl (wsOf G P') H) (hS : va_S (gF G) s.heap H locs) (hc1 : cells ≤ mc) (hc2 : slots ≤ ms) (hce : H[q]? = some ce) (hcv : ce.vm = .none) (hcl : s.vm.findClass E = some ce.cls) :
    vx_W p l e R s m args below meth c H locs cells slots (vx_MQ below (qc G (τ z)) (xc G (τ z)) args s mc ms (gF G)) (F0 m pc ls rest) q := by
  obtain ⟨pre, x, suf, a, i, len, j, h1, h2, h3, h4, h5, h6, hr, ha, h7, h8, h9, h10, h11⟩ := hH
  have hw := hM.2.2.2.2.2.2.2.1.1
  have ht : c.exceptionTable.toList = pre.map (fun q => (⟨q.1, q.2.1, q.2.2.1, q.2.2.2⟩ : ExceptionTableEntry)) ++ ⟨x.1, x.2.1, x.2.2.1, x.2.2.2⟩ :: suf.map (fun q => (⟨q.1, q.2.1, q.2.2.1, q.2.2.2⟩ : ExceptionTableEntry)) := by
    have hne : ¬ pre ++ x :: suf = [(0, 0, 0, 0)] := by
      intro hh
      cases pre with
      | nil => cases hh; exact h4 rfl
      | cons b r => simp at hh
    rw [hM.2.2.2.2.2.2.2.2.2.2.1, show mi.2.2.2.2.2 = pre ++ x :: suf from h1, show xt2 (pre ++ x :: suf) = pre ++ x :: suf from if_neg hne]
    unfold tableOf
    rw [List.map_append, List.map_cons]
  refine vx_catch (own := mi.2.2.1) (name := E) (E := E) hM.2.2.2.2.1 _ _ _ ht ?_ h3 h4 (hM.w h5 args) (hM.w h6 args) hce hcv hcl ?_
  · intro y hy
    obtain ⟨y0, hy0, rfl⟩ := List.mem_map.mp hy
    obtain ⟨g1, nm, g2, g3⟩ := h2 y0 hy0
    exact Or.inr ⟨g1, nm, hM.w g2 args, va_Nc.moved hw.alike g3⟩
  · have fin : ∀ ls2 : Array Slot, W p l e R s m args below meth c H locs cells slots (vx_MQ below (qc G (τ z)) (xc G (τ z)) args s mc ms (gF G)) (F0 m (a + len) ls2 []) := by
      intro ls2
      refine lv_iconst hM.2.1 hM.2.2.1 h9 h10 ?_
      refine vx_ret (W.widen (k := mc) (n := ms) hc1 hc2 ?_)
      exact W.iret hM.2.1 hM.2.2.1 (hM.2.2.2.2.2.2.1.trans hr) (fun t hH _ => ⟨_, by rw [hz], rfl, by rw [hz, hH]; exact hP, hS.F hH⟩) hS.2.2 h11 hM.2.2.2.2.2.1
    show W p l e R s m args below meth c H locs cells slots _ (F0 m x.2.2.1 ls [.ref q])
    rw [← ha]
    rcases h7 with ⟨f, d1, d2, rfl⟩ | ⟨d1, rfl⟩
    · exact lv_astore_n hM.2.1 hM.2.2.1 d1 d2 hl h8 rfl (fun ls2 _ => fin ls2)
    · exact lv_astore hM.2.1 hM.2.2.1 d1 hl h8 rfl (fun ls2 _ => fin ls2)
theorem s_callVTX {y : MethodName} {mi2 : MI} {k2 n2 na index b ci k0 n0 : Nat} {stk : List Value} {oc : Option T2} {kf : T2 → Option T} {τ2 : T2 → RS} (as : List Value)
    (hd : decode mi.1 pc = .ok (.invokevirtual index, 3)) (hC : CVK G mi.2.2.1 index y mi2 na ci) (hh : hiOf mi2 + 1 ≤ hiOf mi) (hlen : as.length = na) (hb : kd b = ci)
    (hok : OkT G l y mi2 k2 n2 τ2 (.ref (gA G b) :: as) P oc) (hsk : as.reverse ++ .ref (gA G b) :: st = stk) (hcat : (st.map fun v => v.category).sum ≤ 8) (hk : k2 + k = k0) (hn : n2 + n = n0)
    (KX : ∀ x E, (τ2 x).1 = .inr E → ∀ z, kf x = some z → ∃ v, Hnd G mi pc E v ∧ τ z = (.inl (some (.int v)), (τ2 x).2))
    (K : ∀ x v, (τ2 x).1 = .inl v → Sem G l mi k n τ (pc + 3) lv (v.toList ++ st) (τ2 x).2 (kf x)) : Sem G l mi k0 n0 τ pc lv stk P (oc.bind kf) := by
  intro p e R s m args below meth c hM H locs cells slots mc ms ls hP hS hl h1 h2 h3 h4 z hz
  obtain ⟨x, hx, hz⟩ := Option.bind_eq_some_iff.mp hz
  subst hsk
  obtain ⟨hw, hi, hsel, hm, h12, r, hr, hrc⟩ := hC
  have run := vx_runV (rest := st) (H := H) (locs := locs) (cells := cells) (slots := slots) (g := F0 m pc ls (as.reverse ++ .ref (gA G b) :: st)) (e := e) (below := below) (meth := meth) (As := as) (hM.fix args) (hok x hx) ⟨hm.cb hM hw hh args, hM.w hi args, hM.w hsel args⟩ ⟨blind, by rw [← hrc]; exact recv hM hP hb h12 hr, fun U hU hW => ⟨rfl, hM.wd hP hS hU hW⟩⟩ rfl hlen hl.1 rfl (lv_room hcat) hd ⟨by omega, by omega⟩
  intro U hU X
  rcases run U hU X with ⟨v, st₀, t, T', L, g0, X', hL, e1, e2, ⟨v', hy, hv, hp, hF⟩, stp⟩ | ⟨q, st₀, t, T', L, E, ce, g0, X', hL, e1, e2, ⟨hy, hp, hF⟩, hce, hcv, hcl, stp⟩
  · cases hv
    obtain ⟨-, -, k3⟩ := vx_keep g0 e1 hS (fun _ _ q => q) (fun _ q => q) hL hF
    obtain ⟨t2, a1, b1⟩ := K x _ hy p e R s m args below meth c hM T'.heap (locs ++ L) _ _ mc ms ls (by rw [e1]; exact hp) k3 hl (by omega) (by omega) h3 h4 z hz T' rfl X'
    exact ⟨t2, stp t2 a1, b1⟩
  · obtain ⟨-, -, k3⟩ := vx_keep g0 e1 hS (fun _ _ q => q) (fun _ q => q) hL hF
    obtain ⟨v, hH, h9⟩ := KX x E hy z hz
    obtain ⟨t2, a1, b1⟩ := Hnd.go (cells := cells + k2) (slots := slots + n2) (mc := mc) (ms := ms) hH h9 hM hl (P' := (τ2 x).2) (by rw [e1]; exact hp) k3 (by omega) (by omega) (by rw [e1]; exact hce) hcv hcl T' rfl X'
    exact ⟨t2, stp.trans a1, b1⟩
/-- the law's call of one of these -/
def CWK (G : GT) (own : String) (index : Nat) (y : MethodName) (mi : MI) (na : Nat) : Prop := GW G (.methodLink own index y) ∧ GW G (.static y) ∧ GW G (.codeWith y mi.1 mi.2.1 mi.2.2.2.1 (xtOf mi)) ∧ GW G (.initialized y.cls) ∧ (y.cls ≠ "java/lang/invoke/MethodHandle" ∧ y.cls ≠ "java/lang/invoke/VarHandle") ∧ (parseMethodDescriptor y.desc).map (fun d => d.parameters.length) = some na ∧ mi.2.1 ≤ 21
theorem s_callSW {y : MethodName} {mi2 : MI} {k2 n2 na index k0 n0 : Nat} {stk : List Value} {oc : Option T2} {kf : T2 → Option T} {τ2 : T2 → Option Value × PH} (as : List Value) (st' : T2 → List Value) (P' : T2 → PH)
    (hd : decode mi.1 pc = .ok (.invokestatic index, 3)) (hC : CWK G mi.2.2.1 index y mi2 na) (hh : hiOf mi2 + 1 ≤ hiOf mi) (hlen : as.length = na)
    (hok : OkW G l y mi2 k2 n2 τ2 as P oc) (hsk : as.reverse ++ st = stk) (hst : ∀ x, (τ2 x).1.toList ++ st = st' x) (hP' : ∀ x, (τ2 x).2 = P' x) (hcat : (st.map fun v => v.category).sum ≤ 8) (hk : k2 + k = k0) (hn : n2 + n = n0)
    (K : ∀ x, Sem G l mi k n τ (pc + 3) lv (st' x) (P' x) (kf x)) : Sem G l mi k0 n0 τ pc lv stk P (oc.bind kf) := by
  intro p e R s m args below meth c hM H locs cells slots mc ms ls hP hS hl h1 h2 h3 h4 z hz
  obtain ⟨x, hx, hz⟩ := Option.bind_eq_some_iff.mp hz
  subst hsk
  obtain ⟨hw, hi, hcd, hini, hn9, hde, hml⟩ := hC
  have hf : hiOf mi ≤ R.frames := hM.2.2.2.2.2.2.2.2.1
  have hlo : 40 * hiOf mi ≤ R.locals := hM.2.2.2.2.2.2.2.2.2.1
  have cw : vx_CSW R s args mi.2.2.1 index y mi2.1 mi2.2.1 mi2.2.2.2.1 (xtOf mi2) (codeX y mi2) (rmOf mi2 k2 n2) k2 n2 na := by
    refine ⟨⟨rfl, rfl, ?_, ?_, ?_, List.mem_singleton.mpr rfl⟩, hM.w hcd args, hM.w hini args, hn9, fun sig hs => ?_, hM.w hw args, hM.w hi args⟩
    · show hiOf mi2 + 1 ≤ R.frames
      omega
    · show 8 + (mi2.2.1 + 11) + 40 * hiOf mi2 ≤ R.locals
      omega
    · intro w hw9 a' U hU
      rw [List.mem_singleton.mp hw9]
      exact hcd _ _ (State.WarmedH.trans hM.2.2.2.2.2.2.2.1.1 hU)
    · rw [hs] at hde
      exact (Option.some.inj hde).symm
  refine go_call (vx_runSW (As := as) (rest := st) (hM.fix args) (hok x hx) cw ⟨blind, fun U hU hW => ⟨rfl, hM.wd hP hS hU hW⟩⟩ rfl hlen hl.1 rfl (lv_room hcat) hd ⟨by omega, by omega⟩) hS (fun H1 locs1 hP1 hS1 => ?_)
  rw [hP' x] at hP1
  rw [hst x]
  exact K x p e R s m args below meth c hM H1 locs1 _ _ mc ms ls hP1 hS1 hl (by omega) (by omega) h3 h4 z hz
end WRAP
