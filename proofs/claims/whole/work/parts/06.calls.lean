/-! CONTRACTS, CALLS, THROWS over the pure heap. -/
def qn (G : GT) (y : Option Value × PH) : Array Value → State → Outcome → State → Prop := fun _ st o t => o = .returned y.1 ∧ va_P (gD G) vwCl (wsOf G y.2) t.heap ∧ va_F (gF G) st t
abbrev hiOf (mi : MI) : Nat := mi.2.2.2.2.1
abbrev xtOf (mi : MI) : List (Nat × Nat × Nat × Nat) := mi.2.2.2.2.2
abbrev rmOf (mi : MI) (k n : Nat) : Room := { frames := hiOf mi, cells := k, slots := n, locals := 40 * hiOf mi }
abbrev codeOf (y : MethodName) (mi : MI) : List Cond := [Cond.code y mi.1 mi.2.1 mi.2.2.2.1]
/-- a method that returns -/
def OkN {T : Type} (G : GT) (l : Launch) (y : MethodName) (mi : MI) (k n : Nat) (τ : T → Option Value × PH) (as : List Value) (P : PH) (o : Option T) : Prop :=
  ∀ z, o = some z → Met l y (codeOf y mi) (rmOf mi k n) (va_Pc as (Wd G P)) (qn G (τ z)) k n (gF G)
/-- a method that returns or throws -/
def OkT {T : Type} (G : GT) (l : Launch) (y : MethodName) (mi : MI) (k n : Nat) (τ : T → RS) (as : List Value) (P : PH) (o : Option T) : Prop :=
  ∀ z, o = some z → vx_Met l y (codeOf y mi) (rmOf mi k n) (va_Pc as (Wd G P)) (qc G (τ z)) (xc G (τ z)) k n (gF G)
theorem okT_of {T : Type} {G : GT} {l : Launch} {y : MethodName} {mi : MI} {k n : Nat} {τ : T → RS} {P : PH} {o : Option T} (hG : GOK G l) (as : List Value) (lv : List (Nat × Value)) (hy : plainName y.cls = true) (hc : y.cls = mi.2.2.1)
    (hlv : lv_args 0 as = lv) (hfit : (lg_sl as).length ≤ mi.2.1) (h0 : xtOf mi = []) (K : Sem G l mi k n τ 0 lv [] P o) : OkT G l y mi k n τ as P o := by
  intro z hz
  refine vx_ofW (cc := mi.1) (maxL := mi.2.1) (ret := mi.2.2.2.1) hy rfl ?_
  intro p e s m args below meth c s₁ B hml hx hv
  obtain ⟨rfl, hP, hW, hsz, hfr⟩ := hv
  have hl := lv_entry as (n := mi.2.1) hfit
  rw [lg_entry_eq]
  generalize (lg_sl as ++ List.replicate (mi.2.1 - (lg_sl as).length) Slot.unset).toArray = ls at hl ⊢
  subst hlv
  exact K p e _ s m _ below meth c ⟨hG, B.exec, B.bytes, hml, by rw [← hc]; exact findClass_of_methodNamed B.named, B.notSynchronized, B.returns, ⟨hW, hsz, hfr⟩, Nat.le_refl _, Nat.le_refl _, by rw [show mi.2.2.2.2.2 = [] from h0]; exact List.eq_nil_iff_forall_not_mem.mpr (fun x hm => hx x hm), fun hq => absurd (hq.symm.trans h0) (by decide)⟩ s.heap [] 0 0 k n ls hP va_S.rf hl (by omega) (by omega) (Nat.le_refl _) (Nat.le_refl _) z hz
theorem okN_of {T : Type} {G : GT} {l : Launch} {y : MethodName} {mi : MI} {k n : Nat} {τ : T → Option Value × PH} {P : PH} {o : Option T} (hG : GOK G l) (as : List Value) (lv : List (Nat × Value)) (hy : plainName y.cls = true) (hc : y.cls = mi.2.2.1)
    (hlv : lv_args 0 as = lv) (hfit : (lg_sl as).length ≤ mi.2.1) (h0 : xtOf mi = []) (K : Sem G l mi k n (fun x => (.inl (τ x).1, (τ x).2)) 0 lv [] P o) : OkN G l y mi k n τ as P o := by
  intro z hz
  have h := okT_of hG as lv hy hc hlv hfit h0 K z hz
  have e : vx_Q (qc G (.inl (τ z).1, (τ z).2)) (xc G (.inl (τ z).1, (τ z).2)) k n (gF G) = fun a st o t => qn G (τ z) a st o t ∧ ∃ L, FrameEnd st o t L k n ∧ ∀ q ∈ L, gF G q.base := by
    funext a st o t
    apply propext
    constructor
    · rintro (⟨⟨v, h1, h2, h3, h4⟩, h5⟩ | ⟨q, -, E, ce, L, ⟨h1, -⟩, -⟩)
      · cases h1
        exact ⟨⟨h2, h3, h4⟩, h5⟩
      · cases h1
    · rintro ⟨⟨h1, h2, h3⟩, h5⟩
      exact Or.inl ⟨⟨_, rfl, h1, h2, h3⟩, h5⟩
  unfold vx_Met at h
  rw [e] at h
  exact h
/-- what a call needs of the callee -/
def MOK (G : GT) (y : MethodName) (mi : MI) (na : Nat) : Prop := GW G (.code y mi.1 mi.2.1 mi.2.2.2.1) ∧ GW G (.initialized y.cls) ∧ (y.cls ≠ "java/lang/invoke/MethodHandle" ∧ y.cls ≠ "java/lang/invoke/VarHandle") ∧ (parseMethodDescriptor y.desc).map (fun d => d.parameters.length) = some na ∧ mi.2.1 ≤ 21
/-- a call as a method of class own makes it: of an object, of a class, of the host's own -/
def CVK (G : GT) (own : String) (index : Nat) (y : MethodName) (mi : MI) (na ci : Nat) : Prop := GW G (.methodLink own index y) ∧ GW G (.instanceMethod y) ∧ GW G (.selects y.cls y y) ∧ MOK G y mi na ∧ ci < 12 ∧ ∃ r, vwCl[ci]? = some r ∧ r.1 = y.cls
def CSK (G : GT) (own : String) (index : Nat) (y : MethodName) (mi : MI) (na : Nat) : Prop := GW G (.methodLink own index y) ∧ GW G (.static y) ∧ MOK G y mi na
def CNK (G : GT) (own : String) (index : Nat) (y : MethodName) (mi : MI) (na : Nat) : Prop := ∃ host, GW G (.methodLinkNest own index y host) ∧ GW G (.static y) ∧ MOK G y mi na
section CALLS
variable {T T2 : Type} {G : GT} {l : Launch} {mi : MI} {k n : Nat} {τ : T → RS} {pc : Nat} {lv : List (Nat × Value)} {st : List Value} {P : PH} {o : Option T}
theorem MC.wd {p : Program} {R : Room} {s : State} {m : MethodId} {meth : Method} {c : Code} {H : Heap} {locs : List Loc} (h : MC G l mi p R s m meth c) (hP : va_P (gD G) vwCl (wsOf G P) H) (hS : va_S (gF G) s.heap H locs) {U : State} (hU : U.heap = H) (hW : s.WarmedH U.vm) : Wd G P U := by
  obtain ⟨w1, w2, w3⟩ := h.2.2.2.2.2.2.2.1
  refine ⟨by rw [hU]; exact hP, State.WarmedH.trans w1 hW, by rw [hU]; exact Nat.le_trans w2 hS.1, fun q hq => ?_⟩
  rw [hU, hS.2.1 q (Nat.lt_of_lt_of_le hq w2) (Nat.not_le.mpr hq)]
  exact w3 q hq
theorem GW.ws {y : MethodName} {mi2 : MI} {p : Program} {R : Room} {s : State} {m : MethodId} {meth : Method} {c : Code} (h : MC G l mi p R s m meth c) (hc : GW G (.code y mi2.1 mi2.2.1 mi2.2.2.2.1)) : ∀ w ∈ codeOf y mi2, ∀ (a' : Array Value) (U : State), s.WarmedH U.vm → w.before a' U = true := by
  intro w hw a' U hU
  rw [List.mem_singleton.mp hw]
  exact hc _ _ (State.WarmedH.trans h.2.2.2.2.2.2.2.1.1 hU)
theorem MOK.cb {y : MethodName} {mi2 : MI} {na k2 n2 index : Nat} {p : Program} {R : Room} {s : State} {m : MethodId} {meth : Method} {c : Code} (h : MC G l mi p R s m meth c) (hm : MOK G y mi2 na) (hw : GW G (.methodLink mi.2.2.1 index y)) (hh : hiOf mi2 + 1 ≤ hiOf mi) (args : Array Value) :
    CallB R s args mi.2.2.1 index y mi2.1 mi2.2.1 mi2.2.2.2.1 (codeOf y mi2) (rmOf mi2 k2 n2) k2 n2 na := by
  obtain ⟨m1, m2, m3, m4, m5⟩ := hm
  have hf : hiOf mi ≤ R.frames := h.2.2.2.2.2.2.2.2.1
  have hlo : 40 * hiOf mi ≤ R.locals := h.2.2.2.2.2.2.2.2.2.1
  refine ⟨rfl, rfl, ?_, ?_, GW.ws h m1, List.mem_singleton.mpr rfl, h.w m1 args, h.w m2 args, m3, fun sig hs => ?_, h.w hw args⟩
  · show hiOf mi2 + 1 ≤ R.frames
    omega
  · show 8 + (mi2.2.1 + 11) + 40 * hiOf mi2 ≤ R.locals
    omega
  · rw [hs] at m4
    exact (Option.some.inj m4).symm
theorem MOK.cn {y : MethodName} {mi2 : MI} {na k2 n2 index : Nat} {host : String} {p : Program} {R : Room} {s : State} {m : MethodId} {meth : Method} {c : Code} (h : MC G l mi p R s m meth c) (hm : MOK G y mi2 na) (hw : GW G (.methodLinkNest mi.2.2.1 index y host)) (hh : hiOf mi2 + 1 ≤ hiOf mi) (args : Array Value) :
    va_CN R s args mi.2.2.1 index y host mi2.1 mi2.2.1 mi2.2.2.2.1 (codeOf y mi2) (rmOf mi2 k2 n2) k2 n2 na := by
  obtain ⟨m1, m2, m3, m4, m5⟩ := hm
  have hf : hiOf mi ≤ R.frames := h.2.2.2.2.2.2.2.2.1
  have hlo : 40 * hiOf mi ≤ R.locals := h.2.2.2.2.2.2.2.2.2.1
  refine ⟨⟨rfl, rfl, ?_, ?_, GW.ws h m1, List.mem_singleton.mpr rfl⟩, h.w m1 args, h.w m2 args, m3, fun sig hs => ?_, h.w hw args⟩
  · show hiOf mi2 + 1 ≤ R.frames
    omega
  · show 8 + (mi2.2.1 + 11) + 40 * hiOf mi2 ≤ R.locals
    omega
  · rw [hs] at m4
    exact (Option.some.inj m4).symm
theorem MC.fix {p : Program} {R : Room} {s : State} {m : MethodId} {meth : Method} {c : Code} (h : MC G l mi p R s m meth c) (args : Array Value) : CallFix p m c mi.1 mi.2.1 s args [] mi.2.2.1 := ⟨h.2.1, h.2.2.1, h.2.2.2.1, h.2.2.2.2.1, fun _ hw => absurd hw List.not_mem_nil⟩
/-- behind a call that returns -/
theorem go_call {p : Program} {e : Env} {R : Room} {s : State} {m : MethodId} {args : Array Value} {below : List Frame} {meth : Method} {c : Code} {H : Heap} {locs : List Loc} {cells slots k2 n2 : Nat} {Q : State → Prop} {ls : Array Slot} {st0 : List Value} {y : Option Value × PH} {a : Array Value}
    (hr : va_Run p l e R s m args below meth c H locs cells slots k2 n2 (F0 m pc ls st0) st (qn G y a) (gF G)) (hS : va_S (gF G) s.heap H locs)
    (kk : ∀ (H1 : Heap) (locs1 : List Loc), va_P (gD G) vwCl (wsOf G y.2) H1 → va_S (gF G) s.heap H1 locs1 → W p l e R s m args below meth c H1 locs1 (cells + k2) (slots + n2) Q (F0 m (pc + 3) ls (y.1.toList ++ st))) :
    W p l e R s m args below meth c H locs cells slots Q (F0 m pc ls st0) := by
  intro U hU X
  obtain ⟨v, st₀, t, T', L, h0, X', hL, e1, e2, ⟨hv, hp, hF⟩, stp⟩ := hr U hU X
  cases hv
  obtain ⟨-, -, k3⟩ := vx_keep h0 e1 hS (fun _ _ q => q) (fun _ q => q) hL hF
  obtain ⟨t2, a1, b1⟩ := kk T'.heap (locs ++ L) (by rw [e1]; exact hp) k3 T' rfl X'
  exact ⟨t2, stp t2 a1, b1⟩
theorem recv {p : Program} {R : Room} {s : State} {m : MethodId} {meth : Method} {c : Code} {H : Heap} {b ci : Nat} {r : vw_C} (h : MC G l mi p R s m meth c) (hP : va_P (gD G) vwCl (wsOf G P) H) (hb : kd b = ci) (h12 : ci < 12) (hr : vwCl[ci]? = some r) : ∃ cell : Cell, H[gA G b]? = some cell ∧ cell.vm.isStatics = false ∧ s.vm.findClass r.1 = some cell.cls :=
  va_recv h.kk hP hr (wa_obj hb h12)
theorem blind {as : List Value} : FrameBlind (va_Pc as (Wd G P)) := fun _ _ _ _ h => h
theorem s_callV {y : MethodName} {mi2 : MI} {k2 n2 na index b ci k0 n0 : Nat} {stk : List Value} {oc : Option T2} {kf : T2 → Option T} {τ2 : T2 → Option Value × PH} (as : List Value) (st' : T2 → List Value) (P' : T2 → PH)
    (hd : decode mi.1 pc = .ok (.invokevirtual index, 3)) (hC : CVK G mi.2.2.1 index y mi2 na ci) (hh : hiOf mi2 + 1 ≤ hiOf mi) (hlen : as.length = na) (hb : kd b = ci)
    (hok : OkN G l y mi2 k2 n2 τ2 (.ref (gA G b) :: as) P oc) (hsk : as.reverse ++ .ref (gA G b) :: st = stk) (hst : ∀ x, (τ2 x).1.toList ++ st = st' x) (hP' : ∀ x, (τ2 x).2 = P' x) (hcat : (st.map fun v => v.category).sum ≤ 8) (hk : k2 + k = k0) (hn : n2 + n = n0)
    (K : ∀ x, Sem G l mi k n τ (pc + 3) lv (st' x) (P' x) (kf x)) : Sem G l mi k0 n0 τ pc lv stk P (oc.bind kf) := by
  intro p e R s m args below meth c hM H locs cells slots mc ms ls hP hS hl h1 h2 h3 h4 z hz
  obtain ⟨x, hx, hz⟩ := Option.bind_eq_some_iff.mp hz
  subst hsk
  obtain ⟨hw, hi, hsel, hm, h12, r, hr, hrc⟩ := hC
  refine go_call (va_runV (As := as) (rest := st) (hM.fix args) (hok x hx) ⟨hm.cb hM hw hh args, hM.w hi args, hM.w hsel args⟩ ⟨blind, by rw [← hrc]; exact recv hM hP hb h12 hr, fun U hU hW => ⟨rfl, hM.wd hP hS hU hW⟩⟩ rfl hlen hl.1 rfl (lv_room hcat) hd ⟨by omega, by omega⟩) hS (fun H1 locs1 hP1 hS1 => ?_)
  rw [hP' x] at hP1
  rw [hst x]
  exact K x p e R s m args below meth c hM H1 locs1 _ _ mc ms ls hP1 hS1 hl (by omega) (by omega) h3 h4 z hz
theorem s_callS {y : MethodName} {mi2 : MI} {k2 n2 na index k0 n0 : Nat} {stk : List Value} {oc : Option T2} {kf : T2 → Option T} {τ2 : T2 → Option Value × PH} (as : List Value) (st' : T2 → List Value) (P' : T2 → PH)
    (hd : decode mi.1 pc = .ok (.invokestatic index, 3)) (hC : CSK G mi.2.2.1 index y mi2 na) (hh : hiOf mi2 + 1 ≤ hiOf mi) (hlen : as.length = na)
    (hok : OkN G l y mi2 k2 n2 τ2 as P oc) (hsk : as.reverse ++ st = stk) (hst : ∀ x, (τ2 x).1.toList ++ st = st' x) (hP' : ∀ x, (τ2 x).2 = P' x) (hcat : (st.map fun v => v.category).sum ≤ 8) (hk : k2 + k = k0) (hn : n2 + n = n0)
    (K : ∀ x, Sem G l mi k n τ (pc + 3) lv (st' x) (P' x) (kf x)) : Sem G l mi k0 n0 τ pc lv stk P (oc.bind kf) := by
  intro p e R s m args below meth c hM H locs cells slots mc ms ls hP hS hl h1 h2 h3 h4 z hz
  obtain ⟨x, hx, hz⟩ := Option.bind_eq_some_iff.mp hz
  subst hsk
  obtain ⟨hw, hi, hm⟩ := hC
  refine go_call (va_runS (As := as) (rest := st) (hM.fix args) (hok x hx) ⟨hm.cb hM hw hh args, hM.w hi args⟩ ⟨blind, fun U hU hW => ⟨rfl, hM.wd hP hS hU hW⟩⟩ rfl hlen hl.1 rfl (lv_room hcat) hd ⟨by omega, by omega⟩) hS (fun H1 locs1 hP1 hS1 => ?_)
  rw [hP' x] at hP1
  rw [hst x]
  exact K x p e R s m args below meth c hM H1 locs1 _ _ mc ms ls hP1 hS1 hl (by omega) (by omega) h3 h4 z hz
theorem s_callSN {y : MethodName} {mi2 : MI} {k2 n2 na index k0 n0 : Nat} {stk : List Value} {oc : Option T2} {kf : T2 → Option T} {τ2 : T2 → Option Value × PH} (as : List Value) (st' : T2 → List Value) (P' : T2 → PH)
    (hd : decode mi.1 pc = .ok (.invokestatic index, 3)) (hC : CNK G mi.2.2.1 index y mi2 na) (hh : hiOf mi2 + 1 ≤ hiOf mi) (hlen : as.length = na)
    (hok : OkN G l y mi2 k2 n2 τ2 as P oc) (hsk : as.reverse ++ st = stk) (hst : ∀ x, (τ2 x).1.toList ++ st = st' x) (hP' : ∀ x, (τ2 x).2 = P' x) (hcat : (st.map fun v => v.category).sum ≤ 8) (hk : k2 + k = k0) (hn : n2 + n = n0)
    (K : ∀ x, Sem G l mi k n τ (pc + 3) lv (st' x) (P' x) (kf x)) : Sem G l mi k0 n0 τ pc lv stk P (oc.bind kf) := by
  intro p e R s m args below meth c hM H locs cells slots mc ms ls hP hS hl h1 h2 h3 h4 z hz
  obtain ⟨x, hx, hz⟩ := Option.bind_eq_some_iff.mp hz
  subst hsk
  obtain ⟨host, hw, hi, hm⟩ := hC
  refine go_call (va_runSN (As := as) (rest := st) (hM.fix args) (hok x hx) ⟨hm.cn hM hw hh args, hM.w hi args, trivial⟩ ⟨blind, fun U hU hW => ⟨rfl, hM.wd hP hS hU hW⟩⟩ rfl hlen hl.1 rfl (lv_room hcat) hd ⟨by omega, by omega⟩) hS (fun H1 locs1 hP1 hS1 => ?_)
  rw [hP' x] at hP1
  rw [hst x]
  exact K x p e R s m args below meth c hM H1 locs1 _ _ mc ms ls hP1 hS1 hl (by omega) (by omega) h3 h4 z hz
/-- behind a call that returns or throws; a throw leaves this method too -/
theorem go_callT {p : Program} {e : Env} {R : Room} {s : State} {m : MethodId} {args : Array Value} {below : List Frame} {meth : Method} {c : Code} {H : Heap} {locs : List Loc} {cells slots k2 n2 mc ms : Nat} {ls : Array Slot} {st0 : List Value} {y y9 : RS} {a : Array Value}
    (hr : vx_Run p l e R s m args below meth c H locs cells slots k2 n2 (F0 m pc ls st0) st (qc G y a) (xc G y) (gF G)) (hM : MC G l mi p R s m meth c) (hxt : xtOf mi = []) (hS : va_S (gF G) s.heap H locs) (hc1 : cells + k2 ≤ mc) (hc2 : slots + n2 ≤ ms)
    (hx : ∀ E, y.1 = .inr E → y9 = (.inr E, y.2))
    (kk : ∀ v, y.1 = .inl v → ∀ (H1 : Heap) (locs1 : List Loc), va_P (gD G) vwCl (wsOf G y.2) H1 → va_S (gF G) s.heap H1 locs1 → W p l e R s m args below meth c H1 locs1 (cells + k2) (slots + n2) (vx_MQ below (qc G y9) (xc G y9) args s mc ms (gF G)) (F0 m (pc + 3) ls (v.toList ++ st))) :
    W p l e R s m args below meth c H locs cells slots (vx_MQ below (qc G y9) (xc G y9) args s mc ms (gF G)) (F0 m pc ls st0) := by
  intro U hU X
  rcases hr U hU X with ⟨v, st₀, t, T', L, h0, X', hL, e1, e2, ⟨v', hy, hv, hp, hF⟩, stp⟩ | ⟨q, st₀, t, T', L, E, ce, h0, X', hL, e1, e2, ⟨hy, hp, hF⟩, hce, hcv, hcl, stp⟩
  · cases hv
    obtain ⟨-, -, k3⟩ := vx_keep h0 e1 hS (fun _ _ q => q) (fun _ q => q) hL hF
    obtain ⟨t2, a1, b1⟩ := kk _ hy T'.heap (locs ++ L) (by rw [e1]; exact hp) k3 T' rfl X'
    exact ⟨t2, stp t2 a1, b1⟩
  · obtain ⟨-, -, k3⟩ := vx_keep h0 e1 hS (fun _ _ q => q) (fun _ q => q) hL hF
    have h9 := hx E hy
    have W1 : vx_W p l e R s m args below meth c T'.heap (locs ++ L) (cells + k2) (slots + n2) (vx_MQ below (qc G y9) (xc G y9) args s mc ms (gF G)) (F0 m pc ls st) q :=
      vx_out (fun x hx => absurd (show x ∈ tableOf (xt2 (xtOf mi)) from hM.2.2.2.2.2.2.2.2.2.2.1 ▸ hx) (by rw [hxt]; exact List.not_mem_nil)) hM.2.2.2.2.2.1 (by rw [e1]; exact hce) hcv hcl (fun t9 ht9 _ => ⟨by rw [h9], by rw [h9, ht9, e1]; exact hp, k3.F ht9⟩) k3.2.2 hc1 hc2
    obtain ⟨t2, a1, b1⟩ := W1 T' rfl X'
    exact ⟨t2, stp.trans a1, b1⟩
theorem s_callVT {y : MethodName} {mi2 : MI} {k2 n2 na index b ci k0 n0 : Nat} {stk : List Value} {oc : Option T2} {kf : T2 → Option T} {τ2 : T2 → RS} (as : List Value)
    (hd : decode mi.1 pc = .ok (.invokevirtual index, 3)) (hC : CVK G mi.2.2.1 index y mi2 na ci) (hh : hiOf mi2 + 1 ≤ hiOf mi) (hlen : as.length = na) (hb : kd b = ci)
    (hok : OkT G l y mi2 k2 n2 τ2 (.ref (gA G b) :: as) P oc) (h0 : xtOf mi = []) (hsk : as.reverse ++ .ref (gA G b) :: st = stk) (hcat : (st.map fun v => v.category).sum ≤ 8) (hk : k2 + k = k0) (hn : n2 + n = n0)
    (KX : ∀ x E, (τ2 x).1 = .inr E → ∀ z, kf x = some z → τ z = (.inr E, (τ2 x).2))
    (K : ∀ x v, (τ2 x).1 = .inl v → Sem G l mi k n τ (pc + 3) lv (v.toList ++ st) (τ2 x).2 (kf x)) : Sem G l mi k0 n0 τ pc lv stk P (oc.bind kf) := by
  intro p e R s m args below meth c hM H locs cells slots mc ms ls hP hS hl h1 h2 h3 h4 z hz
  obtain ⟨x, hx, hz⟩ := Option.bind_eq_some_iff.mp hz
  subst hsk
  obtain ⟨hw, hi, hsel, hm, h12, r, hr, hrc⟩ := hC
  refine go_callT (vx_runV (As := as) (rest := st) (hM.fix args) (hok x hx) ⟨hm.cb hM hw hh args, hM.w hi args, hM.w hsel args⟩ ⟨blind, by rw [← hrc]; exact recv hM hP hb h12 hr, fun U hU hW => ⟨rfl, hM.wd hP hS hU hW⟩⟩ rfl hlen hl.1 rfl (lv_room hcat) hd ⟨by omega, by omega⟩) hM h0 hS (by omega) (by omega) (fun E hE => KX x E hE z hz) (fun v hv H1 locs1 hP1 hS1 => ?_)
  exact K x v hv p e R s m args below meth c hM H1 locs1 _ _ mc ms ls hP1 hS1 hl (by omega) (by omega) h3 h4 z hz
theorem s_callST {y : MethodName} {mi2 : MI} {k2 n2 na index k0 n0 : Nat} {stk : List Value} {oc : Option T2} {kf : T2 → Option T} {τ2 : T2 → RS} (as : List Value)
    (hd : decode mi.1 pc = .ok (.invokestatic index, 3)) (hC : CSK G mi.2.2.1 index y mi2 na) (hh : hiOf mi2 + 1 ≤ hiOf mi) (hlen : as.length = na)
    (hok : OkT G l y mi2 k2 n2 τ2 as P oc) (h0 : xtOf mi = []) (hsk : as.reverse ++ st = stk) (hcat : (st.map fun v => v.category).sum ≤ 8) (hk : k2 + k = k0) (hn : n2 + n = n0)
    (KX : ∀ x E, (τ2 x).1 = .inr E → ∀ z, kf x = some z → τ z = (.inr E, (τ2 x).2))
    (K : ∀ x v, (τ2 x).1 = .inl v → Sem G l mi k n τ (pc + 3) lv (v.toList ++ st) (τ2 x).2 (kf x)) : Sem G l mi k0 n0 τ pc lv stk P (oc.bind kf) := by
  intro p e R s m args below meth c hM H locs cells slots mc ms ls hP hS hl h1 h2 h3 h4 z hz
  obtain ⟨x, hx, hz⟩ := Option.bind_eq_some_iff.mp hz
  subst hsk
  obtain ⟨hw, hi, hm⟩ := hC
  refine go_callT (vx_runS (As := as) (rest := st) (hM.fix args) (hok x hx) ⟨hm.cb hM hw hh args, hM.w hi args⟩ ⟨blind, fun U hU hW => ⟨rfl, hM.wd hP hS hU hW⟩⟩ rfl hlen hl.1 rfl (lv_room hcat) hd ⟨by omega, by omega⟩) hM h0 hS (by omega) (by omega) (fun E hE => KX x E hE z hz) (fun v hv H1 locs1 hP1 hS1 => ?_)
  exact K x v hv p e R s m args below meth c hM H1 locs1 _ _ mc ms ls hP1 hS1 hl (by omega) (by omega) h3 h4 z hz
theorem s_callVTp {V : Type} {y : MethodName} {mi2 : MI} {k2 n2 na index b ci k0 n0 : Nat} {stk : List Value} {oc : Option (String ⊕ V)} {kf : V → Option T} {rv : V → Option Value} (as : List Value) (st' : V → List Value) (ex : String → T)
    (hd : decode mi.1 pc = .ok (.invokevirtual index, 3)) (hC : CVK G mi.2.2.1 index y mi2 na ci) (hh : hiOf mi2 + 1 ≤ hiOf mi) (hlen : as.length = na) (hb : kd b = ci)
    (hok : OkT G l y mi2 k2 n2 (fun z => (z.elim Sum.inr (fun v => Sum.inl (rv v)), P)) (.ref (gA G b) :: as) P oc) (h0 : xtOf mi = []) (hsk : as.reverse ++ .ref (gA G b) :: st = stk) (hst : ∀ w, (rv w).toList ++ st = st' w) (hcat : (st.map fun v => v.category).sum ≤ 8) (hk : k2 + k = k0) (hn : n2 + n = n0)
    (KX : ∀ E, τ (ex E) = (.inr E, P)) (K : ∀ w, Sem G l mi k n τ (pc + 3) lv (st' w) P (kf w)) : Sem G l mi k0 n0 τ pc lv stk P (oc.bind (fun x => Sum.elim (fun E => some (ex E)) kf x)) := by
  refine s_callVT as hd hC hh hlen hb hok h0 hsk hcat hk hn (fun x E h z hz => ?_) (fun x v h => ?_)
  · cases x with
    | inl e => cases h; cases hz; exact KX _
    | inr w => cases h
  · cases x with
    | inl e => cases h
    | inr w =>
      cases h
      rw [hst w]
      exact K w
theorem s_callSTp {V : Type} {y : MethodName} {mi2 : MI} {k2 n2 na index k0 n0 : Nat} {stk : List Value} {oc : Option (String ⊕ V)} {kf : V → Option T} {rv : V → Option Value} (as : List Value) (st' : V → List Value) (ex : String → T)
    (hd : decode mi.1 pc = .ok (.invokestatic index, 3)) (hC : CSK G mi.2.2.1 index y mi2 na) (hh : hiOf mi2 + 1 ≤ hiOf mi) (hlen : as.length = na)
    (hok : OkT G l y mi2 k2 n2 (fun z => (z.elim Sum.inr (fun v => Sum.inl (rv v)), P)) as P oc) (h0 : xtOf mi = []) (hsk : as.reverse ++ st = stk) (hst : ∀ w, (rv w).toList ++ st = st' w) (hcat : (st.map fun v => v.category).sum ≤ 8) (hk : k2 + k = k0) (hn : n2 + n = n0)
    (KX : ∀ E, τ (ex E) = (.inr E, P)) (K : ∀ w, Sem G l mi k n τ (pc + 3) lv (st' w) P (kf w)) : Sem G l mi k0 n0 τ pc lv stk P (oc.bind (fun x => Sum.elim (fun E => some (ex E)) kf x)) := by
  refine s_callST as hd hC hh hlen hok h0 hsk hcat hk hn (fun x E h z hz => ?_) (fun x v h => ?_)
  · cases x with
    | inl e => cases h; cases hz; exact KX _
    | inr w => cases h
  · cases x with
    | inl e => cases h
    | inr w =>
      cases h
      rw [hst w]
      exact K w
/-! names for values, heaps; locals; cells left -/
theorem s_letI {Q : T → QT} {ws : va_W} {x : Int32} {kf : Int32 → Option T} (K : ∀ v : Int32, SemW G l mi k n Q pc lv (.int v :: st) ws (kf v)) : SemW G l mi k n Q pc lv (.int x :: st) ws ((some x).bind kf) := K x
theorem s_letL {Q : T → QT} {ws : va_W} {x : Int64} {kf : Int64 → Option T} (K : ∀ v : Int64, SemW G l mi k n Q pc lv (.long v :: st) ws (kf v)) : SemW G l mi k n Q pc lv (.long x :: st) ws ((some x).bind kf) := K x
theorem s_letP {kf : PH → Option T} (K : ∀ Q : PH, Sem G l mi k n τ pc lv st Q (kf Q)) : Sem G l mi k n τ pc lv st P ((some P).bind kf) := K P
theorem s_none {Q : T → QT} {ws : va_W} (h : o = none) : SemW G l mi k n Q pc lv st ws o := by
  intro p e R s m args below meth c hM H locs cells slots mc ms ls hP hS hl h1 h2 h3 h4 z hz
  rw [h] at hz
  cases hz
theorem s_sub {Q : T → QT} {ws : va_W} {lv2 : List (Nat × Value)} (ks : List Nat) (h : lv_pick lv ks = lv2) (K : SemW G l mi k n Q pc lv2 st ws o) : SemW G l mi k n Q pc lv st ws o := by
  intro p e R s m args below meth c hM H locs cells slots mc ms ls hP hS hl h1 h2 h3 h4 z hz
  exact K p e R s m args below meth c hM H locs cells slots mc ms ls hP hS (lv_sub hl ks h) h1 h2 h3 h4 z hz
theorem s_budget {Q : T → QT} {ws : va_W} {k2 n2 : Nat} (hk : k2 ≤ k) (hn : n2 ≤ n) (K : SemW G l mi k2 n2 Q pc lv st ws o) : SemW G l mi k n Q pc lv st ws o := by
  intro p e R s m args below meth c hM H locs cells slots mc ms ls hP hS hl h1 h2 h3 h4 z hz
  exact K p e R s m args below meth c hM H locs cells slots mc ms ls hP hS hl (by omega) (by omega) h3 h4 z hz
/-! switches -/
theorem s_sw {Q : T → QT} {ws : va_W} {c9 : Prop} [Decidable c9] {o2 : Option T} (K : c9 → SemW G l mi k n Q pc lv st ws o) (K2 : ¬ c9 → SemW G l mi k n Q pc lv st ws o2) : SemW G l mi k n Q pc lv st ws (if c9 then o else o2) := by
  by_cases h : c9
  · rw [if_pos h]; exact K h
  · rw [if_neg h]; exact K2 h
theorem s_tin {Q : T → QT} {ws : va_W} {dflt lo hi : Int} {offs : Array Int} {len : Nat} {x : Int32} {off : Int} (tgt : Nat) (hd : decode mi.1 pc = .ok (.tableswitch dflt lo hi offs, len)) (ha : ¬ x.toInt < lo) (hb : ¬ hi < x.toInt) (ho : offs[(x.toInt - lo).toNat]? = some off) (ht : (pc : Int) + off = (tgt : Int)) (K : SemW G l mi k n Q tgt lv st ws o) : SemW G l mi k n Q pc lv (.int x :: st) ws o := by
  intro p e R s m args below meth c hM H locs cells slots mc ms ls hP hS hl h1 h2 h3 h4 z hz
  exact lv_tableIn hM.2.1 hM.2.2.1 hd ha hb ho ht (K p e R s m args below meth c hM H locs cells slots mc ms ls hP hS hl h1 h2 h3 h4 z hz)
theorem s_tout {Q : T → QT} {ws : va_W} {dflt lo hi : Int} {offs : Array Int} {len : Nat} {x : Int32} (tgt : Nat) (hd : decode mi.1 pc = .ok (.tableswitch dflt lo hi offs, len)) (ha : x.toInt < lo ∨ hi < x.toInt) (ht : (pc : Int) + dflt = (tgt : Int)) (K : SemW G l mi k n Q tgt lv st ws o) : SemW G l mi k n Q pc lv (.int x :: st) ws o := by
  intro p e R s m args below meth c hM H locs cells slots mc ms ls hP hS hl h1 h2 h3 h4 z hz
  exact lv_tableOut hM.2.1 hM.2.2.1 hd ha ht (K p e R s m args below meth c hM H locs cells slots mc ms ls hP hS hl h1 h2 h3 h4 z hz)
theorem s_look {Q : T → QT} {ws : va_W} {dflt : Int} {ps : Array (Int × Int)} {len : Nat} {x : Int32} {off : Int} (tgt : Nat) (hd : decode mi.1 pc = .ok (.lookupswitch dflt ps, len)) (hp : (ps.toList.zip (ps.toList.drop 1)).all (fun (a, next) => a.1 < next.1) = true) (ho : Op.lookupswitch.offset ps.toList dflt x.toInt = off) (ht : (pc : Int) + off = (tgt : Int)) (K : SemW G l mi k n Q tgt lv st ws o) : SemW G l mi k n Q pc lv (.int x :: st) ws o := by
  intro p e R s m args below meth c hM H locs cells slots mc ms ls hP hS hl h1 h2 h3 h4 z hz
  exact lv_lookup hM.2.1 hM.2.2.1 hd hp ho ht (K p e R s m args below meth c hM H locs cells slots mc ms ls hP hS hl h1 h2 h3 h4 z hz)
end CALLS
/-! how an answer is told -/
def rn {T : Type} (τ : T → Option Value × PH) : T → RS := fun x => (.inl (τ x).1, (τ x).2)
def tI (P : PH) : Int32 → Option Value × PH := fun z => (some (.int z), P)
def tL (P : PH) : Int64 → Option Value × PH := fun z => (some (.long z), P)
def tV (P : PH) : Unit → Option Value × PH := fun _ => (none, P)
def tR (G : GT) (P : PH) : Nat → Option Value × PH := fun z => (some (.ref (gA G z)), P)
def tS (G : GT) (P : PH) : Nat → Option Value × PH := fun z => (some (.ref (gK G z)), P)
def tIH : Int32 × PH → Option Value × PH := fun z => (some (.int z.1), z.2)
def tLH : Int64 × PH → Option Value × PH := fun z => (some (.long z.1), z.2)
def tVH : PH → Option Value × PH := fun z => (none, z)
def xI (P : PH) : String ⊕ Int32 → RS := fun z => (z.elim Sum.inr (fun v => Sum.inl (some (.int v))), P)
def xL (P : PH) : String ⊕ Int64 → RS := fun z => (z.elim Sum.inr (fun v => Sum.inl (some (.long v))), P)
def xV (P : PH) : String ⊕ Unit → RS := fun z => (z.elim Sum.inr (fun _ => Sum.inl none), P)
def xR (G : GT) (P : PH) : String ⊕ Nat → RS := fun z => (z.elim Sum.inr (fun v => Sum.inl (some (.ref (gA G v)))), P)
def xIH : (String ⊕ Int32) × PH → RS := fun z => (z.1.elim Sum.inr (fun v => Sum.inl (some (.int v))), z.2)
def xLH : (String ⊕ Int64) × PH → RS := fun z => (z.1.elim Sum.inr (fun v => Sum.inl (some (.long v))), z.2)
def xVH : (String ⊕ Unit) × PH → RS := fun z => (z.1.elim Sum.inr (fun _ => Sum.inl none), z.2)
def bigN : Nat := 1099511627776
