/-! STRINGS: the words' texts, String.length, String.charAt. -/
def wCh (i k : Nat) : Int32 := ((wByt.getD i []).getD k 0 &&& 255)
def slW : List Cond := [Cond.instanceMethod yJ0_length_8abf5, .selects RJ0 yJ0_length_8abf5 yJ0_length_8abf5, .code yJ0_length_8abf5 cJ0_length_8abf5 1 (some .int), .initialized RJ0, .instanceMethod yJ0_coder_7d493, .selects RJ0 yJ0_coder_7d493 yJ0_coder_7d493, .code yJ0_coder_7d493 cJ0_coder_7d493 1 (some .byte), .fieldLink RJ0 9 "java/lang/String" "value" "[B", .fieldLink RJ0 38 "java/lang/String" "COMPACT_STRINGS" "Z", .fieldLink RJ0 15 "java/lang/String" "coder" "B"]
def saW : List Cond := [Cond.instanceMethod yJ0_charAt_5068e, .selects RJ0 yJ0_charAt_5068e yJ0_charAt_5068e, .code yJ0_charAt_5068e cJ0_charAt_5068e 2 (some .char), .initialized RJ0, .methodLink RJ0 492 yJ0_isLatin1_aae02, .instanceMethod yJ0_isLatin1_aae02, .selects RJ0 yJ0_isLatin1_aae02 yJ0_isLatin1_aae02, .code yJ0_isLatin1_aae02 cJ0_isLatin1_aae02 1 (some .boolean), .fieldLink RJ0 9 "java/lang/String" "value" "[B", .fieldLink RJ0 38 "java/lang/String" "COMPACT_STRINGS" "Z", .fieldLink RJ0 15 "java/lang/String" "coder" "B", .methodLink RJ0 495 yJ1_charAt_3b067, .static yJ1_charAt_3b067, .code yJ1_charAt_3b067 cJ1_charAt_3b067 2 (some .char), .initialized RJ1, .methodLink RJ1 9 yJ0_checkIndex_df160, .static yJ0_checkIndex_df160, .code yJ0_checkIndex_df160 cJ0_checkIndex_df160 2 none, .fieldLink RJ0 1053 "jdk/internal/util/Preconditions" "SIOOBE_FORMATTER" "Ljava/util/function/BiFunction;", .methodLink RJ0 1059 yJ3_checkIndex_8e157, .static yJ3_checkIndex_8e157, .code yJ3_checkIndex_8e157 cJ3_checkIndex_8e157 3 (some .int), .initialized RJ3]
def SLK (G : GT) (own : String) (index : Nat) : Prop := GW G (.methodLink own index yJ0_length_8abf5) ∧ GW G (.methodLink RJ0 335 yJ0_coder_7d493) ∧ (∀ w ∈ slW, GW G w)
def SAK (G : GT) (own : String) (index : Nat) : Prop := GW G (.methodLink own index yJ0_charAt_5068e) ∧ ∀ w ∈ saW, GW G w
section STR
variable {T : Type} {G : GT} {l : Launch} {mi : MI} {k n : Nat} {τ : T → RS} {pc : Nat} {lv : List (Nat × Value)} {st : List Value} {P : PH} {o : Option T}
theorem MC.str {p : Program} {R : Room} {s : State} {m : MethodId} {meth : Method} {c : Code} (h : MC G l mi p R s m meth c) : vk_S 14 wLen wByt (gK G) (gV G) (gF G) s s.heap := vk_S.kept (vk_S.moved h.2.2.2.2.2.2.2.1.1.alike h.1.2.2.2.2.1.2.2.1) h.keep
theorem s_ldcS {index : Nat} (i : Nat) (hd : decode mi.1 pc = .ok (.ldc index, 2)) (h : (mi.2.2.1, index, i) ∈ strRefs) (K : Sem G l mi k n τ (pc + 2) lv (.ref (gK G i) :: st) P o) : Sem G l mi k n τ pc lv st P o := by
  intro p e R s m args below meth c hM H locs cells slots mc ms ls hP hS hl h1 h2 h3 h4 z hz
  exact va_ldcS hM.2.1 hM.2.2.1 hM.2.2.2.2.1 (vk_R.warm hM.2.2.2.2.2.2.2.1.1 (hM.1.2.2.2.2.1.2.2.2.2.2.1 _ h)) hd (K p e R s m args below meth c hM H locs cells slots mc ms ls hP hS hl h1 h2 h3 h4 z hz)
theorem s_strV {index i : Nat} (hi : i < 14) (hd : decode mi.1 pc = .ok (.getfield index, 3)) (hw : GW G (.fieldLink mi.2.2.1 index "java/lang/String" "value" "[B")) (K : Sem G l mi k n τ (pc + 3) lv (.ref (gV G i) :: st) P o) : Sem G l mi k n τ pc lv (.ref (gK G i) :: st) P o := by
  intro p e R s m args below meth c hM H locs cells slots mc ms ls hP hS hl h1 h2 h3 h4 z hz
  exact vk_getf hM.2.1 hM.2.2.1 (hM.str.1 i hi).2.2.1 hS hM.2.2.2.2.1 (hM.w hw args) (fun _ h => h) hd (K p e R s m args below meth c hM H locs cells slots mc ms ls hP hS hl h1 h2 h3 h4 z hz)
theorem s_strC {index i : Nat} (hi : i < 14) (hd : decode mi.1 pc = .ok (.getfield index, 3)) (hw : GW G (.fieldLink mi.2.2.1 index "java/lang/String" "coder" "B")) (K : Sem G l mi k n τ (pc + 3) lv (.int 0 :: st) P o) : Sem G l mi k n τ pc lv (.ref (gK G i) :: st) P o := by
  intro p e R s m args below meth c hM H locs cells slots mc ms ls hP hS hl h1 h2 h3 h4 z hz
  exact vk_getf hM.2.1 hM.2.2.1 (hM.str.1 i hi).2.1 hS hM.2.2.2.2.1 (hM.w hw args) (fun _ h => h) hd (K p e R s m args below meth c hM H locs cells slots mc ms ls hP hS hl h1 h2 h3 h4 z hz)
theorem s_compact {index : Nat} (hd : decode mi.1 pc = .ok (.getstatic index, 3)) (hw : GW G (.fieldLink mi.2.2.1 index "java/lang/String" "COMPACT_STRINGS" "Z")) (K : Sem G l mi k n τ (pc + 3) lv (.int 1 :: st) P o) : Sem G l mi k n τ pc lv st P o := by
  intro p e R s m args below meth c hM H locs cells slots mc ms ls hP hS hl h1 h2 h3 h4 z hz
  exact va_gets hM.2.1 hM.2.2.1 (va_Z.kept (va_Z.moved hM.2.2.2.2.2.2.2.1.1.alike hM.1.2.2.2.2.1.2.2.2.2.2.2.2.1) hM.keep) hS hM.2.2.2.2.1 (hM.w hw args) (fun _ h => h) hd (K p e R s m args below meth c hM H locs cells slots mc ms ls hP hS hl h1 h2 h3 h4 z hz)
theorem s_fmt {index : Nat} (hd : decode mi.1 pc = .ok (.getstatic index, 3)) (hw : GW G (.fieldLink mi.2.2.1 index "jdk/internal/util/Preconditions" "SIOOBE_FORMATTER" "Ljava/util/function/BiFunction;")) (K : ∀ v : Value, v.category = 1 → (∃ r, v = va_rf r) → Sem G l mi k n τ (pc + 3) lv (v :: st) P o) : Sem G l mi k n τ pc lv st P o := by
  intro p e R s m args below meth c hM H locs cells slots mc ms ls hP hS hl h1 h2 h3 h4 z hz
  rcases hM.1.2.2.2.2.1.2.2.2.2.2.2.2.2.1 with hZ | ⟨t, hZ⟩
  · exact va_gets hM.2.1 hM.2.2.1 (va_Z.kept (va_Z.moved hM.2.2.2.2.2.2.2.1.1.alike hZ) hM.keep) hS hM.2.2.2.2.1 (hM.w hw args) (fun _ h => h) hd (K .null rfl ⟨none, rfl⟩ p e R s m args below meth c hM H locs cells slots mc ms ls hP hS hl h1 h2 h3 h4 z hz)
  · exact va_gets hM.2.1 hM.2.2.1 (va_Z.kept (va_Z.moved hM.2.2.2.2.2.2.2.1.1.alike hZ) hM.keep) hS hM.2.2.2.2.1 (hM.w hw args) (fun _ h => h) hd (K (.ref t) rfl ⟨some t, rfl⟩ p e R s m args below meth c hM H locs cells slots mc ms ls hP hS hl h1 h2 h3 h4 z hz)
theorem s_strN {i : Nat} (hi : i < 14) (hd : decode mi.1 pc = .ok (.arraylength, 1)) (K : Sem G l mi k n τ (pc + 1) lv (.int (nI (wLen.getD i 0)) :: st) P o) : Sem G l mi k n τ pc lv (.ref (gV G i) :: st) P o := by
  intro p e R s m args below meth c hM H locs cells slots mc ms ls hP hS hl h1 h2 h3 h4 z hz
  exact va_tlen hM.2.1 hM.2.2.1 (hM.str.1 i hi).2.2.2 hS rfl hd (K p e R s m args below meth c hM H locs cells slots mc ms ls hP hS hl h1 h2 h3 h4 z hz)
theorem s_strB {i : Nat} {j : Int32} (hi : i < 14) (hj : vp_in j (wLen.getD i 0)) (hd : decode mi.1 pc = .ok (.baload, 1)) (K : Sem G l mi k n τ (pc + 1) lv (.int ((wByt.getD i []).getD j.toNatClampNeg 0) :: st) P o) : Sem G l mi k n τ pc lv (.int j :: .ref (gV G i) :: st) P o := by
  intro p e R s m args below meth c hM H locs cells slots mc ms ls hP hS hl h1 h2 h3 h4 z hz
  exact va_tb hM.2.1 hM.2.2.1 (hM.str.1 i hi).2.2.2 hS hj rfl hd (K p e R s m args below meth c hM H locs cells slots mc ms ls hP hS hl h1 h2 h3 h4 z hz)
theorem s_tret {v : Int32} {x : T} {ty : FieldType} (hd : decode mi.1 pc = .ok (.ireturn, 1)) (hr : mi.2.2.2.1 = some ty) (hn : narrow ty (.int v) = .int v) (ht : τ x = (.inl (some (.int v)), P)) : Sem G l mi k n τ pc lv [.int v] P (some x) := by
  intro p e R s m args below meth c hM H locs cells slots mc ms ls hP hS hl h1 h2 h3 h4 z hz
  cases hz
  refine vx_ret (W.widen (k := mc) (n := ms) (by omega) (by omega) ?_)
  exact W.zret hM.2.1 hM.2.2.1 (hM.2.2.2.2.2.2.1.trans hr) hn (fun t hH _ => ⟨_, by rw [ht], rfl, by rw [ht, hH]; exact hP, hS.F hH⟩) hS.2.2 hd hM.2.2.2.2.2.1
/-- a call of a String's own method -/
theorem s_callVS {T2 : Type} {y : MethodName} {mi2 : MI} {na index i : Nat} {stk : List Value} {oc : Option T2} {kf : T2 → Option T} {τ2 : T2 → Option Value × PH} (as : List Value) (st' : T2 → List Value) (P' : T2 → PH)
    (hd : decode mi.1 pc = .ok (.invokevirtual index, 3)) (hw : GW G (.methodLink mi.2.2.1 index y)) (hin : GW G (.instanceMethod y)) (hsel : GW G (.selects RJ0 y y)) (hm : MOK G y mi2 na) (hcl : y.cls = RJ0) (hh : hiOf mi2 + 1 ≤ hiOf mi) (hlen : as.length = na) (hi : i < 14)
    (hok : OkN G l y mi2 0 0 τ2 (.ref (gK G i) :: as) P oc) (hsk : as.reverse ++ .ref (gK G i) :: st = stk) (hst : ∀ x, (τ2 x).1.toList ++ st = st' x) (hP' : ∀ x, (τ2 x).2 = P' x) (hcat : (st.map fun v => v.category).sum ≤ 8)
    (K : ∀ x, Sem G l mi k n τ (pc + 3) lv (st' x) (P' x) (kf x)) : Sem G l mi k n τ pc lv stk P (oc.bind kf) := by
  intro p e R s m args below meth c hM H locs cells slots mc ms ls hP hS hl h1 h2 h3 h4 z hz
  obtain ⟨x, hx, hz⟩ := Option.bind_eq_some_iff.mp hz
  subst hsk
  refine go_call (va_runV (As := as) (rest := st) (C := y.cls) (hM.fix args) (hok x hx) ⟨hm.cb hM hw hh args, hM.w hin args, by rw [hcl]; exact hM.w hsel args⟩ ⟨blind, by rw [hcl]; exact vk_recv hM.str hi hS, fun U hU hW => ⟨rfl, hM.wd hP hS hU hW⟩⟩ rfl hlen hl.1 rfl (lv_room hcat) hd ⟨by omega, by omega⟩) hS (fun H1 locs1 hP1 hS1 => ?_)
  rw [hP' x] at hP1
  rw [hst x]
  exact K x p e R s m args below meth c hM H1 locs1 _ _ mc ms ls hP1 hS1 hl (by omega) (by omega) h3 h4 z hz
end STR
def miJ0_coder : MI := (cJ0_coder_7d493, 1, RJ0, some .byte, 1, [])
def miJ0_length : MI := (cJ0_length_8abf5, 1, RJ0, some .int, 2, [])
def miJ0_isLatin1 : MI := (cJ0_isLatin1_aae02, 1, RJ0, some .boolean, 1, [])
def miJ3_checkIndex : MI := (cJ3_checkIndex_8e157, 3, RJ3, some .int, 1, [])
def miJ0_checkIndex : MI := (cJ0_checkIndex_df160, 2, RJ0, none, 2, [])
def miJ1_charAt : MI := (cJ1_charAt_3b067, 2, RJ1, some .char, 3, [])
def miJ0_charAt : MI := (cJ0_charAt_5068e, 2, RJ0, some .char, 4, [])
theorem wLen_lt : ∀ i, i < 14 → wLen.getD i 0 < 2 ^ 31 := by decide +kernel
def tU (v : Value) (P : PH) : Unit → Option Value × PH := fun _ => (some v, P)
theorem if_1_0 {T : Type} (o : Option T) : o = if (1 : Int32) = 0 then none else o := (if_neg (by decide)).symm
theorem if_0_0 {T : Type} (o : Option T) : o = if (0 : Int32) = 0 then o else none := (if_pos rfl).symm
theorem u_bind {T : Type} (o : Option T) : o = (some ()).bind (fun _ => o) := rfl
set_option maxRecDepth 100000 in
theorem coder_ok {G : GT} {l : Launch} (hG : GOK G l) (h1 : GW G (.fieldLink RJ0 38 "java/lang/String" "COMPACT_STRINGS" "Z")) (h2 : GW G (.fieldLink RJ0 15 "java/lang/String" "coder" "B")) (i : Nat) (hi : i < 14) (P : PH) : OkN G l yJ0_coder_7d493 miJ0_coder 0 0 (tU (.int 0) P) [.ref (gK G i)] P (some ()) := by
  refine okN_of hG _ [(0, .ref (gK G i))] rfl rfl rfl (Nat.le_of_ble_eq_true rfl) rfl ?_
  refine s_compact (pc := 0) dJ0_coder_7d493_0 h1 ?_
  rw [if_1_0 (some ())]
  refine s_if_eq (pc := 3) 13 dJ0_coder_7d493_3 rfl (s_none rfl) ?_
  refine s_aload_n (pc := 6) 0 dJ0_coder_7d493_6 rfl rfl ?_
  refine s_strC (pc := 7) hi dJ0_coder_7d493_7 h2 ?_
  refine s_goto (pc := 10) 14 dJ0_coder_7d493_10 rfl ?_
  exact s_tret (pc := 14) dJ0_coder_7d493_14 rfl rfl rfl
set_option maxRecDepth 100000 in
theorem length_ok {G : GT} {l : Launch} (hG : GOK G l) {own : String} {index : Nat} (hC : SLK G own index) (i : Nat) (hi : i < 14) (P : PH) : OkN G l yJ0_length_8abf5 miJ0_length 0 0 (tU (.int (nI (wLen.getD i 0))) P) [.ref (gK G i)] P (some ()) := by
  obtain ⟨-, c1, c2⟩ := hC
  refine okN_of hG _ [(0, .ref (gK G i))] rfl rfl rfl (Nat.le_of_ble_eq_true rfl) rfl ?_
  refine s_aload_n (pc := 0) 0 dJ0_length_8abf5_0 rfl rfl ?_
  refine s_strV (pc := 1) hi dJ0_length_8abf5_1 (c2 _ (by simp [slW, saW, miJ0_length])) ?_
  refine s_strN (pc := 4) hi dJ0_length_8abf5_4 ?_
  refine s_aload_n (pc := 5) 0 dJ0_length_8abf5_5 rfl rfl ?_
  have hm : MOK G yJ0_coder_7d493 miJ0_coder 0 := ⟨c2 _ (by simp [slW, saW, miJ0_coder]), c2 _ (by simp [slW, saW, yJ0_coder_7d493]), ⟨by decide +kernel, by decide +kernel⟩, by decide +kernel, Nat.le_of_ble_eq_true rfl⟩
  rw [u_bind (some ())]
  refine s_callVS (pc := 6) [] (fun _ => [.int 0, .int (nI (wLen.getD i 0))]) (fun _ => P) dJ0_length_8abf5_6 c1 (c2 _ (by simp [slW, saW])) (c2 _ (by simp [slW, saW])) hm rfl (Nat.le_of_ble_eq_true rfl) rfl hi (coder_ok hG (c2 _ (by simp [slW, saW])) (c2 _ (by simp [slW, saW])) i hi P) rfl (fun _ => rfl) (fun _ => rfl) (Nat.le_of_ble_eq_true rfl) (fun _ => ?_)
  refine s_ishr (pc := 9) dJ0_length_8abf5_9 ?_
  rw [sb_shr0]
  exact s_iret (pc := 10) dJ0_length_8abf5_10 rfl rfl
set_option maxRecDepth 100000 in
theorem isLatin1_ok {G : GT} {l : Launch} (hG : GOK G l) (h1 : GW G (.fieldLink RJ0 38 "java/lang/String" "COMPACT_STRINGS" "Z")) (h2 : GW G (.fieldLink RJ0 15 "java/lang/String" "coder" "B")) (i : Nat) (hi : i < 14) (P : PH) : OkN G l yJ0_isLatin1_aae02 miJ0_isLatin1 0 0 (tU (.int 1) P) [.ref (gK G i)] P (some ()) := by
  refine okN_of hG _ [(0, .ref (gK G i))] rfl rfl rfl (Nat.le_of_ble_eq_true rfl) rfl ?_
  refine s_compact (pc := 0) dJ0_isLatin1_aae02_0 h1 ?_
  rw [if_1_0 (some ())]
  refine s_if_eq (pc := 3) 17 dJ0_isLatin1_aae02_3 rfl (s_none rfl) ?_
  refine s_aload_n (pc := 6) 0 dJ0_isLatin1_aae02_6 rfl rfl ?_
  refine s_strC (pc := 7) hi dJ0_isLatin1_aae02_7 h2 ?_
  rw [if_0_0 (some ())]
  refine s_if_ne (pc := 10) 17 dJ0_isLatin1_aae02_10 rfl ?_ (s_none rfl)
  refine s_iconst (pc := 13) (v := 1) dJ0_isLatin1_aae02_13 rfl ?_
  refine s_goto (pc := 14) 18 dJ0_isLatin1_aae02_14 rfl ?_
  exact s_tret (pc := 18) dJ0_isLatin1_aae02_18 rfl rfl rfl
set_option maxRecDepth 100000 in
theorem checkIx_ok {G : GT} {l : Launch} (hG : GOK G l) (x n : Int32) (hx : ¬ x < 0) (hn : x < n) (v : Value) (hv : ∃ r, v = va_rf r) (P : PH) : OkN G l yJ3_checkIndex_8e157 miJ3_checkIndex 0 0 (tU (.int x) P) [.int x, .int n, v] P (some ()) := by
  have hc : v.category = 1 := by
    obtain ⟨r, rfl⟩ := hv
    cases r <;> rfl
  refine okN_of hG _ [(0, .int x), (1, .int n), (2, v)] rfl rfl ?_ ?_ rfl ?_
  · obtain ⟨r, rfl⟩ := hv
    cases r <;> rfl
  · obtain ⟨r, rfl⟩ := hv
    cases r <;> exact Nat.le_of_ble_eq_true rfl
  refine s_iload_n (pc := 0) 0 dJ3_checkIndex_8e157_0 rfl rfl ?_
  rw [show (some () : Option Unit) = if x < 0 then none else some () from (if_neg hx).symm]
  refine s_if_lt (pc := 1) 9 dJ3_checkIndex_8e157_1 rfl (s_none rfl) ?_
  refine s_iload_n (pc := 4) 0 dJ3_checkIndex_8e157_4 rfl rfl ?_
  refine s_iload_n (pc := 5) 1 dJ3_checkIndex_8e157_5 rfl rfl ?_
  rw [show (some () : Option Unit) = if x < n then some () else none from (if_pos hn).symm]
  refine s_icmp_lt (pc := 6) 16 dJ3_checkIndex_8e157_6 rfl ?_ (s_none rfl)
  refine s_iload_n (pc := 16) 0 dJ3_checkIndex_8e157_16 rfl rfl ?_
  exact s_iret (pc := 17) dJ3_checkIndex_8e157_17 rfl rfl
theorem va_rf_cat (r : Option Nat) : (va_rf r).category = 1 := by cases r <;> rfl
set_option maxRecDepth 100000 in
theorem checkI0_ok {G : GT} {l : Launch} (hG : GOK G l) {own : String} {index : Nat} (hC : SAK G own index) (x n : Int32) (hx : ¬ x < 0) (hn : x < n) (P : PH) : OkN G l yJ0_checkIndex_df160 miJ0_checkIndex 0 0 (fun _ : Unit => (none, P)) [.int x, .int n] P (some ()) := by
  obtain ⟨-, c2⟩ := hC
  refine okN_of hG _ [(0, .int x), (1, .int n)] rfl rfl rfl (Nat.le_of_ble_eq_true rfl) rfl ?_
  refine s_iload_n (pc := 0) 0 dJ0_checkIndex_df160_0 rfl rfl ?_
  refine s_iload_n (pc := 1) 1 dJ0_checkIndex_df160_1 rfl rfl ?_
  refine s_fmt (pc := 2) dJ0_checkIndex_df160_2 (c2 _ (by simp [slW, saW, miJ0_checkIndex])) (fun v hc hv => ?_)
  have hm : MOK G yJ3_checkIndex_8e157 miJ3_checkIndex 3 := ⟨c2 _ (by simp [slW, saW, miJ3_checkIndex]), c2 _ (by simp [slW, saW, yJ3_checkIndex_8e157]), ⟨by decide +kernel, by decide +kernel⟩, by decide +kernel, Nat.le_of_ble_eq_true rfl⟩
  rw [u_bind (some ())]
  refine s_callS (pc := 5) (k := 0) (n := 0) [.int x, .int n, v] (fun _ => [.int x]) (fun _ => P) dJ0_checkIndex_df160_5 ⟨c2 _ (by simp [slW, saW, miJ0_checkIndex]), c2 _ (by simp [slW, saW]), hm⟩ (Nat.le_of_ble_eq_true rfl) rfl (checkIx_ok hG x n hx hn v hv P) rfl (fun _ => rfl) (fun _ => rfl) (Nat.le_of_ble_eq_true rfl) rfl rfl (fun _ => ?_)
  refine s_pop (pc := 8) dJ0_checkIndex_df160_8 rfl ?_
  exact s_vret (pc := 9) dJ0_checkIndex_df160_9 rfl rfl
set_option maxRecDepth 100000 in
theorem charAt1_ok {G : GT} {l : Launch} (hG : GOK G l) {own : String} {index : Nat} (hC : SAK G own index) (i : Nat) (hi : i < 14) (j : Int32) (hj : vp_in j (wLen.getD i 0)) (P : PH) : OkN G l yJ1_charAt_3b067 miJ1_charAt 0 0 (tU (.int (wCh i j.toNatClampNeg)) P) [.ref (gV G i), .int j] P (some ()) := by
  have hL := wLen_lt i hi
  obtain ⟨q, hq, rfl⟩ := vp_in_of hj hL
  have c2 := hC.2
  refine okN_of hG _ [(0, .ref (gV G i)), (1, .int (nI q))] rfl rfl rfl (Nat.le_of_ble_eq_true rfl) rfl ?_
  refine s_iload_n (pc := 0) 1 dJ1_charAt_3b067_0 rfl rfl ?_
  refine s_aload_n (pc := 1) 0 dJ1_charAt_3b067_1 rfl rfl ?_
  refine s_strN (pc := 2) hi dJ1_charAt_3b067_2 ?_
  have hm : MOK G yJ0_checkIndex_df160 miJ0_checkIndex 2 := ⟨c2 _ (by simp [slW, saW, miJ0_checkIndex]), c2 _ (by simp [slW, saW, yJ0_checkIndex_df160]), ⟨by decide +kernel, by decide +kernel⟩, by decide +kernel, Nat.le_of_ble_eq_true rfl⟩
  rw [u_bind (some ())]
  refine s_callS (pc := 3) (k := 0) (n := 0) [.int (nI q), .int (nI (wLen.getD i 0))] (fun _ => []) (fun _ => P) dJ1_charAt_3b067_3 ⟨c2 _ (by simp [slW, saW, miJ1_charAt]), c2 _ (by simp [slW, saW]), hm⟩ (Nat.le_of_ble_eq_true rfl) rfl (checkI0_ok hG hC _ _ (nI_pos (by omega)) (nI_lt hq hL) P) rfl (fun _ => rfl) (fun _ => rfl) (Nat.le_of_ble_eq_true rfl) rfl rfl (fun _ => ?_)
  refine s_aload_n (pc := 6) 0 dJ1_charAt_3b067_6 rfl rfl ?_
  refine s_iload_n (pc := 7) 1 dJ1_charAt_3b067_7 rfl rfl ?_
  refine s_strB (pc := 8) hi hj dJ1_charAt_3b067_8 ?_
  refine s_sipush (pc := 9) (v := 255) dJ1_charAt_3b067_9 rfl ?_
  refine s_iand (pc := 12) dJ1_charAt_3b067_12 ?_
  refine s_i2c (pc := 13) dJ1_charAt_3b067_13 ?_
  rw [sc_c2]
  exact s_tret (pc := 14) dJ1_charAt_3b067_14 rfl (sc_nar _) rfl
set_option maxRecDepth 100000 in
theorem charAt0_ok {G : GT} {l : Launch} (hG : GOK G l) {own : String} {index : Nat} (hC : SAK G own index) (i : Nat) (hi : i < 14) (j : Int32) (hj : vp_in j (wLen.getD i 0)) (P : PH) : OkN G l yJ0_charAt_5068e miJ0_charAt 0 0 (tU (.int (wCh i j.toNatClampNeg)) P) [.ref (gK G i), .int j] P (some ()) := by
  have c2 := hC.2
  refine okN_of hG _ [(0, .ref (gK G i)), (1, .int j)] rfl rfl rfl (Nat.le_of_ble_eq_true rfl) rfl ?_
  refine s_aload_n (pc := 0) 0 dJ0_charAt_5068e_0 rfl rfl ?_
  have hm : MOK G yJ0_isLatin1_aae02 miJ0_isLatin1 0 := ⟨c2 _ (by simp [slW, saW, miJ0_isLatin1]), c2 _ (by simp [slW, saW, yJ0_isLatin1_aae02]), ⟨by decide +kernel, by decide +kernel⟩, by decide +kernel, Nat.le_of_ble_eq_true rfl⟩
  rw [u_bind (some ())]
  refine s_callVS (pc := 1) [] (fun _ => [.int 1]) (fun _ => P) dJ0_charAt_5068e_1 (c2 _ (by simp [slW, saW, miJ0_charAt])) (c2 _ (by simp [slW, saW])) (c2 _ (by simp [slW, saW])) hm rfl (Nat.le_of_ble_eq_true rfl) rfl hi (isLatin1_ok hG (c2 _ (by simp [slW, saW])) (c2 _ (by simp [slW, saW])) i hi P) rfl (fun _ => rfl) (fun _ => rfl) (Nat.le_of_ble_eq_true rfl) (fun _ => ?_)
  rw [if_1_0 (some ())]
  refine s_if_eq (pc := 4) 16 dJ0_charAt_5068e_4 rfl (s_none rfl) ?_
  refine s_aload_n (pc := 7) 0 dJ0_charAt_5068e_7 rfl rfl ?_
  refine s_strV (pc := 8) hi dJ0_charAt_5068e_8 (c2 _ (by simp [slW, saW, miJ0_charAt])) ?_
  refine s_iload_n (pc := 11) 1 dJ0_charAt_5068e_11 rfl rfl ?_
  have hm2 : MOK G yJ1_charAt_3b067 miJ1_charAt 2 := ⟨c2 _ (by simp [slW, saW, miJ1_charAt]), c2 _ (by simp [slW, saW, yJ1_charAt_3b067]), ⟨by decide +kernel, by decide +kernel⟩, by decide +kernel, Nat.le_of_ble_eq_true rfl⟩
  rw [u_bind (some ())]
  refine s_callS (pc := 12) (k := 0) (n := 0) [.ref (gV G i), .int j] (fun _ => [.int (wCh i j.toNatClampNeg)]) (fun _ => P) dJ0_charAt_5068e_12 ⟨c2 _ (by simp [slW, saW, miJ0_charAt]), c2 _ (by simp [slW, saW]), hm2⟩ (Nat.le_of_ble_eq_true rfl) rfl (charAt1_ok hG hC i hi j hj P) rfl (fun _ => rfl) (fun _ => rfl) (Nat.le_of_ble_eq_true rfl) rfl rfl (fun _ => ?_)
  exact s_tret (pc := 15) dJ0_charAt_5068e_15 rfl (sc_nar _) rfl
section STR2
variable {T : Type} {G : GT} {l : Launch} {mi : MI} {k n : Nat} {τ : T → RS} {pc : Nat} {lv : List (Nat × Value)} {st : List Value} {P : PH} {o : Option T}
theorem s_strLen {index i : Nat} (hd : decode mi.1 pc = .ok (.invokevirtual index, 3)) (hC : SLK G mi.2.2.1 index) (hG : GOK G l) (hi : i < 14) (h9 : 9 ≤ hiOf mi) (hcat : (st.map fun v => v.category).sum ≤ 8) (K : Sem G l mi k n τ (pc + 3) lv (.int (nI (wLen.getD i 0)) :: st) P o) : Sem G l mi k n τ pc lv (.ref (gK G i) :: st) P o := by
  have c2 := hC.2.2
  have hm : MOK G yJ0_length_8abf5 miJ0_length 0 := ⟨c2 _ (by simp [slW, saW, miJ0_length]), c2 _ (by simp [slW, saW, yJ0_length_8abf5]), ⟨by decide +kernel, by decide +kernel⟩, by decide +kernel, Nat.le_of_ble_eq_true rfl⟩
  rw [u_bind o]
  exact s_callVS [] (fun _ => .int (nI (wLen.getD i 0)) :: st) (fun _ => P) hd hC.1 (c2 _ (by simp [slW, saW])) (c2 _ (by simp [slW, saW])) hm rfl (Nat.le_trans (show 2 + 1 ≤ 9 by decide) h9) rfl hi (length_ok hG hC i hi P) rfl (fun _ => rfl) (fun _ => rfl) hcat (fun _ => K)
theorem s_strAt {index i : Nat} {j : Int32} (hd : decode mi.1 pc = .ok (.invokevirtual index, 3)) (hC : SAK G mi.2.2.1 index) (hG : GOK G l) (hi : i < 14) (h9 : 9 ≤ hiOf mi) (hcat : (st.map fun v => v.category).sum ≤ 8) (K : Sem G l mi k n τ (pc + 3) lv (.int (wCh i j.toNatClampNeg) :: st) P o) : Sem G l mi k n τ pc lv (.int j :: .ref (gK G i) :: st) P (gdI j (wLen.getD i 0) o) := by
  intro p e R s m args below meth c hM H locs cells slots mc ms ls hP hS hl h1 h2 h3 h4 z hz
  obtain ⟨hj, hy⟩ := gdI_some hz
  have c2 := hC.2
  have hm : MOK G yJ0_charAt_5068e miJ0_charAt 1 := ⟨c2 _ (by simp [slW, saW, miJ0_charAt]), c2 _ (by simp [slW, saW, yJ0_charAt_5068e]), ⟨by decide +kernel, by decide +kernel⟩, by decide +kernel, Nat.le_of_ble_eq_true rfl⟩
  have r : Sem G l mi k n τ pc lv (.int j :: .ref (gK G i) :: st) P ((some ()).bind (fun _ => o)) :=
    s_callVS [.int j] (fun _ => .int (wCh i j.toNatClampNeg) :: st) (fun _ => P) hd hC.1 (c2 _ (by simp [slW, saW])) (c2 _ (by simp [slW, saW])) hm rfl (Nat.le_trans (show 4 + 1 ≤ 9 by decide) h9) rfl hi (charAt0_ok hG hC i hi j hj P) rfl (fun _ => rfl) (fun _ => rfl) hcat (fun _ => K)
  exact r p e R s m args below meth c hM H locs cells slots mc ms ls hP hS hl h1 h2 h3 h4 z hy
end STR2
