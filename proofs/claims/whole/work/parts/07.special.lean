/-! SPECIAL CALLS: System.arraycopy, Arrays.fill; throw new E("text"). -/
def CPK (G : GT) (own : String) (index : Nat) : Prop := GW G (.methodLink own index arraycopyName) ∧ GW G (.native arraycopyName) ∧ GW G (.static arraycopyName) ∧ GW G (.initialized "java/lang/System")
def tNm : List String := ["java/lang/RuntimeException", "java/lang/Exception"]
def TK (G : GT) (own : String) (ik is ic : Nat) (cls : String) : Prop := Bundle.fit cls = true ∧ GW G (.classLink own ik cls) ∧ GW G (.initialized cls) ∧ (∃ text sa, vk_R own is text sa (gS G)) ∧ (∀ w ∈ vx_atS own ic cls tNm, GW G w) ∧ ∀ w ∈ Cond.classLink own ik cls :: Cond.initialized cls :: vx_atS own ic cls tNm, vx_ot w = true
theorem cpy0 {α : Type} (f g : Nat → α) (n : Nat) : va_cpy f g 0 0 n = fun j => if j < n then f j else g j := by
  funext j
  unfold va_cpy
  by_cases h : j < n
  · rw [if_pos ⟨Nat.zero_le _, by omega⟩, if_pos h]
    simp
  · rw [if_neg (by omega), if_neg h]
/-- the same cells, told otherwise beyond a row's end -/
def PEq (P Q : PH) : Prop := (∀ n, kd n < 12 → Q.1 n = P.1 n ∧ Q.2 n = P.2 n) ∧ ∀ n j, j < ln n → Q.1 n j = P.1 n j ∧ Q.2 n j = P.2 n j
theorem arrV_congr {cI : ClassId} {n : Nat} {f g : Nat → Value} (h : ∀ j, j < n → f j = g j) : arrV cI n f = arrV cI n g := by
  unfold arrV
  have : (fun j : Fin n => f j.val) = fun j => g j.val := funext fun j => h j.val j.isLt
  rw [this]
theorem PEq.va {G : GT} {P Q : PH} (h : PEq P Q) {H : Heap} (hP : va_P (gD G) vwCl (wsOf G P) H) : va_P (gD G) vwCl (wsOf G Q) H := by
  intro k q hk
  rcases Nat.lt_or_ge k 111 with c | c
  · rw [ws_at c] at hk
    cases hk
    have h0 := hP k _ (ws_at c)
    by_cases h12 : kd k < 12
    · rw [cel_congr (h.1 k h12).1 (h.1 k h12).2]
      exact h0
    · have hv := h.2 k
      unfold cel at h0 ⊢
      generalize hkk : kd k = K at h0 ⊢ h12
      have e13 : ∀ cI : ClassId, vp_cell cI (ln k, .inl (Q.1 k)) = vp_cell cI (ln k, .inl (P.1 k)) := fun cI => by
        rw [vp_cell_i, vp_cell_i]
        exact arrV_congr fun j hj => by rw [(hv j hj).1]
      have e14 : ∀ cI : ClassId, vp_cell cI (ln k, .inr (.inl (Q.2 k))) = vp_cell cI (ln k, .inr (.inl (P.2 k))) := fun cI => by
        rw [vp_cell_l, vp_cell_l]
        exact arrV_congr fun j hj => by rw [(hv j hj).2]
      match K, h12 with
      | 12, _ => exact h0.trans (congrArg some (e13 _)).symm
      | 13, _ => exact h0.trans (congrArg some (e13 _)).symm
      | 14, _ => exact h0.trans (congrArg some (e14 _)).symm
      | 15, _ => exact h0.trans (congrArg some (e13 _)).symm
      | 16, _ => exact h0
      | 17, _ => exact h0
      | K + 18, _ =>
        have : K + 18 = kd k := hkk.symm
        exfalso
        have hb : ∀ n, n < 111 → kd n < 18 := by decide +kernel
        have := hb k c
        omega
  · rw [List.getElem?_eq_none (by simpa [wsOf] using c)] at hk
    cases hk
section SPECIAL
variable {T : Type} {G : GT} {l : Launch} {mi : MI} {k n : Nat} {τ : T → RS} {pc : Nat} {lv : List (Nat × Value)} {st : List Value} {P : PH} {o : Option T}
theorem s_heap {Q : PH} (h : PEq P Q) (K : Sem G l mi k n τ pc lv st Q o) : Sem G l mi k n τ pc lv st P o := by
  intro p e R s m args below meth c hM H locs cells slots mc ms ls hP hS hl h1 h2 h3 h4 z hz
  exact K p e R s m args below meth c hM H locs cells slots mc ms ls (h.va hP) hS hl h1 h2 h3 h4 z hz
theorem s_copyI {index a b La Lb : Nat} (N : Nat) (hd : decode mi.1 pc = .ok (.invokestatic index, 3)) (hC : CPK G mi.2.2.1 index) (ka : kd a = 13) (la : ln a = La) (kb : kd b = 13) (lb : ln b = Lb) (h9 : 9 ≤ hiOf mi) (ha : N ≤ La) (hb : N ≤ Lb) (hN : N < 2 ^ 31)
    (K : Sem G l mi k n τ (pc + 3) lv [] (rI P b (fun j => if j < N then P.1 a j else P.1 b j)) o) : Sem G l mi k n τ pc lv [.int (Int32.ofNat N), .int (0 : Int32), .ref (gA G b), .int (0 : Int32), .ref (gA G a)] P o := by
  intro p e R s m args below meth c hM H locs cells slots mc ms ls hP hS hl h1 h2 h3 h4 z hz
  obtain ⟨c1, c2, c3, c4⟩ := hC
  have hf : hiOf mi ≤ R.frames := hM.2.2.2.2.2.2.2.2.1
  have hlo : 40 * hiOf mi ≤ R.locals := hM.2.2.2.2.2.2.2.2.2.1
  have eN : (Int32.ofNat N).toNatClampNeg = N := nI_clamp hN
  have e0 : (0 : Int32).toNatClampNeg = 0 := rfl
  refine va_copyi hM.2.1 hM.2.2.1 (hM.2.2.2.1.trans hl.1.symm) hM.2.2.2.2.1 (hM.w c1 args) (hM.w c2 args) (hM.w c3 args) (hM.w c4 args) hM.kk hP (va_P_D hM.1 P) hS a b 1 1 (wa_int ka) (wa_int kb) rfl rfl rfl (by decide) (by decide) (nI_pos hN) (by rw [eN, e0]; omega) (by rw [eN, e0]; omega) (fun i _ => rfl) (by omega) ?_ hd (fun H1 locs1 hP1 _ hS1 => ?_)
  · show 0 + _ ≤ R.locals
    have : nativeFrameWords "java/lang/System" "arraycopy" 5 + 11 ≤ 360 := by decide +kernel
    omega
  · rw [eN, e0, cpy0, wset_rI kb (Or.inr (Or.inl rfl))] at hP1
    exact K p e R s m args below meth c hM H1 locs1 cells slots mc ms ls hP1 hS1 hl h1 h2 h3 h4 z hz
theorem s_copyL {index a b La Lb : Nat} (N : Nat) (hd : decode mi.1 pc = .ok (.invokestatic index, 3)) (hC : CPK G mi.2.2.1 index) (ka : kd a = 14) (la : ln a = La) (kb : kd b = 14) (lb : ln b = Lb) (h9 : 9 ≤ hiOf mi) (ha : N ≤ La) (hb : N ≤ Lb) (hN : N < 2 ^ 31)
    (K : Sem G l mi k n τ (pc + 3) lv [] (rL P b (fun j => if j < N then P.2 a j else P.2 b j)) o) : Sem G l mi k n τ pc lv [.int (Int32.ofNat N), .int (0 : Int32), .ref (gA G b), .int (0 : Int32), .ref (gA G a)] P o := by
  intro p e R s m args below meth c hM H locs cells slots mc ms ls hP hS hl h1 h2 h3 h4 z hz
  obtain ⟨c1, c2, c3, c4⟩ := hC
  have hf : hiOf mi ≤ R.frames := hM.2.2.2.2.2.2.2.2.1
  have hlo : 40 * hiOf mi ≤ R.locals := hM.2.2.2.2.2.2.2.2.2.1
  have eN : (Int32.ofNat N).toNatClampNeg = N := nI_clamp hN
  have e0 : (0 : Int32).toNatClampNeg = 0 := rfl
  refine va_copyl hM.2.1 hM.2.2.1 (hM.2.2.2.1.trans hl.1.symm) hM.2.2.2.2.1 (hM.w c1 args) (hM.w c2 args) (hM.w c3 args) (hM.w c4 args) hM.kk hP (va_P_D hM.1 P) hS a b 2 2 (wa_long ka) (wa_long kb) rfl rfl rfl (by decide) (by decide) (nI_pos hN) (by rw [eN, e0]; omega) (by rw [eN, e0]; omega) (fun i _ => rfl) (by omega) ?_ hd (fun H1 locs1 hP1 _ hS1 => ?_)
  · show 0 + _ ≤ R.locals
    have : nativeFrameWords "java/lang/System" "arraycopy" 5 + 11 ≤ 360 := by decide +kernel
    omega
  · rw [eN, e0, cpy0, wset_rL kb] at hP1
    exact K p e R s m args below meth c hM H1 locs1 cells slots mc ms ls hP1 hS1 hl h1 h2 h3 h4 z hz
theorem s_throw {x : T} {ik is ic : Nat} {cls : String} (hT : TK G mi.2.2.1 ik is ic cls)
    (d0 : decode mi.1 pc = .ok (.new ik, 3)) (d3 : decode mi.1 (pc + 3) = .ok (.dup, 1)) (d4 : decode mi.1 (pc + 4) = .ok (.ldc is, 2)) (d6 : decode mi.1 (pc + 6) = .ok (.invokespecial ic, 3)) (d9 : decode mi.1 (pc + 9) = .ok (.athrow, 1))
    (ht : τ x = (.inr cls, P)) (h0 : xtOf mi = []) (hh : 6 ≤ hiOf mi) (hk : 1 ≤ k) (hn : 6 ≤ n) : Sem G l mi k n τ pc lv [] P (some x) := by
  intro p e R s m args below meth c hM H locs cells slots mc ms ls hP hS hl h1 h2 h3 h4 z hz
  cases hz
  obtain ⟨t1, t2, t3, ⟨text, sa, t4⟩, t5, t6⟩ := hT
  have hf : hiOf mi ≤ R.frames := hM.2.2.2.2.2.2.2.2.1
  have hlo : 40 * hiOf mi ≤ R.locals := hM.2.2.2.2.2.2.2.2.2.1
  have hw := hM.2.2.2.2.2.2.2.1.1
  have hU := hM.1.2.2.2.2.1.2.2.2.1
  have hN := hM.1.2.2.2.2.1.2.2.2.2.1
  exact vx_throwS (names := tNm) hM.2.1 hM.2.2.1 hM.1.1 hM.2.2.2.2.1 t1 (by decide +kernel) (hM.w t2 args) (hM.w t3 args) (vk_R.warm hw t4) (fun w h => hM.w (t5 w h) args) t6
    (vx_Zq.kept (vx_Zq.moved hw.alike hU) hM.keep) (vx_Zq.kept (vx_Zq.moved hw.alike hN) hM.keep) hS (hl.1.trans hM.2.2.2.1.symm) d0 d3 d4 d6 d9 (fun x hx => absurd (show x ∈ tableOf (xt2 (xtOf mi)) from hM.2.2.2.2.2.2.2.2.2.2.1 ▸ hx) (by rw [h0]; exact List.not_mem_nil))
    (by show 2 + 3 < R.frames; omega) (by show 0 + (13 * 3 + 43) ≤ R.locals; omega) (by omega) (by omega) hM.2.2.2.2.2.1
    (fun t _ hz hk => ⟨by rw [ht], by rw [ht]; exact va_P.kept hP (fun i q hq => hk _ (vx_lt hP hq)), ⟨Nat.le_trans hS.1 hz, fun q hq hA => by rw [hk q (Nat.lt_of_lt_of_le hq hS.1)]; exact hS.2.1 q hq hA⟩⟩) hS.2.2 (by omega) (by omega)
theorem s_throwW {x : T} {ik is ic : Nat} {cls : String} (hT : TK G mi.2.2.1 ik is ic cls)
    (d0 : decode mi.1 pc = .ok (.new ik, 3)) (d3 : decode mi.1 (pc + 3) = .ok (.dup, 1)) (d4 : decode mi.1 (pc + 4) = .ok (.ldc_w is, 3)) (d7 : decode mi.1 (pc + 7) = .ok (.invokespecial ic, 3)) (d10 : decode mi.1 (pc + 10) = .ok (.athrow, 1))
    (ht : τ x = (.inr cls, P)) (h0 : xtOf mi = []) (hh : 6 ≤ hiOf mi) (hk : 1 ≤ k) (hn : 6 ≤ n) : Sem G l mi k n τ pc lv [] P (some x) := by
  intro p e R s m args below meth c hM H locs cells slots mc ms ls hP hS hl h1 h2 h3 h4 z hz
  cases hz
  obtain ⟨t1, t2, t3, ⟨text, sa, t4⟩, t5, t6⟩ := hT
  have hf : hiOf mi ≤ R.frames := hM.2.2.2.2.2.2.2.2.1
  have hlo : 40 * hiOf mi ≤ R.locals := hM.2.2.2.2.2.2.2.2.2.1
  have hw := hM.2.2.2.2.2.2.2.1.1
  have hU := hM.1.2.2.2.2.1.2.2.2.1
  have hN := hM.1.2.2.2.2.1.2.2.2.2.1
  exact vx_throwSW (names := tNm) hM.2.1 hM.2.2.1 hM.1.1 hM.2.2.2.2.1 t1 (by decide +kernel) (hM.w t2 args) (hM.w t3 args) (vk_R.warm hw t4) (fun w h => hM.w (t5 w h) args) t6
    (vx_Zq.kept (vx_Zq.moved hw.alike hU) hM.keep) (vx_Zq.kept (vx_Zq.moved hw.alike hN) hM.keep) hS (hl.1.trans hM.2.2.2.1.symm) d0 d3 d4 d7 d10 (fun x hx => absurd (show x ∈ tableOf (xt2 (xtOf mi)) from hM.2.2.2.2.2.2.2.2.2.2.1 ▸ hx) (by rw [h0]; exact List.not_mem_nil))
    (by show 2 + 3 < R.frames; omega) (by show 0 + (13 * 3 + 43) ≤ R.locals; omega) (by omega) (by omega) hM.2.2.2.2.2.1
    (fun t _ hz hk => ⟨by rw [ht], by rw [ht]; exact va_P.kept hP (fun i q hq => hk _ (vx_lt hP hq)), ⟨Nat.le_trans hS.1 hz, fun q hq hA => by rw [hk q (Nat.lt_of_lt_of_le hq hS.1)]; exact hS.2.1 q hq hA⟩⟩) hS.2.2 (by omega) (by omega)
end SPECIAL
/-! Arrays.fill -/
def miJ7_fill_53178 : MI := (cJ7_fill_53178, 4, RJ7, none, 1, [])
def miJ7_fill_d0a16 : MI := (cJ7_fill_d0a16, 5, RJ7, none, 1, [])
set_option maxRecDepth 100000 in
set_option maxHeartbeats 4000000 in
theorem fillI_sem {G : GT} {l : Launch} (x : Nat) (hx : kd x = 13) (L : Nat) (hL : ln x = L) (hB : L < 2 ^ 31) (v : Int32) (P : PH) : ∀ (n i : Nat) (Q : PH), i ≤ L → L - i < n → (∀ j, j < i → Q.1 x j = v) → (∀ a, a ≠ x → Q.1 a = P.1 a) → Q.2 = P.2 →
    Sem G l miJ7_fill_53178 0 0 (rn tVH) 5 [(0, .ref (gA G x)), (1, .int v), (2, .int (nI i)), (3, .int (nI L))] [] Q (some (rI P x (fun _ => v))) := by
  intro n
  induction n with
  | zero => intro i Q _ h; omega
  | succ n ih =>
    intro i Q hi hn h1 h2 h3
    rcases Nat.lt_or_ge i L with hlt | hge
    · refine s_iload_n (pc := 5) 2 dJ7_fill_53178_5 rfl rfl ?_
      refine s_iload_n (pc := 6) 3 dJ7_fill_53178_6 rfl rfl ?_
      have hg : ¬ nI L ≤ nI i := nI_ge hlt hB
      rw [show (some (rI P x (fun _ => v)) : Option PH) = if nI L ≤ nI i then none else some (rI P x (fun _ => v)) from (if_neg hg).symm]
      refine s_icmp_ge (pc := 7) 20 dJ7_fill_53178_7 rfl (s_none rfl) ?_
      refine s_aload_n (pc := 10) 0 dJ7_fill_53178_10 rfl rfl ?_
      refine s_iload_n (pc := 11) 2 dJ7_fill_53178_11 rfl rfl ?_
      refine s_iload_n (pc := 12) 1 dJ7_fill_53178_12 rfl rfl ?_
      have hin : vp_in (nI i) L := vp_in_nI hlt hB
      rw [show (some (rI P x (fun _ => v)) : Option PH) = gdI (nI i) L (some (rI P x (fun _ => v))) from (gdI_in hin).symm]
      refine s_iast (pc := 13) L dJ7_fill_53178_13 hx hL ?_
      refine s_iinc (pc := 14) 2 1 [(2, .int (nI i + 1)), (0, .ref (gA G x)), (1, .int v), (3, .int (nI L))] dJ7_fill_53178_14 rfl rfl (Nat.le_of_ble_eq_true rfl) rfl ?_
      refine s_goto (pc := 17) 5 dJ7_fill_53178_17 rfl ?_
      refine s_sub [1, 2, 0, 3] rfl ?_
      rw [nI_1, nI_clamp (by omega)]
      refine ih (i + 1) _ hlt (by omega) ?_ ?_ ?_
      · intro j hj
        rw [sI_row]
        unfold upd
        by_cases hji : j = i
        · rw [if_pos hji]
        · rw [if_neg hji]
          exact h1 j (by omega)
      · intro a ha
        show u2 Q.1 x i v a = _
        rw [u2_off _ _ ha]
        exact h2 a ha
      · exact h3
    · have hiL : i = L := by omega
      subst hiL
      refine s_iload_n (pc := 5) 2 dJ7_fill_53178_5 rfl rfl ?_
      refine s_iload_n (pc := 6) 3 dJ7_fill_53178_6 rfl rfl ?_
      rw [show (some (rI P x (fun _ => v)) : Option PH) = if nI i ≤ nI i then some (rI P x (fun _ => v)) else none from (if_pos (Int32.le_refl _)).symm]
      refine s_icmp_ge (pc := 7) 20 dJ7_fill_53178_7 rfl ?_ (s_none rfl)
      refine s_heap (Q := rI P x (fun _ => v)) ⟨fun a ha => ?_, fun a j hj => ?_⟩ ?_
      · have hax : a ≠ x := fun z => by subst z; omega
        refine ⟨?_, ?_⟩
        · show (if a = x then _ else P.1 a) = _
          rw [if_neg hax, h2 a hax]
        · show P.2 a = _
          rw [h3]
      · refine ⟨?_, ?_⟩
        · show (if a = x then _ else P.1 a) j = _
          by_cases hax : a = x
          · subst hax
            rw [if_pos rfl, h1 j (by omega)]
          · rw [if_neg hax, h2 a hax]
        · show P.2 a j = _
          rw [h3]
      · exact s_vret (pc := 20) dJ7_fill_53178_20 rfl rfl
set_option maxRecDepth 100000 in
set_option maxHeartbeats 4000000 in
theorem fillI_ok {G : GT} {l : Launch} (hG : GOK G l) (x : Nat) (hx : kd x = 13) (v : Int32) (P : PH) : OkN G l yJ7_fill_53178 miJ7_fill_53178 0 0 tVH [.ref (gA G x), .int v] P (some (rI P x (fun _ => v))) := by
  have hB : ln x < 2 ^ 31 := (by decide +kernel : ∀ n, n < 111 → ln n < 2 ^ 31) x (kd_lt hx (by omega))
  refine okN_of hG _ [(0, .ref (gA G x)), (1, .int v)] rfl rfl rfl (Nat.le_of_ble_eq_true rfl) rfl ?_
  refine s_iconst (pc := 0) (v := 0) dJ7_fill_53178_0 rfl ?_
  refine s_istore_n (pc := 1) [(2, .int (0 : Int32)), (0, .ref (gA G x)), (1, .int v)] dJ7_fill_53178_1 rfl (Nat.le_of_ble_eq_true rfl) rfl ?_
  refine s_aload_n (pc := 2) 1 dJ7_fill_53178_2 rfl rfl ?_
  refine s_alen (pc := 3) (t := 1) (ln x) (nI (ln x)) dJ7_fill_53178_3 hx (Nat.le_of_ble_eq_true rfl) rfl rfl ?_
  refine s_istore_n (pc := 4) [(3, .int (nI (ln x))), (2, .int (0 : Int32)), (0, .ref (gA G x)), (1, .int v)] dJ7_fill_53178_4 rfl (Nat.le_of_ble_eq_true rfl) rfl ?_
  refine s_sub [2, 3, 1, 0] rfl ?_
  exact fillI_sem x hx (ln x) rfl hB v P (ln x + 1) 0 P (Nat.zero_le _) (by omega) (fun j hj => absurd hj (Nat.not_lt_zero j)) (fun _ _ => rfl) rfl
set_option maxRecDepth 100000 in
set_option maxHeartbeats 4000000 in
theorem fillL_sem {G : GT} {l : Launch} (x : Nat) (hx : kd x = 14) (L : Nat) (hL : ln x = L) (hB : L < 2 ^ 31) (v : Int64) (P : PH) : ∀ (n i : Nat) (Q : PH), i ≤ L → L - i < n → (∀ j, j < i → Q.2 x j = v) → (∀ a, a ≠ x → Q.2 a = P.2 a) → Q.1 = P.1 →
    Sem G l miJ7_fill_d0a16 0 0 (rn tVH) 6 [(0, .ref (gA G x)), (1, .long v), (3, .int (nI i)), (4, .int (nI L))] [] Q (some (rL P x (fun _ => v))) := by
  intro n
  induction n with
  | zero => intro i Q _ h; omega
  | succ n ih =>
    intro i Q hi hn h1 h2 h3
    rcases Nat.lt_or_ge i L with hlt | hge
    · refine s_iload_n (pc := 6) 2 dJ7_fill_d0a16_6 rfl rfl ?_
      refine s_iload (pc := 7) 3 dJ7_fill_d0a16_7 rfl ?_
      have hg : ¬ nI L ≤ nI i := nI_ge hlt hB
      rw [show (some (rL P x (fun _ => v)) : Option PH) = if nI L ≤ nI i then none else some (rL P x (fun _ => v)) from (if_neg hg).symm]
      refine s_icmp_ge (pc := 9) 22 dJ7_fill_d0a16_9 rfl (s_none rfl) ?_
      refine s_aload_n (pc := 12) 0 dJ7_fill_d0a16_12 rfl rfl ?_
      refine s_iload_n (pc := 13) 2 dJ7_fill_d0a16_13 rfl rfl ?_
      refine s_lload_n (pc := 14) 1 dJ7_fill_d0a16_14 rfl rfl ?_
      have hin : vp_in (nI i) L := vp_in_nI hlt hB
      rw [show (some (rL P x (fun _ => v)) : Option PH) = gdI (nI i) L (some (rL P x (fun _ => v))) from (gdI_in hin).symm]
      refine s_last (pc := 15) L dJ7_fill_d0a16_15 hx hL ?_
      refine s_iinc (pc := 16) 2 1 [(3, .int (nI i + 1)), (0, .ref (gA G x)), (1, .long v), (4, .int (nI L))] dJ7_fill_d0a16_16 rfl rfl (Nat.le_of_ble_eq_true rfl) rfl ?_
      refine s_goto (pc := 19) 6 dJ7_fill_d0a16_19 rfl ?_
      refine s_sub [1, 2, 0, 3] rfl ?_
      rw [nI_1, nI_clamp (by omega)]
      refine ih (i + 1) _ hlt (by omega) ?_ ?_ ?_
      · intro j hj
        rw [sL_row]
        unfold vp_updL
        by_cases hji : j = i
        · rw [if_pos hji]
        · rw [if_neg hji]
          exact h1 j (by omega)
      · intro a ha
        show u2 Q.2 x i v a = _
        rw [u2_off _ _ ha]
        exact h2 a ha
      · exact h3
    · have hiL : i = L := by omega
      subst hiL
      refine s_iload_n (pc := 6) 2 dJ7_fill_d0a16_6 rfl rfl ?_
      refine s_iload (pc := 7) 3 dJ7_fill_d0a16_7 rfl ?_
      rw [show (some (rL P x (fun _ => v)) : Option PH) = if nI i ≤ nI i then some (rL P x (fun _ => v)) else none from (if_pos (Int32.le_refl _)).symm]
      refine s_icmp_ge (pc := 9) 22 dJ7_fill_d0a16_9 rfl ?_ (s_none rfl)
      refine s_heap (Q := rL P x (fun _ => v)) ⟨fun a ha => ?_, fun a j hj => ?_⟩ ?_
      · have hax : a ≠ x := fun z => by subst z; omega
        refine ⟨?_, ?_⟩
        · show P.1 a = _
          rw [h3]
        · show (if a = x then _ else P.2 a) = _
          rw [if_neg hax, h2 a hax]
      · refine ⟨?_, ?_⟩
        · show P.1 a j = _
          rw [h3]
        · show (if a = x then _ else P.2 a) j = _
          by_cases hax : a = x
          · subst hax
            rw [if_pos rfl, h1 j (by omega)]
          · rw [if_neg hax, h2 a hax]
      · exact s_vret (pc := 22) dJ7_fill_d0a16_22 rfl rfl
set_option maxRecDepth 100000 in
set_option maxHeartbeats 4000000 in
theorem fillL_ok {G : GT} {l : Launch} (hG : GOK G l) (x : Nat) (hx : kd x = 14) (v : Int64) (P : PH) : OkN G l yJ7_fill_d0a16 miJ7_fill_d0a16 0 0 tVH [.ref (gA G x), .long v] P (some (rL P x (fun _ => v))) := by
  have hB : ln x < 2 ^ 31 := (by decide +kernel : ∀ n, n < 111 → ln n < 2 ^ 31) x (kd_lt hx (by omega))
  refine okN_of hG _ [(0, .ref (gA G x)), (1, .long v)] rfl rfl rfl (Nat.le_of_ble_eq_true rfl) rfl ?_
  refine s_iconst (pc := 0) (v := 0) dJ7_fill_d0a16_0 rfl ?_
  refine s_istore_n (pc := 1) [(3, .int (0 : Int32)), (0, .ref (gA G x)), (1, .long v)] dJ7_fill_d0a16_1 rfl (Nat.le_of_ble_eq_true rfl) rfl ?_
  refine s_aload_n (pc := 2) 1 dJ7_fill_d0a16_2 rfl rfl ?_
  refine s_alen (pc := 3) (t := 2) (ln x) (nI (ln x)) dJ7_fill_d0a16_3 hx (Nat.le_of_ble_eq_true rfl) rfl rfl ?_
  refine s_istore (pc := 4) [(4, .int (nI (ln x))), (3, .int (0 : Int32)), (0, .ref (gA G x)), (1, .long v)] dJ7_fill_d0a16_4 (Nat.le_of_ble_eq_true rfl) rfl ?_
  refine s_sub [2, 3, 1, 0] rfl ?_
  exact fillL_sem x hx (ln x) rfl hB v P (ln x + 1) 0 P (Nat.zero_le _) (by omega) (fun j hj => absurd hj (Nat.not_lt_zero j)) (fun _ _ => rfl) rfl
section SPECIAL2
variable {T : Type} {G : GT} {l : Launch} {mi : MI} {k n : Nat} {τ : T → RS} {pc : Nat} {lv : List (Nat × Value)} {P : PH} {o : Option T}
theorem some_bind {α β : Type} (x : α) (f : α → Option β) : (some x).bind f = f x := rfl
theorem s_fillI {index x : Nat} {v : Int32} (hd : decode mi.1 pc = .ok (.invokestatic index, 3)) (hC : CSK G mi.2.2.1 index yJ7_fill_53178 miJ7_fill_53178 2) (hG : GOK G l) (hx : kd x = 13) (h9 : 9 ≤ hiOf mi) (K : Sem G l mi k n τ (pc + 3) lv [] (rI P x (fun _ => v)) o) : Sem G l mi k n τ pc lv [.int v, .ref (gA G x)] P o := by
  intro p e R s m args below meth c hM H locs cells slots mc ms ls hP hS hl h1 h2 h3 h4 z hz
  obtain ⟨w1, w2, w3⟩ := hC
  refine go_call (va_runS (As := [.ref (gA G x), .int v]) (rest := []) (hM.fix args) (fillI_ok hG x hx v P _ rfl) ⟨w3.cb hM w1 (Nat.le_trans (show 1 + 1 ≤ 9 by decide) h9) args, hM.w w2 args⟩ ⟨blind, fun U hU hW => ⟨rfl, hM.wd hP hS hU hW⟩⟩ rfl rfl hl.1 rfl (lv_room (Nat.zero_le _)) hd ⟨by omega, by omega⟩) hS (fun H1 locs1 hP1 hS1 => ?_)
  exact K p e R s m args below meth c hM H1 locs1 _ _ mc ms ls hP1 hS1 hl (by omega) (by omega) h3 h4 z hz
theorem s_fillL {index x : Nat} {v : Int64} (hd : decode mi.1 pc = .ok (.invokestatic index, 3)) (hC : CSK G mi.2.2.1 index yJ7_fill_d0a16 miJ7_fill_d0a16 2) (hG : GOK G l) (hx : kd x = 14) (h9 : 9 ≤ hiOf mi) (K : Sem G l mi k n τ (pc + 3) lv [] (rL P x (fun _ => v)) o) : Sem G l mi k n τ pc lv [.long v, .ref (gA G x)] P o := by
  intro p e R s m args below meth c hM H locs cells slots mc ms ls hP hS hl h1 h2 h3 h4 z hz
  obtain ⟨w1, w2, w3⟩ := hC
  refine go_call (va_runS (As := [.ref (gA G x), .long v]) (rest := []) (hM.fix args) (fillL_ok hG x hx v P _ rfl) ⟨w3.cb hM w1 (Nat.le_trans (show 1 + 1 ≤ 9 by decide) h9) args, hM.w w2 args⟩ ⟨blind, fun U hU hW => ⟨rfl, hM.wd hP hS hU hW⟩⟩ rfl rfl hl.1 rfl (lv_room (Nat.zero_le _)) hd ⟨by omega, by omega⟩) hS (fun H1 locs1 hP1 hS1 => ?_)
  exact K p e R s m args below meth c hM H1 locs1 _ _ mc ms ls hP1 hS1 hl (by omega) (by omega) h3 h4 z hz
end SPECIAL2
theorem look_two {a b d : Int} {x : Int32} (h0 : ¬ x = 0) (h1 : ¬ x = 1) : Op.lookupswitch.offset [(0, a), (1, b)] d x.toInt = d := by
  have g0 : ¬ x.toInt = 0 := fun q => h0 (Int32.toInt_inj.mp q)
  have g1 : ¬ x.toInt = 1 := fun q => h1 (Int32.toInt_inj.mp q)
  simp [Op.lookupswitch.offset, Ne.symm g0, Ne.symm g1, g0, g1]
