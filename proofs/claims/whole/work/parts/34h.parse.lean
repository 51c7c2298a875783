/-! DRAWING: both sides read alike -/
def stq (T : Nat → Nat) (n d p : Nat) : Prop := if d = 0 then tK T n p = 0 else sgn T n p 41
def CSx (T : Nat → Nat) (n d sz p : Nat) (P : PH) : Prop := TXc T n P ∧ p ≤ n ∧ P.1 71 1 = 0 ∧ P.1 71 2 = m1 ∧ P.1 71 6 = nI p ∧ P.1 71 10 = nI d ∧ P.1 66 0 = nI sz ∧ 4 * sz ≤ p
def MSx (T : Nat → Nat) (n d mz p : Nat) (Q : PH) : Prop := TXm T n Q ∧ Q.1 1 14 = 0 ∧ RPt T n p Q ∧ Q.1 1 13 = nI d ∧ Q.1 1 19 = nI mz ∧ 2 * mz ≤ p
def KPc (d sz : Nat) (P P' : PH) : Prop := (∀ r i, 67 ≤ r → r ≤ 70 → i < sz → P'.1 r i = P.1 r i) ∧ (∀ j, j < d → P'.1 73 j = P.1 73 j) ∧ oCf P P'
def KPm (mz : Nat) (Q Q' : PH) : Prop := (∀ j, j < 4 * mz → Q'.1 94 j = Q.1 94 j) ∧ oPs Q Q'
def OKS (T : Nat → Nat) (n d sz mz lo : Nat) (P Q : PH) (X : Option PH) (Z : PH → Prop) (St : Nat → Prop) : Prop := ∃ (p' sz' mz' k' F' g' : Nat) (P' Q' : PH), lo ≤ p' ∧ St p' ∧ CSx T n d sz' p' P' ∧ MSx T n d mz' p' Q' ∧ X = Re_read_47 F' (nI k') P' ∧ k' ≤ p' ∧ 702 ≤ F' + k' ∧ Z Q' ∧ SG P'.1 (Q'.1 94) g' d sz sz' mz mz' ∧ KPc d sz P P' ∧ KPm mz Q Q'
def FTS (P Q : PH) (X : Option PH) (Z : PH → Prop) : Prop := ∃ (f b : Nat) (P' Q' : PH), 1 ≤ f ∧ f ≤ 4 ∧ X = some P' ∧ Z Q' ∧ P'.1 71 1 = nI f ∧ P'.1 71 2 = nI b ∧ Q'.1 1 14 = nI f ∧ Q'.1 1 15 = nI b ∧ oCf P P' ∧ oPs Q Q'
def STMp (T : Nat → Nat) (n g d p : Nat) : Prop := ∀ (sz mz : Nat) (P Q : PH) (F k : Nat), CSx T n d sz p P → MSx T n d mz p Q → k ≤ p → 702 ≤ F + k → ¬ stq T n d p → OKS T n d sz mz (p + 1) P Q (Re_read_47 F (nI k) P) (fun Q' => Mo_readStatement g Q = some Q') (fun _ => True) ∨ FTS P Q (Re_read_47 F (nI k) P) (fun Q' => Mo_readStatement g Q = some Q')
section PRS
variable {T : Nat → Nat} {n : Nat}
theorem KPc.rf (d sz : Nat) (P : PH) : KPc d sz P P := ⟨fun _ _ _ _ _ => rfl, fun _ _ => rfl, oCf.rf P⟩
theorem KPm.rf (mz : Nat) (Q : PH) : KPm mz Q Q := ⟨fun _ _ => rfl, oPs.rf Q⟩
theorem KPc.tr {d sz sz' : Nat} {P P' P'' : PH} (h : KPc d sz P P') (h2 : KPc d sz' P' P'') (hs : sz ≤ sz') : KPc d sz P P'' := ⟨fun r i a b c => (h2.1 r i a b (by omega)).trans (h.1 r i a b c), fun j a => (h2.2.1 j a).trans (h.2.1 j a), h.2.2.tr h2.2.2⟩
theorem KPm.tr {mz mz' : Nat} {Q Q' Q'' : PH} (h : KPm mz Q Q') (h2 : KPm mz' Q' Q'') (hs : mz ≤ mz') : KPm mz Q Q'' := ⟨fun j a => (h2.1 j (by omega)).trans (h.1 j a), h.2.tr h2.2⟩
/-- the statements up to a stop -/
theorem lp_run {X : Type} {Lp : Nat → PH → Option X} {En : PH → Option X} {d g : Nat} (hF : ∀ G Q, ¬ Q.1 1 14 = 0 → Lp (G + 1) Q = En Q) (hS : ∀ G p Q, TXm T n Q → p ≤ n → RPt T n p Q → Q.1 1 14 = 0 → stq T n d p → Lp (G + 1) Q = En Q) (hN : ∀ G p Q, TXm T n Q → p ≤ n → RPt T n p Q → Q.1 1 14 = 0 → ¬ stq T n d p → Lp (G + 1) Q = (Mo_readStatement g Q).bind (Lp G)) : ∀ (m p : Nat), n - p ≤ m → p ≤ n → (∀ p', p ≤ p' → p' ≤ n → STMp T n g d p') → ∀ (sz mz : Nat) (P Q : PH) (F k G : Nat), CSx T n d sz p P → MSx T n d mz p Q → k ≤ p → 702 ≤ F + k → m + 1 < G → OKS T n d sz mz p P Q (Re_read_47 F (nI k) P) (fun Q' => Lp G Q = En Q') (stq T n d) ∨ FTS P Q (Re_read_47 F (nI k) P) (fun Q' => Lp G Q = En Q') := by
  intro m
  induction m with
  | zero =>
    intro p hm hp hI sz mz P Q F k G hc hq hk hFk hG
    obtain ⟨G, rfl⟩ : ∃ G', G = G' + 1 + 1 := ⟨G - 2, by omega⟩
    by_cases c : stq T n d p
    · exact Or.inl ⟨p, sz, mz, k, F, 0, P, Q, Nat.le_refl _, c, hc, hq, rfl, hk, hFk, hS (G + 1) p Q hq.1 hp hq.2.2.1 hq.2.1 c, SG_rf _ _ _ _, KPc.rf _ _ _, KPm.rf _ _⟩
    · have st := hN (G + 1) p Q hq.1 hp hq.2.2.1 hq.2.1 c
      rcases hI p (Nat.le_refl _) hp sz mz P Q F k hc hq hk hFk c with ⟨p', sz', mz', k', F', g', P', Q', o1, -, o3, -⟩ | ⟨f, b, P', Q', f1, f2, f3, f4, f5, f6, f7, f8, f9, f10⟩
      · have := o3.2.1; omega
      · refine Or.inr ⟨f, b, P', Q', f1, f2, f3, ?_, f5, f6, f7, f8, f9, f10⟩
        have f4 : Mo_readStatement g Q = some Q' := f4
        show Lp (G + 1 + 1) Q = En Q'
        rw [st, f4, Option.bind_some]
        exact hF G Q' (by rw [f7]; exact nI_ne0 (by omega) (by omega))
  | succ m ih =>
    intro p hm hp hI sz mz P Q F k G hc hq hk hFk hG
    obtain ⟨G, rfl⟩ : ∃ G', G = G' + 1 + 1 := ⟨G - 2, by omega⟩
    by_cases c : stq T n d p
    · exact Or.inl ⟨p, sz, mz, k, F, 0, P, Q, Nat.le_refl _, c, hc, hq, rfl, hk, hFk, hS (G + 1) p Q hq.1 hp hq.2.2.1 hq.2.1 c, SG_rf _ _ _ _, KPc.rf _ _ _, KPm.rf _ _⟩
    · have st := hN (G + 1) p Q hq.1 hp hq.2.2.1 hq.2.1 c
      rcases hI p (Nat.le_refl _) hp sz mz P Q F k hc hq hk hFk c with ⟨p', sz', mz', k', F', g', P', Q', o1, -, o3, o4, o5, o6, o7, o8, o9, o10, o11⟩ | ⟨f, b, P', Q', f1, f2, f3, f4, f5, f6, f7, f8, f9, f10⟩
      · have o8 : Mo_readStatement g Q = some Q' := o8
        have st : Lp (G + 1 + 1) Q = Lp (G + 1) Q' := by rw [st, o8, Option.bind_some]
        have le := SG_le _ _ _ _ _ _ o9
        rcases ih p' (by omega) o3.2.1 (fun a b e => hI a (by omega) e) sz' mz' P' Q' F' k' (G + 1) o3 o4 o6 o7 (by omega) with ⟨q, sy, my, ky, Fy, gy, Py, Qy, y1, y2, y3, y4, y5, y6, y7, y8, y9, y10, y11⟩ | ⟨f, b, Py, Qy, f1, f2, f3, f4, f5, f6, f7, f8, f9, f10⟩
        · refine Or.inl ⟨q, sy, my, ky, Fy, g' + gy, Py, Qy, by omega, y2, y3, y4, o5.trans y5, y6, y7, st.trans y8, SG_app _ _ _ _ _ _ _ _ _ (SG_cong _ _ _ _ _ _ (fun r i a b _ e => y10.1 r i a b e) (fun x _ e => y11.1 x e) o9) y9, o10.tr y10 le.1, o11.tr y11 le.2⟩
        · exact Or.inr ⟨f, b, Py, Qy, f1, f2, o5.trans f3, st.trans f4, f5, f6, f7, f8, o10.2.2.tr f9, o11.2.tr f10⟩
      · refine Or.inr ⟨f, b, P', Q', f1, f2, f3, ?_, f5, f6, f7, f8, f9, f10⟩
        have f4 : Mo_readStatement g Q = some Q' := f4
        show Lp (G + 1 + 1) Q = En Q'
        rw [st, f4, Option.bind_some]
        exact hF G Q' (by rw [f7]; exact nI_ne0 (by omega) (by omega))
/-! behind the head, the class -/
theorem tlC_F {P : PH} {w d : Nat} {v2 v3 v4 : Int32} (hf : ¬ P.1 71 1 = 0) (h10 : P.1 71 10 = nI d) (hd : d ≤ 5) : ∃ Q, tlC w v2 v3 v4 P = some Q ∧ Q.1 71 1 = P.1 71 1 ∧ Q.1 71 2 = P.1 71 2 ∧ oCf P Q := by
  have z : ∀ Q : PH, Q.1 71 1 = P.1 71 1 → Re_worded_105 (nI w) v2 v3 v4 Q = some Q := fun Q h => by
    unfold Re_worded_105
    rw [h, if_neg hf]
  unfold tlC
  by_cases c : w < 11
  · rw [if_pos c, z P rfl]
    exact ⟨P, rfl, rfl, rfl, oCf.rf P⟩
  · rw [if_neg c]
    unfold Re_openBlock Re_openBlock_19
    rw [h10, if_neg (show ¬ nI d < 0 from nI_pos (by omega))]
    by_cases c5 : d < 5
    · rw [if_pos (show nI d < (5 : Int32) from (show nI d < nI 5 from nI_lt c5 (by decide))), z_gd c5 (by decide), z_cl (by omega), Option.bind_some, Option.bind_some, Option.bind_some, z _ (by rw [rowI_s, pk_un (by decide), rowI_o _ _ _ (by decide)])]
      exact ⟨_, rfl, by rw [rowI_s, pk_un (by decide), rowI_o _ _ _ (by decide)], by rw [rowI_s, pk_un (by decide), rowI_o _ _ _ (by decide)], ((oCf.rf P).s (by omega) _).s (by omega) _⟩
    · rw [if_neg (show ¬ nI d < (5 : Int32) from (show ¬ nI d < nI 5 by rw [z_lt (by omega) (by omega)]; exact c5)), re_failF hf, Option.bind_some, Option.bind_some, z P rfl]
      exact ⟨P, rfl, rfl, rfl, oCf.rf P⟩
theorem tlC_s {P : PH} {w : Nat} {v2 v3 v4 : Int32} (hw : w < 11) (h1 : P.1 71 1 = 0) : tlC w v2 v3 v4 P = Sc_add (nI w) v3 v4 v2 P := by
  unfold tlC Re_worded_105
  rw [if_pos hw, if_pos h1]
  cases Sc_add (nI w) v3 v4 v2 P <;> rfl
theorem tlC_deep {P : PH} {w b : Nat} {v2 v3 v4 : Int32} (hw : ¬ w < 11) (h1 : P.1 71 1 = 0) (h10 : P.1 71 10 = nI 5) (h8 : P.1 71 8 = nI b) : ∃ Q, tlC w v2 v3 v4 P = some Q ∧ Q.1 71 1 = nI 4 ∧ Q.1 71 2 = nI b ∧ oCf P Q := by
  obtain ⟨Q, a1, a2, a3, a4, a5⟩ := re_fail0 (k := 4) h1 h8
  have a1 : Re_fail (4 : Int32) P = some Q := a1
  refine ⟨Q, ?_, a2, a3, a5.cf⟩
  unfold tlC Re_openBlock Re_openBlock_19 Re_worded_105
  rw [if_neg hw, h10, if_neg (by decide), if_neg (by decide), a1, Option.bind_some, Option.bind_some, a2, if_neg (by decide)]
theorem tlC_open {P : PH} {w d sz : Nat} {v2 v3 v4 : Int32} (hw : ¬ w < 11) (h1 : P.1 71 1 = 0) (h10 : P.1 71 10 = nI d) (hd : d < 5) (h66 : P.1 66 0 = nI sz) (hs : sz < 200) : ∃ Q, tlC w v2 v3 v4 P = some Q ∧ Q.1 71 10 = nI (d + 1) ∧ (∀ k, k ≠ 10 → Q.1 71 k = P.1 71 k) ∧ Q.1 73 d = nI sz ∧ (∀ j, j ≠ d → Q.1 73 j = P.1 73 j) ∧ Q.1 66 0 = nI (sz + 1) ∧ Q.1 67 sz = nI w ∧ Q.1 68 sz = v3 ∧ (∀ r k, 67 ≤ r → r ≤ 70 → k ≠ sz → Q.1 r k = P.1 r k) ∧ oCf P Q := by
  obtain ⟨A, hA⟩ : ∃ A, A = sI (sI P 73 d (nI sz)) 71 10 (nI (d + 1)) := ⟨_, rfl⟩
  have oA : oCf P A := by rw [hA]; exact ((oCf.rf P).s (by omega) _).s (by omega) _
  have a66 : A.1 66 = P.1 66 := by rw [hA, rowI_o _ _ _ (by decide), rowI_o _ _ _ (by decide)]
  obtain ⟨Q, r1, r2, r3, r4, r5, r6, r7, r8, r9, r10⟩ := sc_add (P := A) (sz := sz) (by rw [a66]; exact h66) hs (nI w) v3 v4 v2
  refine ⟨Q, ?_, ?_, fun k hk => ?_, ?_, fun j hj => ?_, r2, r3, r4, fun r k a b e => ?_, oA.tr r10⟩
  · unfold tlC Re_openBlock Re_worded_105
    rw [if_neg hw, h10, if_neg (show ¬ nI d < 0 from nI_pos (by omega)), if_pos (show nI d < (5 : Int32) from (show nI d < nI 5 from nI_lt hd (by decide))), z_gd hd (by decide), z_cl (by omega), h66, Option.bind_some, rowI_o _ _ _ (by decide), h10, nI_1, Option.bind_some, Option.bind_some, ← hA, if_pos (by rw [hA, rowI_s, pk_un (by decide), rowI_o _ _ _ (by decide)]; exact h1), r1, Option.bind_some]
  · rw [r8, hA, rowI_s, pk_us]
  · rw [r8, hA, rowI_s, pk_un hk, rowI_o _ _ _ (by decide)]
  · rw [r9, hA, rowI_o _ _ _ (by decide), rowI_s, pk_us]
  · rw [r9, hA, rowI_o _ _ _ (by decide), rowI_s, pk_un hj]
  · rw [r7 r k a b e, hA, rowI_o _ _ _ (by omega), rowI_o _ _ _ (by omega)]
theorem wl_long : 3 ≤ wl 12 ∧ 3 ≤ wl 13 := by decide +kernel
/-- one statement -/
theorem stm : ∀ (g d p : Nat), d ≤ 5 → 8 ≤ g + d → p ≤ n → STMp T n g d p := by
  intro g
  induction g with
  | zero => intro d p hd hg hp; omega
  | succ g ih =>
    intro d p hd hg hp
    intro sz mz P Q F k hc hm hk hF hns
    obtain ⟨cT, c0, c1, c2, c6, c10, c66, csz⟩ := hc
    obtain ⟨mT, m14, mR, m13, m19, mmz⟩ := hm
    have nn := cT.1
    obtain ⟨F1, rfl⟩ : ∃ F1, F = F1 + 1 + 1 := ⟨F - 2, by omega⟩
    have t := tE_le (T := T) hp
    have tb := tB_le (T := T) hp
    by_cases hw : tK T n p = 1 ∧ ∃ w, wdO T (tB T n p) (tE T n p) = some w
    · obtain ⟨hK, w, hwd⟩ := hw
      have w14 : w < 14 := (fsp_some hwd).1
      have ln : tE T n p - tB T n p = wl w := (spW_iff.mp (fsp_some hwd).2.1).1
      have wr := wl_rng w w14
      obtain ⟨x, x1, x2⟩ := rd_word (k := k) (F := F1 + 1) cT hp c1 c6 (by omega) hK hwd
      obtain ⟨v3, v4, R, w1, w2, w3⟩ := rc_head w14 t.2.1 x1 (nI (tB T n p))
      rw [w1] at x2
      have oR : oTk P R := w2.2.1
      have R10 : R.1 71 10 = nI d := (oR.2.1 10 (by decide) (by decide) (by decide) (by decide) (by decide) (by decide)).trans c10
      have R66 : R.1 66 0 = nI sz := by rw [oR.1 66 (by decide)]; exact c66
      obtain ⟨mw1, mw2⟩ := rm_word (g := g) mT hp m14 mR hK hwd m19 (by omega)
      have flt : ∀ e, rHd T n w (tE T n p) = .inl e → (∃ Q', Mo_readStatement (g + 1) Q = some Q' ∧ ResM T n Q Q' (.inl e)) → FTS P Q (Re_read_47 (F1 + 1 + 1) (nI k) P) (fun Q' => Mo_readStatement (g + 1) Q = some Q') := fun e he ⟨Q', q1, q2⟩ => by
        rw [he] at w2
        obtain ⟨f, b⟩ := e
        obtain ⟨-, -, f1, f2, f3, f4⟩ := w2
        obtain ⟨-, q3, -, -, q4, q5⟩ := q2
        obtain ⟨R', r1, r2, r3, r4⟩ := tlC_F (w := w) (v2 := nI (tB T n p)) (v3 := v3) (v4 := v4) (P := R) (by rw [f3]; exact nI_ne0 (by omega) (by omega)) R10 hd
        refine ⟨f, b, R', Q', f1, f2, ?_, q1, r2.trans f3, r3.trans f4, q4, q5, oR.cf.tr r4, q3⟩
        rw [x2, r1, Option.bind_some, rd_F (by rw [r2, f3]; exact nI_ne0 (by omega) (by omega))]
      by_cases c : w < 11
      · obtain ⟨Q', q1, q2, q3, q4, q5⟩ := mw1 c
        cases he : rHd T n w (tE T n p) with
        | inl e => exact Or.inr (flt e he ⟨Q', q1, by rw [← he]; exact q2⟩)
        | inr q =>
          refine Or.inl ?_
          rw [he] at w2 q2
          obtain ⟨wT, -, wq, w71, w72, w76⟩ := w2
          obtain ⟨qv, z1, z2⟩ := bS_in (show bS (rNum T n w (tE T n p)) (sS T n (sCh w)) = .inr q from he)
          obtain ⟨n1, n2, n3, n4, n5, n6, n7⟩ := rNum_in t.2.1 w14 z1
          have nv3 := n3 (by omega)
          obtain ⟨s1, s2⟩ := sS_in z2
          have tq := tE_le (T := T) n1
          have tqb := tB_le (T := T) n1
          have ql : qv < q := by rw [s2]; have := tq.2.2 (by rw [s1.1]; decide); omega
          obtain ⟨e3, e4, -⟩ := w3 qv z1
          obtain ⟨g1, g2, g3, g4⟩ := q5 q he
          obtain ⟨R2, r1, r2, r3, r4, r5, r6, r7, r8, r9, r10⟩ := sc_add (P := R) R66 (by omega) (nI w) v3 v4 (nI (tB T n p))
          refine ⟨q, sz + 1, mz + 1, k + 1, F1 + 1, 1, R2, Q', by omega, trivial, ⟨wT.cf r10, wq, by rw [r8]; exact w71, by rw [r8, w72]; exact c2, by rw [r8]; exact w76, by rw [r8]; exact R10, r2, by omega⟩, ⟨q2.1, q2.2.2.2.1, q2.2.2.2.2, q3.trans m13, g1, by omega⟩, ?_, by omega, by omega, q1, ?_, ⟨fun r i a b hi => ?_, fun j hj => ?_, oR.cf.tr r10⟩, ⟨q4, q2.2.1⟩⟩
          · rw [x2, tlC_s c w71, r1, Option.bind_some]
          · exact Or.inr ⟨sz + 1, mz + 1, Or.inl ⟨rfl, rfl, w, oneV T n w (tE T n p), twoV T n w (tE T n p), c, r3, by rw [r4, e3], by rw [r5, e4], g2, g3, fun z => ⟨(n4 z).1, (n4 z).2, tB T n p, r6, g4 z⟩, n5, n6⟩, rfl, rfl⟩
          · rw [r7 r i a b (by omega), oR.1 r (by omega)]
          · rw [r9, oR.1 73 (by decide)]
      · obtain ⟨mw3, mw4⟩ := mw2 (by omega)
        cases hN : rNum T n w (tE T n p) with
        | inl e => exact Or.inr (flt e (by unfold rHd; rw [hN]; rfl) (mw3 e hN))
        | inr q =>
          obtain ⟨Q1, a1, a2, a3, a4, a5⟩ := mw4 q hN
          obtain ⟨n1, n2, n3, n4, n5, n6, n7⟩ := rNum_in t.2.1 w14 hN
          have one : 1 ≤ oneV T n w (tE T n p) ∧ oneV T n w (tE T n p) ≤ 12 := by
            by_cases z : w = 11
            · exact n7 z
            · unfold oneV; rw [if_neg (by omega)]; decide
          obtain ⟨i1, i2, i3⟩ := rm_within (rec := Mo_readStatement g) (w := w) a1 (a4.trans m19) (by omega) (a3.trans m13) hd (nI (oneV T n w (tE T n p)))
          have he : rHd T n w (tE T n p) = sS T n 40 q := by unfold rHd; rw [hN, show sCh w = 40 from if_neg c]; rfl
          have f191 : ∀ e, (∃ Q2, Mo_readWithin (Mo_readStatement g) (nI w) (nI (oneV T n w (tE T n p))) Q1 = some Q2 ∧ ResM T n Q Q2 (.inl e)) → ∃ Q', Mo_readStatement (g + 1) Q = some Q' ∧ ResM T n Q Q' (.inl e) := fun e ⟨Q2, y1, y2⟩ => by
            obtain ⟨Q3, y3, y4, -⟩ := rm_191 (rec := Mo_readStatement g) y2
            exact ⟨Q3, by rw [a5, y1, Option.bind_some, y3], y4⟩
          by_cases s40 : sgn T n q 40
          · have he2 : rHd T n w (tE T n p) = .inr (tE T n q) := by rw [he]; unfold sS; rw [if_pos (cP_iff.mpr s40)]
            rw [he2] at w2
            obtain ⟨wT, -, wq, w71, w72, w76⟩ := w2
            obtain ⟨e3, e4, e8⟩ := w3 q hN
            by_cases hd5 : d = 5
            · obtain ⟨Q', y1, y2⟩ := f191 _ (i2 s40 hd5)
              obtain ⟨R', r1, r2, r3, r4⟩ := tlC_deep (w := w) (v2 := nI (tB T n p)) (v3 := v3) (v4 := v4) c w71 (by rw [R10, hd5]) e8
              refine Or.inr ⟨4, tB T n q, R', Q', by decide, by decide, ?_, y1, r2, r3, y2.2.2.2.2.1, y2.2.2.2.2.2, oR.cf.tr r4, y2.2.1⟩
              rw [x2, r1, Option.bind_some, rd_F (by rw [r2]; decide)]
            · obtain ⟨Q2, j1, j2, j3, j4, j5, j6, j7⟩ := i3 s40 (by omega)
              obtain ⟨R2, r1, r2, r3, r4, r5, r6, r7, r8, r9, r10⟩ := tlC_open (w := w) (v2 := nI (tB T n p)) (v3 := v3) (v4 := v4) c w71 R10 (by omega) R66 (by omega)
              have tq := tE_le (T := T) n1
              have tqb := tB_le (T := T) n1
              have tql := tq.2.2 (by rw [s40.1]; decide)
              have long : p + 4 ≤ tE T n q := by
                rcases (show w = 11 ∨ w = 12 ∨ w = 13 by omega) with rfl | rfl | rfl
                · have := n3 (by decide); omega
                · have := wl_long.1; omega
                · have := wl_long.2; omega
              have hc2 : CSx T n (d + 1) (sz + 1) (tE T n q) R2 := ⟨wT.cf r10, tq.2.1, by rw [r3 1 (by decide)]; exact w71, by rw [r3 2 (by decide), w72]; exact c2, by rw [r3 6 (by decide)]; exact w76, r2, r6, by omega⟩
              have hm2 : MSx T n (d + 1) (mz + 1) (tE T n q) Q2 := ⟨j2.1, j2.2.2.2.1, j2.2.2.2.2, j3, j4, by omega⟩
              have hX : Re_read_47 (F1 + 1 + 1) (nI k) P = Re_read_47 (F1 + 1) (nI (k + 1)) R2 := by rw [x2, r1, Option.bind_some]
              have hY : Mo_readStatement (g + 1) Q = (Mo_readWithin_46 (Mo_readStatement g) bigN Q2).bind (Mo_readStatement_191 (Mo_readStatement g)) := by rw [a5, j1]
              have oQ2 : oPs Q Q2 := j2.2.1
              have oR2 : oCf P R2 := oR.cf.tr r10
              rcases lp_run (Lp := Mo_readWithin_46 (Mo_readStatement g)) (En := Mo_readWithin_69 (Mo_readStatement g)) (d := d + 1) (g := g) (fun G Q h => by rw [rm_46eq, if_neg h]) (fun G p Q h1 h2 h3 h4 h5 => by
                have h5 : sgn T n p 41 := by unfold stq at h5; rwa [if_neg (by omega)] at h5
                have e : Mo_isSign (41 : Int32) Q = some 1 := (mo_isSg h1 h3 h4 (c := 41) (by decide)).1 h5
                rw [rm_46eq, if_pos h4, e, Option.bind_some, if_neg (by decide)]) (fun G p Q h1 h2 h3 h4 h5 => by
                have h5 : ¬ sgn T n p 41 := by unfold stq at h5; rwa [if_neg (by omega)] at h5
                have e : Mo_isSign (41 : Int32) Q = some 0 := (mo_isSg h1 h3 h4 (c := 41) (by decide)).2 h5
                rw [rm_46eq, if_pos h4, e, Option.bind_some, if_pos rfl]) (n - tE T n q) (tE T n q) (Nat.le_refl _) tq.2.1 (fun p' _ h => ih (d + 1) p' (by omega) (by omega) h) (sz + 1) (mz + 1) R2 Q2 (F1 + 1) (k + 1) bigN hc2 hm2 (by omega) (by omega) (big_gt (by omega)) with ⟨p', sz', mz', k', F', g', P', Q', o1, o2, ⟨u1, u2, u3, u4, u5, u6, u7, u8⟩, ⟨y1, y2, y3, y4, y5, y6⟩, o5, o6, o7, o8, o9, o10, o11⟩ | ⟨f, b, P', Q', f1, f2, f3, f4, f5, f6, f7, f8, f9, f10⟩
              · have o8 : Mo_readWithin_46 (Mo_readStatement g) bigN Q2 = Mo_readWithin_69 (Mo_readStatement g) Q' := o8
                have s41 : sgn T n p' 41 := by unfold stq at o2; rwa [if_neg (by omega)] at o2
                obtain ⟨F2, rfl⟩ : ∃ F2, F' = F2 + 1 + 1 := ⟨F' - 2, by omega⟩
                have le := SG_le _ _ _ _ _ _ o9
                have t' := tE_le (T := T) u2
                have tl' := t'.2.2 (by rw [s41.1]; decide)
                have tb' := tB_le (T := T) u2
                obtain ⟨x', x3, x4⟩ := rd_close (k := k') (F := F2 + 1) u1 u2 u3 u5 (by omega) (d := d + 1) (by omega) (by omega) u6 s41
                obtain ⟨y, x5, x6, -⟩ := rc_sign (c := 59) x3 (by decide) (by decide)
                have x5 : Re_sign (59 : Int32) x' = some y := x5
                have x6 : ResC T n P' y (sS T n 59 (tE T n p')) := x6
                have oy : oTk P' y := x6.2.1
                have yk : ∀ r, r ≠ 71 → y.1 r = P'.1 r := oy.1
                obtain ⟨W, v1, v2, v5, v6, v7, v8, v9, v10, v11⟩ := re_closed (P := y) (d := d) (i := sz) (sz := sz') (by omega) ((oy.2.1 10 (by decide) (by decide) (by decide) (by decide) (by decide) (by decide)).trans u6) (by rw [yk 73 (by decide), o10.2.1 d (by omega)]; exact r4) (by rw [yk 66 (by decide)]; exact u7) (by omega) (by omega) (fun k a b => by rw [yk 67 (by decide)]; exact SG_w _ _ _ _ _ _ o9 k (by omega) b)
                obtain ⟨Q3, k1, k2, k3, k4, k5, k6⟩ := rm_closed (rec := Mo_readStatement g) (P0 := Q') (P := Q') (q := p') ⟨y1, oPs.rf Q', u2, y2, y3⟩ s41 y5 (by omega) y4 (by omega)
                have hY2 : Mo_readStatement (g + 1) Q = some Q3 := by rw [hY, o8, k1]
                have hX2 : Re_read_47 (F1 + 1 + 1) (nI k) P = Re_read_47 (F2 + 1) (nI (k' + 1)) W := by rw [hX, o5, x4, x5, Option.bind_some, v1, Option.bind_some]
                cases hr : sS T n 59 (tE T n p') with
                | inl e =>
                  obtain ⟨f, b⟩ := e
                  rw [hr] at x6 k2
                  obtain ⟨-, -, f1, f2, f3, f4⟩ := x6
                  obtain ⟨-, l1, -, -, l2, l3⟩ := k2
                  refine Or.inr ⟨f, b, W, Q3, f1, f2, ?_, hY2, (v10 1 (by decide)).trans f3, (v10 2 (by decide)).trans f4, l2, l3, (oR2.tr o10.2.2).tr (oy.cf.tr v11), (oQ2.tr o11.2).tr l1⟩
                  rw [hX2, rd_F (by rw [v10 1 (by decide), f3]; exact nI_ne0 (by omega) (by omega))]
                | inr q3 =>
                  rw [hr] at x6 k2
                  obtain ⟨xT, -, f0, f1, f2, f6⟩ := x6
                  obtain ⟨l0, l1, l2, l3, l4⟩ := k2
                  obtain ⟨s5, s6⟩ := sS_in hr
                  have t3 := tE_le (T := T) t'.2.1
                  have tb3 := tB_le (T := T) t'.2.1
                  have tl3 := t3.2.2 (by rw [s5.1]; decide)
                  have W67 : ∀ i, W.1 67 i = P'.1 67 i := fun i => by rw [v7 67 i (by decide) (by decide) (by omega), yk 67 (by decide)]
                  refine Or.inl ⟨q3, sz', mz' + 1, k' + 1, F2 + 1, g' + 1, W, Q3, by omega, trivial, ⟨xT.cf v11, f0, by rw [v10 1 (by decide)]; exact f1, by rw [v10 2 (by decide), f2]; exact u4, by rw [v10 6 (by decide)]; exact f6, v2, by rw [v8, yk 66 (by decide)]; exact u7, by omega⟩, ⟨l0, l3, l4, k3, k4, by omega⟩, hX2, by omega, by omega, hY2, ?_, ⟨fun r i a b hi => ?_, fun j hj => ?_, (oR2.tr o10.2.2).tr (oy.cf.tr v11)⟩, ⟨fun j hj => ?_, (oQ2.tr o11.2).tr l1⟩⟩
                  · refine Or.inr ⟨sz', mz' + 1, Or.inr ⟨w, oneV T n w (tE T n p), mz', by omega, w14, one.1, one.2, by omega, rfl, ?_, v5, ?_, ?_, ?_, k5, ?_⟩, SG_rf _ _ _ _⟩
                    · rw [W67, o10.1 67 sz (by decide) (by decide) (by omega)]; exact r7
                    · have dW : drB W.1 sz sz' ↔ drB y.1 sz sz' := drB_cong (fun k _ _ => by rw [v7 67 k (by decide) (by decide) (by omega)])
                      rcases v6 with ⟨z1, z2⟩ | ⟨z1, z2⟩
                      · refine Or.inl ⟨dW.mpr z1, ?_⟩
                        rw [z2, yk 68 (by decide), o10.1 68 sz (by decide) (by decide) (by omega), r8, e3]
                      · exact Or.inr ⟨fun z => z1 (dW.mp z), z2⟩
                    · rw [k6 (4 * mz) (by omega), o11.1 (4 * mz) (by omega)]; exact j5
                    · rw [k6 (4 * mz + 1) (by omega), o11.1 (4 * mz + 1) (by omega)]; exact j6
                    · exact SG_cong _ _ _ _ _ _ (fun r i a b a2 b2 => by rw [v7 r i a b (by omega), yk r (by omega)]) (fun x _ b => k6 x b) o9
                  · rw [v7 r i a b (by omega), yk r (by omega), o10.1 r i a b (by omega), r9 r i a b (by omega), oR.1 r (by omega)]
                  · rw [v9, yk 73 (by decide), o10.2.1 j (by omega), r5 j (by omega), oR.1 73 (by decide)]
                  · rw [k6 j (by omega), o11.1 j (by omega), j7 j hj, a2]
              · have f4 : Mo_readWithin_46 (Mo_readStatement g) bigN Q2 = Mo_readWithin_69 (Mo_readStatement g) Q' := f4
                obtain ⟨Q3, k1, k2⟩ := rm_69F (rec := Mo_readStatement g) (P0 := Q') (P := Q') (e := (f, b)) ⟨j2.1.kp f10, oPs.rf Q', f1, f2, f7, f8⟩
                obtain ⟨Q4, k3, k4, -⟩ := rm_191 (rec := Mo_readStatement g) k2
                obtain ⟨-, l1, -, -, l2, l3⟩ := k4
                refine Or.inr ⟨f, b, P', Q4, f1, f2, hX.trans f3, ?_, f5, f6, l2, l3, oR2.tr f9, (oQ2.tr f10).tr l1⟩
                show Mo_readStatement (g + 1) Q = some Q4
                rw [hY, f4, k1, Option.bind_some, k3]
          · have he2 : rHd T n w (tE T n p) = .inl (fC T n q 2, tB T n q) := by rw [he]; unfold sS; rw [if_neg (fun z => s40 (cP_iff.mp z))]
            exact Or.inr (flt _ he2 (f191 _ (i1 s40)))
    · have h0 : tK T n p = 0 → 0 < d := fun z => by
        by_cases y : d = 0
        · exact absurd (by unfold stq; rw [if_pos y]; exact z) hns
        · omega
      have h41 : sgn T n p 41 → d = 0 := fun z => by
        by_cases y : d = 0
        · exact y
        · exact absurd (by unfold stq; rw [if_neg y]; exact z) hns
      obtain ⟨y, y1, y2, y3, y4⟩ := rd_bad (k := k) (F := F1 + 1) cT hp c1 c6 (by omega) hd c10 hw h0 h41
      obtain ⟨Q', q1, q2, q3, q4⟩ := rm_bad (g := g) mT hp m14 mR hw
      have fr := fC_rng T n p (k := 2) (by decide) (by decide)
      refine Or.inr ⟨fC T n p 2, tB T n p, y, Q', fr.1, fr.2, ?_, q1, y3, y4, q2, q3, y2.cf, q4⟩
      rw [y1, rd_F (by rw [y3]; exact nI_ne0 (by omega) (by omega))]
end PRS
