/-! DRAWING: a line more, a knot more -/
def addL (D : DT) (h w i : Nat) : DT := (dN D + 1, (fun l => if l = dN D then h else dF D l), (fun l => if l = dN D then w else dW D l), (fun l => if l = dN D then i else dI D l), dK D)
def tieK (D : DT) (h : Nat) : DT := (dN D, dF D, dW D, dI D, fun k => if k = h then true else dK D k)
def N00 : NT := (fun _ => false, fun _ => false, 0, false, 0, 0, false, 0, fun _ => 0)
section LIN
variable {D : DT} {h w t i : Nat}
theorem fsp_succ (p : Nat → Bool) (n : Nat) : fsp p (n + 1) = (match fsp p n with | some i => some i | none => if p n then some n else none) := rfl
theorem add_dT (hs : stp h w = some t) (l : Nat) : dT (addL D h w i) l = if l = dN D then t else dT D l := by
  show (stp (if l = dN D then h else dF D l) (if l = dN D then w else dW D l)).getD 0 = _
  by_cases c : l = dN D
  · rw [if_pos c, if_pos c, if_pos c, hs]; rfl
  · rw [if_neg c, if_neg c, if_neg c]; rfl
theorem add_dF (l : Nat) : dF (addL D h w i) l = if l = dN D then h else dF D l := rfl
theorem add_jn (hs : stp h w = some t) {l : Nat} (hl : l ≠ dN D) (a b : Nat) : jn (addL D h w i) a b l = jn D a b l := by
  unfold jn
  rw [add_dT hs, add_dF, if_neg hl, if_neg hl]
theorem add_jnN (hs : stp h w = some t) (a b : Nat) : jn (addL D h w i) a b (dN D) = true ↔ (h = a ∧ t = b) ∨ (h = b ∧ t = a) := by
  rw [jn_iff, add_dT hs, add_dF, if_pos rfl, if_pos rfl]
theorem no_jn (hs : stp h w = some t) (hn : lnA D h w = none) : ∀ l, l < dN D → jn D h t l = false ∧ jn D t h l = false := fun l hl => by
  unfold lnA at hn
  rw [hs] at hn
  have a := fsp_none hn l hl
  refine ⟨a, ts_nt (fun q => ?_)⟩
  have : jn D h t l = true := by rw [jn_iff] at q ⊢; omega
  rw [a] at this
  cases this
theorem add_WD (hD : WD D) (hN : dN D < 60) (hh : h < 144) (hw : w < 8) (hi : i < 4) (hs : stp h w = some t) (hn : lnA D h w = none) : WD (addL D h w i) := by
  have nj := no_jn hs hn
  refine ⟨show dN D + 1 ≤ 60 by omega, fun l hl => ?_, fun l m hl hm hj => ?_⟩
  · have hl : l < dN D + 1 := hl
    rw [add_dT hs]
    show (if l = dN D then h else dF D l) < 144 ∧ (if l = dN D then w else dW D l) < 8 ∧ (if l = dN D then i else dI D l) < 4 ∧ stp (if l = dN D then h else dF D l) (if l = dN D then w else dW D l) = _
    by_cases c : l = dN D
    · rw [if_pos c, if_pos c, if_pos c, if_pos c]; exact ⟨hh, hw, hi, hs⟩
    · rw [if_neg c, if_neg c, if_neg c, if_neg c]; exact hD.2.1 l (by omega)
  · have hl : l < dN D + 1 := hl
    have hm : m < dN D + 1 := hm
    rw [add_dT hs, add_dF] at hj
    by_cases c : l = dN D
    · rw [if_pos c, if_pos c] at hj
      by_cases c2 : m = dN D
      · omega
      · rw [add_jn hs c2, (nj m (by omega)).1] at hj; cases hj
    · rw [if_neg c, if_neg c] at hj
      by_cases c2 : m = dN D
      · rw [c2, add_jnN hs] at hj
        have : jn D h t l = true := by rw [jn_iff]; omega
        rw [(nj l (by omega)).1] at this; cases this
      · rw [add_jn hs c2] at hj
        exact hD.2.2 l m (by omega) (by omega) hj
theorem add_lnA (hh : h < 144) (hw : w < 8) (hs : stp h w = some t) (hn : lnA D h w = none) {a v : Nat} (ha : a < 144) (hv : v < 8) : lnA (addL D h w i) a v = if (a = h ∧ v = w) ∨ (a = t ∧ v = (w + 4) % 8) then some (dN D) else lnA D a v := by
  have nj := no_jn hs hn
  have st := stp_some hh hw hs
  have low : ∀ s, fsp (jn (addL D h w i) a s) (dN D) = fsp (jn D a s) (dN D) := fun s => fsp_cong (fun l hl => add_jn hs (by omega) a s)
  by_cases c : (a = h ∧ v = w) ∨ (a = t ∧ v = (w + 4) % 8)
  · rw [if_pos c]
    rcases c with ⟨rfl, rfl⟩ | ⟨rfl, rfl⟩
    · unfold lnA
      rw [hs]
      show fsp (jn (addL D a v i) a t) (dN D + 1) = _
      refine fsp_is (by omega) ((add_jnN hs a t).mpr (Or.inl ⟨rfl, rfl⟩)) (fun j hj => ?_)
      rw [add_jn hs (by omega)]
      exact (nj j hj).1
    · unfold lnA
      rw [st.2.2]
      show fsp (jn (addL D h w i) a h) (dN D + 1) = _
      refine fsp_is (by omega) ((add_jnN hs a h).mpr (Or.inr ⟨rfl, rfl⟩)) (fun j hj => ?_)
      rw [add_jn hs (by omega)]
      exact (nj j hj).2
  · rw [if_neg c]
    unfold lnA
    cases e : stp a v with
    | none => rfl
    | some s =>
      show fsp (jn (addL D h w i) a s) (dN D + 1) = fsp (jn D a s) (dN D)
      have z : jn (addL D h w i) a s (dN D) = false := ts_nt (fun q => by
        rw [add_jnN hs] at q
        refine c ?_
        rcases q with ⟨q1, q2⟩ | ⟨q1, q2⟩
        · subst q1 q2; exact Or.inl ⟨rfl, stp_inj ha hv hw e hs⟩
        · subst q1 q2; exact Or.inr ⟨rfl, stp_inj ha hv (by omega) e st.2.2⟩)
      rw [fsp_succ, low, z]
      cases fsp (jn D a s) (dN D) <;> rfl
/-! the class's cells -/
theorem dr_lead {d N : Nat} {P : PH} {a v : Nat} (ha : a < 144) (hv : v < 8) (h0 : P.1 d 0 = nI N) : Dr_lead d (nI a) (nI v) P = some (sL (sI P (d + 4) (a * 8 + v) (nI (N + 1))) (d + 5) a (P.2 (d + 5) a ||| ((1 : Int64) <<< ((nI N).toInt64 &&& 63)))) := by
  unfold Dr_lead
  have e : nI a * (8 : Int32) + nI v = nI (a * 8 + v) := by rw [show (8 : Int32) = nI 8 from rfl, pk_mul, nI_add]
  have e0 : (sI P (d + 4) (a * 8 + v) (nI (N + 1))).1 d 0 = nI N := by rw [rowI_o _ _ _ (by omega)]; exact h0
  rw [e, Option.bind_some, if_neg (show ¬ nI a < 0 from nI_pos (by omega)), if_neg (show ¬ (144 : Int32) ≤ nI a from (show ¬ nI 144 ≤ nI a from nI_ge ha (by decide))), if_neg (show ¬ nI (a * 8 + v) < 0 from nI_pos (by omega)), if_neg (show ¬ (1152 : Int32) ≤ nI (a * 8 + v) from (show ¬ nI 1152 ≤ nI (a * 8 + v) from nI_ge (by omega) (by decide))), z_gd (by omega) (by decide), z_cl (by omega), h0, nI_1, Option.bind_some, z_gd ha (by decide), z_gd ha (by decide), z_cl (by omega), e0, Option.bind_some]
  rfl
/-- the class's drawing alone may change -/
def oDr (d : Nat) (P Q : PH) : Prop := ∀ n, n < d ∨ d + 8 ≤ n → Q.1 n = P.1 n ∧ Q.2 n = P.2 n
theorem oDr.rf (d : Nat) (P : PH) : oDr d P P := fun _ _ => ⟨rfl, rfl⟩
theorem oDr.tr {d : Nat} {P Q R : PH} (h : oDr d P Q) (h2 : oDr d Q R) : oDr d P R := fun n a => ⟨(h2 n a).1.trans (h n a).1, (h2 n a).2.trans (h n a).2⟩
theorem oDr.sI {d : Nat} {P Q : PH} (h : oDr d P Q) {a : Nat} (ha : d ≤ a) (hb : a < d + 8) (k : Nat) (v : Int32) : oDr d P (sI Q a k v) := fun n z => ⟨by rw [rowI_o _ _ _ (by omega)]; exact (h n z).1, (h n z).2⟩
theorem oDr.sL {d : Nat} {P Q : PH} (h : oDr d P Q) {a : Nat} (ha : d ≤ a) (hb : a < d + 8) (k : Nat) (v : Int64) : oDr d P (sL Q a k v) := fun n z => ⟨(h n z).1, by rw [rowL_o _ _ _ (by omega)]; exact (h n z).2⟩
theorem dr_draw {d : Nat} {P : PH} (hD : WD D) (hC : CD d D P) (hN : dN D < 60) (hh : h < 144) (hw : w < 8) (hi : i < 4) (hs : stp h w = some t) (hn : lnA D h w = none) : ∃ Q, Dr_draw d (nI h) (nI w) (nI t) (nI i) P = some Q ∧ CD d (addL D h w i) Q ∧ oDr d P Q := by
  obtain ⟨c0, c1, c2, c3, c4, c5, c6⟩ := hC
  have st := stp_some hh hw hs
  obtain ⟨N, hNe⟩ : ∃ N, N = dN D := ⟨_, rfl⟩
  obtain ⟨b, hb⟩ : ∃ b : Int64, b = (1 : Int64) <<< ((nI N).toInt64 &&& 63) := ⟨_, rfl⟩
  obtain ⟨P1, h1⟩ : ∃ P1, P1 = sI P (d + 1) N (nI h) := ⟨_, rfl⟩
  obtain ⟨P2, h2⟩ : ∃ P2, P2 = sI P1 (d + 2) N (nI t) := ⟨_, rfl⟩
  obtain ⟨P3, h3⟩ : ∃ P3, P3 = sI P2 (d + 3) N (nI i) := ⟨_, rfl⟩
  obtain ⟨P4, h4⟩ : ∃ P4, P4 = sL P3 (d + 6) i (P3.2 (d + 6) i ||| b) := ⟨_, rfl⟩
  obtain ⟨P5, h5⟩ : ∃ P5, P5 = sL (sI P4 (d + 4) (h * 8 + w) (nI (N + 1))) (d + 5) h (P4.2 (d + 5) h ||| b) := ⟨_, rfl⟩
  obtain ⟨P6, h6⟩ : ∃ P6, P6 = sL (sI P5 (d + 4) (t * 8 + (w + 4) % 8) (nI (N + 1))) (d + 5) t (P5.2 (d + 5) t ||| b) := ⟨_, rfl⟩
  obtain ⟨P7, h7⟩ : ∃ P7, P7 = sI P6 d 0 (nI (N + 1)) := ⟨_, rfl⟩
  have c0 : P.1 d 0 = nI N := by rw [hNe]; exact c0
  have r1 : P1.1 d = P.1 d := by rw [h1, rowI_o _ _ _ (by omega)]
  have r2 : P2.1 d = P.1 d := by rw [h2, rowI_o _ _ _ (by omega), r1]
  have r3 : P3.1 d = P.1 d := by rw [h3, rowI_o _ _ _ (by omega), r2]
  have r4 : P4.1 d = P.1 d := by rw [h4]; exact r3
  have r5 : P5.1 d = P.1 d := by rw [h5]; show (sI P4 (d + 4) _ _).1 d = _; rw [rowI_o _ _ _ (by omega), r4]
  have r6 : P6.1 d = P.1 d := by rw [h6]; show (sI P5 (d + 4) _ _).1 d = _; rw [rowI_o _ _ _ (by omega), r5]
  have iF : ∀ m, m ≠ d + 4 → P6.1 m = P3.1 m := fun m hm => by
    rw [h6]; show (sI P5 (d + 4) _ _).1 m = _
    rw [rowI_o _ _ _ hm, h5]; show (sI P4 (d + 4) _ _).1 m = _
    rw [rowI_o _ _ _ hm, h4]; rfl
  have l3 : P3.2 = P.2 := by rw [h3, h2, h1]; rfl
  have l4 : ∀ m, m ≠ d + 6 → P4.2 m = P.2 m := fun m hm => by rw [h4, rowL_o _ _ _ hm, l3]
  have l5 : ∀ m, m ≠ d + 5 → P5.2 m = P4.2 m := fun m hm => by rw [h5, rowL_o _ _ _ hm]; rfl
  have l6 : ∀ m, m ≠ d + 5 → P6.2 m = P5.2 m := fun m hm => by rw [h6, rowL_o _ _ _ hm]; rfl
  have l7 : P7.2 = P6.2 := by rw [h7]; rfl
  have i7 : ∀ m, m ≠ d → P7.1 m = P6.1 m := fun m hm => by rw [h7, rowI_o _ _ _ hm]
  have bb : ∀ j, bL b j = decide (j = N) := fun j => by rw [hb]; exact bL_sh (by omega) j
  refine ⟨P7, ?_, ⟨?_, ?_, fun l hl => ?_, fun a ha v hv => ?_, fun a ha j hj => ?_, fun k hk j hj => ?_, fun k hk => ?_⟩, ?_⟩
  · unfold Dr_draw
    rw [if_neg (show ¬ nI i < 0 from nI_pos (by omega)), if_neg (show ¬ (4 : Int32) ≤ nI i from (show ¬ nI 4 ≤ nI i from nI_ge hi (by decide))), c0, if_neg (show ¬ nI N < 0 from nI_pos (by omega)), if_pos (show nI N < (60 : Int32) from (show nI N < nI 60 from nI_lt (by omega) (by decide))), z_gd (by omega) (by decide), z_cl (by omega), Option.bind_some, ← h1, r1, c0, z_gd (by omega) (by decide), z_cl (by omega), Option.bind_some, ← h2, r2, c0, z_gd (by omega) (by decide), z_cl (by omega), Option.bind_some, ← h3, r3, c0, z_gd hi (by decide), z_gd hi (by decide), z_cl (by omega), Option.bind_some, ← hb, ← h4, dr_lead hh hw (by rw [r4]; exact c0), Option.bind_some, ← hb, ← h5]
    rw [show (nI w + (4 : Int32)) &&& (7 : Int32) = nI ((w + 4) % 8) from by rw [show (4 : Int32) = nI 4 from rfl, nI_add]; exact fa_mask _ 3, dr_lead st.1 (by omega) (by rw [r5]; exact c0), Option.bind_some, ← hb, ← h6, r6, c0, nI_1, Option.bind_some, ← h7]
  · rw [h7, rowI_s, pk_us, hNe]; rfl
  · rw [h7, rowI_s, pk_un (by decide), r6]; exact c1
  · have hl : l < dN D + 1 := hl
    rw [i7 _ (by omega), i7 _ (by omega), i7 _ (by omega), iF _ (by omega), iF _ (by omega), iF _ (by omega), add_dT hs]
    have e1 : P3.1 (d + 1) l = if l = N then nI h else P.1 (d + 1) l := by
      rw [h3, rowI_o _ _ _ (by omega), h2, rowI_o _ _ _ (by omega), h1, rowI_s]
      by_cases c : l = N
      · rw [c, pk_us, if_pos rfl]
      · rw [pk_un c, if_neg c]
    have e2 : P3.1 (d + 2) l = if l = N then nI t else P.1 (d + 2) l := by
      rw [h3, rowI_o _ _ _ (by omega), h2, rowI_s]
      by_cases c : l = N
      · rw [c, pk_us, if_pos rfl]
      · rw [pk_un c, if_neg c, h1, rowI_o _ _ _ (by omega)]
    have e3 : P3.1 (d + 3) l = if l = N then nI i else P.1 (d + 3) l := by
      rw [h3, rowI_s]
      by_cases c : l = N
      · rw [c, pk_us, if_pos rfl]
      · rw [pk_un c, if_neg c, h2, rowI_o _ _ _ (by omega), h1, rowI_o _ _ _ (by omega)]
    rw [e1, e2, e3]
    show _ = nI (if l = dN D then h else dF D l) ∧ _ ∧ _ = nI (if l = dN D then i else dI D l)
    by_cases c : l = dN D
    · rw [if_pos (c.trans hNe.symm), if_pos (c.trans hNe.symm), if_pos (c.trans hNe.symm), if_pos c, if_pos c, if_pos c]; exact ⟨rfl, rfl, rfl⟩
    · have c' : ¬ l = N := fun z => c (z.trans hNe)
      rw [if_neg c', if_neg c', if_neg c', if_neg c, if_neg c, if_neg c]; exact c2 l (by omega)
  · rw [i7 _ (by omega), add_lnA hh hw hs hn ha hv, h6]
    show (sI P5 (d + 4) _ _).1 (d + 4) _ = _
    rw [rowI_s]
    by_cases z2 : a = t ∧ v = (w + 4) % 8
    · rw [z2.1, z2.2, pk_us, if_pos (Or.inr ⟨rfl, rfl⟩), hNe]; rfl
    · rw [pk_un (by omega), h5]
      show (sI P4 (d + 4) _ _).1 (d + 4) _ = _
      rw [rowI_s]
      by_cases z1 : a = h ∧ v = w
      · rw [z1.1, z1.2, pk_us, if_pos (Or.inl ⟨rfl, rfl⟩), hNe]; rfl
      · rw [pk_un (by omega), if_neg (fun q => q.elim z1 z2), h4]
        show P3.1 (d + 4) _ = _
        rw [h3, rowI_o _ _ _ (by omega), h2, rowI_o _ _ _ (by omega), h1, rowI_o _ _ _ (by omega)]
        exact c3 a ha v hv
  · have old := c4 a ha j hj
    have e5 : P5.2 (d + 5) a = if a = h then P.2 (d + 5) h ||| b else P.2 (d + 5) a := by
      rw [h5, rowL_s]
      by_cases z : a = h
      · rw [z, pk_uLs, if_pos rfl, l4 _ (by omega)]
      · rw [pk_uLn z, if_neg z]
        show P4.2 (d + 5) a = _
        rw [l4 _ (by omega)]
    have e5t : P5.2 (d + 5) t = P.2 (d + 5) t := by
      rw [h5, rowL_s, pk_uLn st.2.1]
      show P4.2 (d + 5) t = _
      rw [l4 _ (by omega)]
    have e : bL (P7.2 (d + 5) a) j = (bL (P.2 (d + 5) a) j || (decide (j = N) && (decide (h = a) || decide (t = a)))) := by
      rw [l7, h6, rowL_s]
      by_cases z2 : a = t
      · rw [z2, pk_uLs, bL_or, bb, e5t, decide_eq_true (show t = t from rfl), Bool.or_true, Bool.and_true]
      · rw [pk_uLn z2]
        show bL (P5.2 (d + 5) a) j = _
        rw [e5, decide_eq_false (show ¬ t = a from fun q => z2 q.symm), Bool.or_false]
        by_cases z1 : a = h
        · rw [if_pos z1, bL_or, bb, z1, decide_eq_true (show h = h from rfl), Bool.and_true]
        · rw [if_neg z1, decide_eq_false (show ¬ h = a from fun q => z1 q.symm), Bool.and_false, Bool.or_false]
    rw [e, old]
    unfold dat
    rw [add_dT hs, add_dF]
    by_cases c : j = dN D
    · rw [if_pos c, if_pos c, decide_eq_true (show j = N from c.trans hNe.symm), decide_eq_false (show ¬ j < dN D by omega), decide_eq_true (show j < dN (addL D h w i) from (show j < dN D + 1 by omega)), Bool.false_and, Bool.false_or]
    · rw [if_neg c, if_neg c, decide_eq_false (show ¬ j = N from fun q => c (q.trans hNe)), Bool.false_and, Bool.or_false]
      have : decide (j < dN (addL D h w i)) = decide (j < dN D) := by
        show decide (j < dN D + 1) = _
        exact decide_eq_decide.mpr (by omega)
      rw [this]
  · have old := c5 k hk j hj
    have e : bL (P7.2 (d + 6) k) j = (bL (P.2 (d + 6) k) j || (decide (j = N) && decide (i = k))) := by
      rw [l7, l6 _ (by omega), l5 _ (by omega), h4, rowL_s]
      by_cases z : k = i
      · rw [z, pk_uLs, bL_or, bb, l3, decide_eq_true (show i = i from rfl), Bool.and_true]
      · rw [pk_uLn z, l3, decide_eq_false (show ¬ i = k from fun q => z q.symm), Bool.and_false, Bool.or_false]
    rw [e, old]
    show _ = (decide (j < dN D + 1) && decide ((if j = dN D then i else dI D j) = k))
    by_cases c : j = dN D
    · rw [if_pos c, decide_eq_true (show j = N from c.trans hNe.symm), decide_eq_false (show ¬ j < dN D by omega), decide_eq_true (show j < dN D + 1 by omega), Bool.false_and, Bool.false_or]
    · rw [if_neg c, decide_eq_false (show ¬ j = N from fun q => c (q.trans hNe)), Bool.false_and, Bool.or_false]
      have : decide (j < dN D + 1) = decide (j < dN D) := decide_eq_decide.mpr (by omega)
      rw [this]
  · rw [i7 _ (by omega), iF _ (by omega), h3, rowI_o _ _ _ (by omega), h2, rowI_o _ _ _ (by omega), h1, rowI_o _ _ _ (by omega)]
    exact c6 k hk
  · rw [h7, h6, h5, h4, h3, h2, h1]
    exact ((((((((((oDr.rf d P).sI (by omega) (by omega) _ _).sI (by omega) (by omega) _ _).sI (by omega) (by omega) _ _).sL (by omega) (by omega) _ _).sI (by omega) (by omega) _ _).sL (by omega) (by omega) _ _).sI (by omega) (by omega) _ _).sL (by omega) (by omega) _ _).sI (by omega) (by omega) _ _)
/-- a knot tied -/
theorem tie_lnA (a v : Nat) : lnA (tieK D h) a v = lnA D a v := rfl
theorem tie_WD (hD : WD D) : WD (tieK D h) := hD
theorem dr_tie {d : Nat} {P : PH} (hC : CD d D P) (hh : h < 144) : ∃ Q, Dr_tie d (nI h) P = some Q ∧ CD d (tieK D h) Q ∧ oDr d P Q := by
  obtain ⟨c0, c1, c2, c3, c4, c5, c6⟩ := hC
  unfold Dr_tie
  rw [if_neg (show ¬ nI h < 0 from nI_pos (by omega)), if_neg (show ¬ (144 : Int32) ≤ nI h from (show ¬ nI 144 ≤ nI h from nI_ge hh (by decide))), z_gd hh (by decide), z_cl (by omega), c6 h hh]
  cases e : dK D h
  · rw [if_pos (by decide), z_gd hh (by decide), Option.bind_some, rowI_o _ _ _ (by omega), c1, nI_1, Option.bind_some]
    have i4 : ∀ m, m ≠ d → m ≠ d + 7 → (sI (sI P (d + 7) h (1 : Int32)) d 1 (nI (fb_ct (dK D) 144 + 1))).1 m = P.1 m := fun m a b => by rw [rowI_o _ _ _ a, rowI_o _ _ _ b]
    refine ⟨_, rfl, ⟨?_, ?_, ?_, ?_, c4, c5, fun k hk => ?_⟩, ((oDr.rf d P).sI (by omega) (by omega) _ _).sI (by omega) (by omega) _ _⟩
    · rw [rowI_s, pk_un (by decide), rowI_o _ _ _ (by omega)]; exact c0
    · rw [rowI_s, pk_us]
      show _ = nI (fb_ct (fun k => if k = h then true else dK D k) 144)
      rw [ct_in hh e]
    · rw [i4 _ (by omega) (by omega), i4 _ (by omega) (by omega), i4 _ (by omega) (by omega)]; exact c2
    · rw [i4 _ (by omega) (by omega)]; exact c3
    · rw [rowI_o _ _ _ (by omega), rowI_s]
      show _ = nI (if (if k = h then true else dK D k) then 1 else 0)
      by_cases z : k = h
      · rw [z, pk_us, if_pos rfl]; rfl
      · rw [pk_un z, if_neg z]; exact c6 k hk
  · rw [if_neg (by decide)]
    have e2 : tieK D h = D := by
      have : (fun k => if k = h then true else dK D k) = dK D := funext (fun k => by
        by_cases z : k = h
        · rw [if_pos z, z, e]
        · rw [if_neg z])
      unfold tieK
      rw [this]
    rw [e2]
    exact ⟨P, rfl, ⟨c0, c1, c2, c3, c4, c5, c6⟩, oDr.rf d P⟩
/-! the reference's row -/
theorem rd_add {R : Nat → Int32} (hs : stp h w = some t) (hD : WD D) (hN : dN D < 60) (hR : RD D R) (hR2 : RN D N00 R) {R' : Nat → Int32} (e0 : R' 0 = nI (dN D + 1)) (e1 : R' (8 + 4 * dN D) = nI h) (e2 : R' (8 + 4 * dN D + 1) = nI w) (e3 : R' (8 + 4 * dN D + 2) = nI i) (e4 : R' (8 + 4 * dN D + 3) = nI 0) (eo : ∀ k, k ≠ 0 → (k < 8 + 4 * dN D ∨ 8 + 4 * dN D + 3 < k) → R' k = R k) : RD (addL D h w i) R' ∧ RN (addL D h w i) N00 R' := by
  obtain ⟨a1, a2, a3⟩ := hR
  obtain ⟨b1, b2, b3, -⟩ := hR2
  refine ⟨⟨e0, fun l hl => ?_, fun k hk => by rw [eo _ (by omega) (by omega)]; exact a3 k hk⟩, fun l hl => ?_, by rw [eo 1 (by decide) (by omega)]; exact b2, by rw [eo 2 (by decide) (by omega)]; exact b3, fun q => by cases q⟩
  · have hl : l < dN D + 1 := hl
    show _ = nI (if l = dN D then h else dF D l) ∧ _ = nI (if l = dN D then w else dW D l) ∧ _ = nI (if l = dN D then i else dI D l)
    by_cases c : l = dN D
    · rw [if_pos c, if_pos c, if_pos c, c]; exact ⟨e1, e2, e3⟩
    · rw [if_neg c, if_neg c, if_neg c, eo _ (by omega) (by omega), eo _ (by omega) (by omega), eo _ (by omega) (by omega)]
      exact a2 l (by omega)
  · have hl : l < dN D + 1 := hl
    by_cases c : l = dN D
    · rw [c]; exact e4
    · rw [eo _ (by omega) (by omega)]; exact b1 l (by omega)
theorem rd_tie {R : Nat → Int32} (hD : WD D) (hh : h < 144) (hR : RD D R) (hR2 : RN D N00 R) {R' : Nat → Int32} (e0 : R' (248 + h) = nI 1) (eo : ∀ k, k ≠ 248 + h → R' k = R k) : RD (tieK D h) R' ∧ RN (tieK D h) N00 R' := by
  obtain ⟨a1, a2, a3⟩ := hR
  obtain ⟨b1, b2, b3, -⟩ := hR2
  have h60 := hD.1
  refine ⟨⟨by rw [eo 0 (by omega)]; exact a1, fun l hl => ?_, fun k hk => ?_⟩, fun l hl => ?_, by rw [eo 1 (by omega)]; exact b2, by rw [eo 2 (by omega)]; exact b3, fun q => by cases q⟩
  · have hl : l < dN D := hl
    rw [eo _ (by omega), eo _ (by omega), eo _ (by omega)]; exact a2 l hl
  · show _ = nI (if (if k = h then true else dK D k) then 1 else 0)
    by_cases z : k = h
    · rw [z, e0, if_pos rfl]; rfl
    · rw [eo _ (by omega), if_neg z]; exact a3 k hk
  · have hl : l < dN D := hl
    rw [eo _ (by omega)]; exact b1 l hl
end LIN
