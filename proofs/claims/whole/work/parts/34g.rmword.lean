/-! DRAWING: a statement read by the reference -/
section RMW
variable {T : Nat → Nat} {n p : Nat}
theorem rm_13 {P0 P : PH} {r : (Nat × Nat) ⊕ Nat} (h : ResM T n P0 P r) (v : Int32) : ResM T n P0 (sI P 1 13 v) r := by
  obtain ⟨hT, ho, h⟩ := h
  refine ⟨hT.kp ((oPs.rf P).s (by omega) v), ho.s (by omega) v, ?_⟩
  have e : ∀ k, k ≠ 13 → (sI P 1 13 v).1 1 k = P.1 1 k := fun k hk => by rw [rowI_s, pk_un hk]
  cases r with
  | inl e2 =>
    obtain ⟨f, b⟩ := e2
    obtain ⟨h1, h2, h3, h4⟩ := h
    exact ⟨h1, h2, (e 14 (by decide)).trans h3, (e 15 (by decide)).trans h4⟩
  | inr p =>
    obtain ⟨h1, h2, r1, r2, r3, r4, r5⟩ := h
    exact ⟨h1, (e 14 (by decide)).trans h2, (e 9 (by decide)).trans r1, (e 10 (by decide)).trans r2, (e 11 (by decide)).trans r3, fun z => (e 12 (by decide)).trans (r4 z), fun z => (e 12 (by decide)).trans (r5 z)⟩
theorem rm_reads {Q : PH} (hT : TXm T n Q) (hp : p ≤ n) (hb : Q.1 1 14 = 0) (hR : RPt T n p Q) : ∃ Q1, Mo_reads Q = some Q1 ∧ ResM T n Q Q1 (.inr (tE T n p)) ∧ Q1.1 94 = Q.1 94 ∧ Q1.1 1 13 = Q.1 1 13 ∧ Q1.1 1 19 = Q.1 1 19 := by
  obtain ⟨Q1, a1, a2, a3⟩ := mo_reads hT (tE_le hp).2.1 hR.1
  exact ⟨Q1, a1, ⟨hT.keep a3, a3.ps, (tE_le hp).2.1, (a3.2.1 14 (by decide) (by decide) (by decide) (by decide)).trans hb, a2⟩, a3.1 94 (by decide), a3.2.1 13 (by decide) (by decide) (by decide) (by decide), a3.2.1 19 (by decide) (by decide) (by decide) (by decide)⟩
theorem rm_191 {rec : PH → Option PH} {P0 P : PH} {r : (Nat × Nat) ⊕ Nat} (h : ResM T n P0 P r) : ∃ Q, Mo_readStatement_191 rec P = some Q ∧ ResM T n P0 Q (bS r (sS T n 59)) ∧ Q.1 94 = P.1 94 ∧ Q.1 1 13 = P.1 1 13 ∧ Q.1 1 19 = P.1 1 19 := by
  obtain ⟨Q, a1, a2, a3, a4, a5⟩ := rm_sign (c := 59) h (by decide)
  have a1 : Mo_sign (59 : Int32) P = some Q := a1
  refine ⟨Q, ?_, a2, a3, a4, a5⟩
  unfold Mo_readStatement_191
  rw [a1, Option.bind_some]
theorem rm_eq (g : Nat) (Q : PH) : Mo_readStatement (g + 1) Q = Mo_readStatement_step (Mo_readStatement g) Q := rfl
theorem rm_word {g w m : Nat} {Q : PH} (hT : TXm T n Q) (hp : p ≤ n) (hb : Q.1 1 14 = 0) (hR : RPt T n p Q) (hK : tK T n p = 1) (hwd : wdO T (tB T n p) (tE T n p) = some w) (h19 : Q.1 1 19 = nI m) (hm : m < 400) :
    (w < 11 → ∃ Q', Mo_readStatement (g + 1) Q = some Q' ∧ ResM T n Q Q' (rHd T n w (tE T n p)) ∧ Q'.1 1 13 = Q.1 1 13 ∧ (∀ j, j < 4 * m → Q'.1 94 j = Q.1 94 j) ∧ ∀ q, rHd T n w (tE T n p) = .inr q → Q'.1 1 19 = nI (m + 1) ∧ Q'.1 94 (4 * m) = nI w ∧ Q'.1 94 (4 * m + 1) = nI (if w = 8 ∨ w = 10 then 12 * twoV T n w (tE T n p) + oneV T n w (tE T n p) else oneV T n w (tE T n p)) ∧ (w < 8 → Q'.1 94 (4 * m + 3) = nI (tB T n p))) ∧
    (11 ≤ w → (∀ e, rNum T n w (tE T n p) = .inl e → ∃ Q', Mo_readStatement (g + 1) Q = some Q' ∧ ResM T n Q Q' (.inl e)) ∧ ∀ q, rNum T n w (tE T n p) = .inr q → ∃ Q1, ResM T n Q Q1 (.inr q) ∧ Q1.1 94 = Q.1 94 ∧ Q1.1 1 13 = Q.1 1 13 ∧ Q1.1 1 19 = Q.1 1 19 ∧ Mo_readStatement (g + 1) Q = (Mo_readWithin (Mo_readStatement g) (nI w) (nI (oneV T n w (tE T n p))) Q1).bind (Mo_readStatement_191 (Mo_readStatement g))) := by
  have hw : w < 14 := (fsp_some hwd).1
  have wt := (mo_wayT hT hp hR hb).1 w hK hwd
  have wd := (mo_words hT hp hR hb).1 w hK hwd
  obtain ⟨Q1, r1, r2, r3, r4, r5⟩ := rm_reads hT hp hb hR
  have r19 : Q1.1 1 19 = nI m := r5.trans h19
  have no : ∀ i, i < 14 → ¬ i = w → Mo_isWord i Q = some 0 := fun i hi z => by rw [wd i hi, decide_eq_false z]; rfl
  have ye : Mo_isWord w Q = some 1 := by rw [wd w hw, decide_eq_true rfl]; rfl
  rw [rm_eq]
  -- a number, a code, its end
  have fin : ∀ (P0 Q2 : PH) (r : (Nat × Nat) ⊕ Nat) (a b c d : Int32), ResM T n Q Q2 r → Q2.1 94 = Q.1 94 → Q2.1 1 13 = Q.1 1 13 → Q2.1 1 19 = nI m → ∃ Q', ((Mo_code a b c d Q2).bind fun x => Mo_readStatement_191 (Mo_readStatement g) x) = some Q' ∧ ResM T n Q Q' (bS r (sS T n 59)) ∧ Q'.1 1 13 = Q.1 1 13 ∧ (∀ j, j < 4 * m → Q'.1 94 j = Q.1 94 j) ∧ ∀ q, bS r (sS T n 59) = .inr q → Q'.1 1 19 = nI (m + 1) ∧ Q'.1 94 (4 * m) = a ∧ Q'.1 94 (4 * m + 1) = b ∧ Q'.1 94 (4 * m + 3) = d := fun P0 Q2 r a b c d h e94 e13 e19 => by
    obtain ⟨Q3, c1, c2, c3, c4, c5⟩ := rm_code h e19 hm a b c d
    obtain ⟨Q4, d1, d2, d3, d4, d5⟩ := rm_191 (rec := Mo_readStatement g) c2
    rw [c1, Option.bind_some, d1]
    refine ⟨Q4, rfl, d2, d4.trans (c4.trans e13), fun j hj => ?_, fun q hq => ?_⟩
    · rw [d3, c3 j hj, e94]
    · obtain ⟨q1, z1, -⟩ := bS_in hq
      have := c5 q1 z1
      rw [d3, d5]
      exact this
  refine ⟨fun c => ?_, fun c => ?_⟩
  · have sc : sCh w = 59 := if_pos c
    unfold rHd
    rw [sc]
    by_cases c1 : w < 8
    · obtain ⟨a, Q2, a1, a2, a3, a4, a5, a6⟩ := rm_num (lo := 1) (hi := 11) r2 (by decide) (by decide)
      have a1 : Mo_number (1 : Int32) (11 : Int32) Q1 = some (a, Q2) := a1
      have en : rNum T n w (tE T n p) = sN T n 1 11 (tE T n p) := by unfold rNum; rw [if_pos c1]
      obtain ⟨Q', f1, f2, f3, f4, f5⟩ := fin Q Q2 _ (nI w) a (0 : Int32) (nI (tB T n p)) a2 (a3.trans r3) (a4.trans r4) (a5.trans r19)
      refine ⟨Q', ?_, by rw [en]; exact f2, f3, f4, fun q hq => ?_⟩
      · unfold Mo_readStatement_step
        rw [Option.bind_some, wt, if_pos c1, Option.bind_some, if_neg (show ¬ nI w = (-1 : Int32) from nI_nm (by omega)), r1, Option.bind_some, a1, Option.bind_some, hR.2.1]
        exact f1
      · rw [en] at hq
        obtain ⟨q1, z1, z2⟩ := bS_in hq
        obtain ⟨g1, g2, g3, g4⟩ := f5 q hq
        refine ⟨g1, g2, ?_, fun _ => g4⟩
        unfold oneV
        rw [g3, if_neg (show ¬ (w = 8 ∨ w = 10) by omega), if_pos (show w < 12 by omega)]
        exact a6 _ q1 rfl z1
    · have wu : Mo_wayTold Q = some (-1 : Int32) := by rw [wt, if_neg c1]; rfl
      by_cases c2 : w = 9
      · subst c2
        obtain ⟨a, Q2, a1, a2, a3, a4, a5, a6⟩ := rm_num (lo := 0) (hi := 3) r2 (by decide) (by decide)
        have a1 : Mo_number (0 : Int32) (3 : Int32) Q1 = some (a, Q2) := a1
        have en : rNum T n 9 (tE T n p) = sN T n 0 3 (tE T n p) := by unfold rNum; rw [if_neg (by decide), if_pos rfl]
        obtain ⟨Q', f1, f2, f3, f4, f5⟩ := fin Q Q2 _ (9 : Int32) a (0 : Int32) (0 : Int32) a2 (a3.trans r3) (a4.trans r4) (a5.trans r19)
        refine ⟨Q', ?_, by rw [en]; exact f2, f3, f4, fun q hq => ?_⟩
        · unfold Mo_readStatement_step
          rw [Option.bind_some, wu, Option.bind_some, if_pos rfl, no 8 (by decide) (by decide), Option.bind_some, if_pos rfl, no 10 (by decide) (by decide), Option.bind_some, if_pos rfl, ye, Option.bind_some, if_neg (by decide), r1, Option.bind_some, a1, Option.bind_some]
          exact f1
        · rw [en] at hq
          obtain ⟨q1, z1, z2⟩ := bS_in hq
          obtain ⟨g1, g2, g3, g4⟩ := f5 q hq
          refine ⟨g1, g2, ?_, fun z => by omega⟩
          unfold oneV
          rw [g3, if_neg (by decide), if_pos (by decide)]
          exact a6 _ q1 rfl z1
      · have c3 : w = 8 ∨ w = 10 := by omega
        obtain ⟨a, Q2, a1, a2, a3, a4, a5, a6⟩ := rm_num (lo := 0) (hi := 11) r2 (by decide) (by decide)
        have a1 : Mo_number (0 : Int32) (11 : Int32) Q1 = some (a, Q2) := a1
        obtain ⟨a', Q3, b1, b2, b3, b4, b5, b6⟩ := rm_num (lo := 0) (hi := 11) a2 (by decide) (by decide)
        have b1 : Mo_number (0 : Int32) (11 : Int32) Q2 = some (a', Q3) := b1
        have en : rNum T n w (tE T n p) = bS (sN T n 0 11 (tE T n p)) (sN T n 0 11) := by unfold rNum; rw [if_neg c1, if_neg c2, if_neg (by omega), if_pos c]
        obtain ⟨Q', f1, f2, f3, f4, f5⟩ := fin Q Q3 _ (nI w) (((12 : Int32) * a') + a) (0 : Int32) (0 : Int32) b2 (b3.trans (a3.trans r3)) (b4.trans (a4.trans r4)) (b5.trans (a5.trans r19))
        have pl : ((Mo_readPlace (nI w) Q).bind fun x => Mo_readStatement_191 (Mo_readStatement g) x) = some Q' := by
          unfold Mo_readPlace
          rw [r1, Option.bind_some, a1, Option.bind_some, b1, Option.bind_some]
          rw [← f1]
          cases Mo_code (nI w) (12 * a' + a) 0 0 Q3 <;> rfl
        refine ⟨Q', ?_, by rw [en]; exact f2, f3, f4, fun q hq => ?_⟩
        · unfold Mo_readStatement_step
          rw [Option.bind_some, wu, Option.bind_some, if_pos rfl]
          rcases c3 with rfl | rfl
          · rw [ye, Option.bind_some, if_neg (by decide)]
            exact pl
          · rw [no 8 (by decide) (by decide), Option.bind_some, if_pos rfl, ye, Option.bind_some, if_neg (by decide)]
            exact pl
        · rw [en] at hq
          obtain ⟨q2, z3, z4⟩ := bS_in hq
          obtain ⟨q1, z1, z2⟩ := bS_in z3
          obtain ⟨s1, s2⟩ := sN_in z1
          obtain ⟨s3, s4⟩ := sN_in z2
          obtain ⟨g1, g2, g3, g4⟩ := f5 q hq
          refine ⟨g1, g2, ?_, fun z => by omega⟩
          have t1 := a6 _ q1 rfl z1
          have t2 := b6 q1 q2 z1 z2
          have u1 := s1.2.2
          have u2 := s3.2.2
          unfold oneV twoV
          rw [g3, if_pos c3, if_pos (show w < 12 by omega), if_pos c3, t1, t2, s2, show (12 : Int32) = nI 12 from rfl, pk_mul, nI_add]
  · have wu : Mo_wayTold Q = some (-1 : Int32) := by rw [wt, if_neg (by omega)]; rfl
    by_cases c1 : w = 11
    · subst c1
      obtain ⟨a, Q2, a1, a2, a3, a4, a5, a6⟩ := rm_num (lo := 1) (hi := 12) r2 (by decide) (by decide)
      have a1 : Mo_number (1 : Int32) (12 : Int32) Q1 = some (a, Q2) := a1
      have en : rNum T n 11 (tE T n p) = sN T n 1 12 (tE T n p) := by unfold rNum; rw [if_neg (by decide), if_neg (by decide), if_pos rfl]
      have st : Mo_readStatement_step (Mo_readStatement g) Q = if (Q2.1 1 14) = 0 then (Mo_readWithin (Mo_readStatement g) (11 : Int32) a Q2).bind fun x => Mo_readStatement_191 (Mo_readStatement g) x else Mo_readStatement_191 (Mo_readStatement g) Q2 := by
        unfold Mo_readStatement_step
        rw [Option.bind_some, wu, Option.bind_some, if_pos rfl, no 8 (by decide) (by decide), Option.bind_some, if_pos rfl, no 10 (by decide) (by decide), Option.bind_some, if_pos rfl, no 9 (by decide) (by decide), Option.bind_some, if_pos rfl, ye, Option.bind_some, if_neg (by decide), r1, Option.bind_some, a1, Option.bind_some]
      rw [st, en]
      rw [show bS (Sum.inr (tE T n p)) (sN T n 1 12) = sN T n 1 12 (tE T n p) from rfl] at a2
      refine ⟨fun e he => ?_, fun q hq => ?_⟩
      · rw [he] at a2
        obtain ⟨Q', d1, d2, -⟩ := rm_191 (rec := Mo_readStatement g) a2
        obtain ⟨f, b⟩ := e
        have a2' := a2.2.2
        have a14 : Q2.1 1 14 = nI f := a2'.2.2.1
        have ff : 1 ≤ f ∧ f ≤ 4 := ⟨a2'.1, a2'.2.1⟩
        rw [if_neg (by rw [a14]; exact nI_ne0 (by omega) (by omega))]
        exact ⟨Q', d1, d2⟩
      · rw [hq] at a2
        have a14 : Q2.1 1 14 = 0 := a2.2.2.2.1
        refine ⟨Q2, a2, a3.trans r3, a4.trans r4, a5.trans r5, ?_⟩
        rw [if_pos a14]
        have e1 : oneV T n 11 (tE T n p) = tVal T n (tE T n p) := if_pos (by decide)
        rw [e1, ← a6 _ q rfl hq]
        rfl
    · have en : rNum T n w (tE T n p) = .inr (tE T n p) := by unfold rNum; rw [if_neg (by omega), if_neg (by omega), if_neg c1, if_neg (by omega)]
      have e1 : oneV T n w (tE T n p) = 1 := if_neg (by omega)
      rw [en, e1]
      refine ⟨fun e he => (by cases he), fun q hq => ?_⟩
      cases hq
      refine ⟨Q1, r2, r3, r4, r5, ?_⟩
      unfold Mo_readStatement_step
      rw [Option.bind_some, wu, Option.bind_some, if_pos rfl, no 8 (by decide) (by omega), Option.bind_some, if_pos rfl, no 10 (by decide) (by omega), Option.bind_some, if_pos rfl, no 9 (by decide) (by omega), Option.bind_some, if_pos rfl, no 11 (by decide) (by omega), Option.bind_some, if_pos rfl]
      rcases (show w = 12 ∨ w = 13 by omega) with rfl | rfl
      · rw [ye, Option.bind_some, if_neg (by decide), r1, Option.bind_some]
        rfl
      · rw [no 12 (by decide) (by decide), Option.bind_some, if_pos rfl, ye, Option.bind_some, if_neg (by decide), r1, Option.bind_some]
        rfl
theorem rm_bad {g : Nat} {Q : PH} (hT : TXm T n Q) (hp : p ≤ n) (hb : Q.1 1 14 = 0) (hR : RPt T n p Q) (hn : ¬ (tK T n p = 1 ∧ ∃ w, wdO T (tB T n p) (tE T n p) = some w)) : ∃ Q', Mo_readStatement (g + 1) Q = some Q' ∧ Q'.1 1 14 = nI (fC T n p 2) ∧ Q'.1 1 15 = nI (tB T n p) ∧ oPs Q Q' := by
  have wu : Mo_wayTold Q = some (-1 : Int32) := (mo_wayT hT hp hR hb).2 hn
  have wd := (mo_words hT hp hR hb).2 hn
  obtain ⟨Q', b1, b2, b3, b4, b5, b6⟩ := mo_bl0 (k := 2) hR hb
  have b1 : Mo_blames (2 : Int32) Q = some Q' := b1
  have fr := fC_rng T n p (k := 2) (by decide) (by decide)
  refine ⟨Q', ?_, b2, b3, b6⟩
  rw [rm_eq]
  unfold Mo_readStatement_step Mo_readStatement_191
  rw [Option.bind_some, wu, Option.bind_some, if_pos rfl, wd 8 (by decide), Option.bind_some, if_pos rfl, wd 10 (by decide), Option.bind_some, if_pos rfl, wd 9 (by decide), Option.bind_some, if_pos rfl, wd 11 (by decide), Option.bind_some, if_pos rfl, wd 12 (by decide), Option.bind_some, if_pos rfl, wd 13 (by decide), Option.bind_some, if_pos rfl, b1, Option.bind_some, mo_sgF (by rw [b2]; exact nI_ne0 (by omega) (by omega)), Option.bind_some]
/-! within its signs -/
theorem rm_46eq (rec : PH → Option PH) (G : Nat) (P : PH) : Mo_readWithin_46 rec (G + 1) P = if (P.1 1 14) = 0 then (Mo_isSign (41 : Int32) P).bind fun (x56 : Int32) => (if x56 = 0 then (rec P).bind fun (x63 : PH) => Mo_readWithin_46 rec G x63 else Mo_readWithin_69 rec P) else Mo_readWithin_69 rec P := rfl
theorem rm_69F {rec : PH → Option PH} {P0 P : PH} {e : Nat × Nat} (h : ResM T n P0 P (.inl e)) : ∃ Q, Mo_readWithin_69 rec P = some Q ∧ ResM T n P0 Q (.inl e) := by
  obtain ⟨f, b⟩ := e
  have hf : P.1 1 14 = nI f := h.2.2.2.2.1
  have f1 : 1 ≤ f := h.2.2.1
  have f2 : f ≤ 4 := h.2.2.2.1
  have h14 : ¬ P.1 1 14 = 0 := by rw [hf]; exact nI_ne0 (by omega) (by omega)
  refine ⟨sI P 1 13 (P.1 1 13 - 1), ?_, rm_13 h _⟩
  unfold Mo_readWithin_69
  rw [mo_sgF h14, Option.bind_some, Option.bind_some, mo_codeF (by rw [rowI_s, pk_un (by decide)]; exact h14), Option.bind_some]
theorem rm_30F {rec : PH → Option PH} {P0 P : PH} {r : (Nat × Nat) ⊕ Nat} {e : Nat × Nat} (h : ResM T n P0 P r) (hr : bS r (sS T n 40) = .inl e) : ∃ Q, Mo_readWithin_30 rec P = some Q ∧ ResM T n P0 Q (.inl e) := by
  obtain ⟨Q1, a1, a2, -⟩ := rm_sign (c := 40) h (by decide)
  have a1 : Mo_sign (40 : Int32) P = some Q1 := a1
  rw [hr] at a2
  obtain ⟨f, b⟩ := e
  have a3 := rm_13 a2 (Q1.1 1 13 + 1)
  have hf := a3.2.2.2.2.1
  have f1 : 1 ≤ f := a3.2.2.1
  have f2 : f ≤ 4 := a3.2.2.2.1
  obtain ⟨Q, b1, b2⟩ := rm_69F (rec := rec) a3
  obtain ⟨N, hN⟩ : ∃ N, bigN = N + 1 := ⟨bigN - 1, by unfold bigN; omega⟩
  refine ⟨Q, ?_, b2⟩
  unfold Mo_readWithin_30
  rw [a1, Option.bind_some, Option.bind_some, hN, rm_46eq, if_neg (by rw [hf]; exact nI_ne0 (by omega) (by omega)), b1]
/-- opened: amiss, or on -/
theorem rm_within {rec : PH → Option PH} {P0 P : PH} {q m d w : Nat} (h : ResM T n P0 P (.inr q)) (h19 : P.1 1 19 = nI m) (hm : m < 400) (h13 : P.1 1 13 = nI d) (hd : d ≤ 5) (v : Int32) :
    (¬ sgn T n q 40 → ∃ Q, Mo_readWithin rec (nI w) v P = some Q ∧ ResM T n P0 Q (.inl (fC T n q 2, tB T n q))) ∧
    (sgn T n q 40 → d = 5 → ∃ Q, Mo_readWithin rec (nI w) v P = some Q ∧ ResM T n P0 Q (.inl (4, tB T n q))) ∧
    (sgn T n q 40 → d < 5 → ∃ Q, Mo_readWithin rec (nI w) v P = Mo_readWithin_46 rec bigN Q ∧ ResM T n P0 Q (.inr (tE T n q)) ∧ Q.1 1 13 = nI (d + 1) ∧ Q.1 1 19 = nI (m + 1) ∧ Q.1 94 (4 * m) = nI w ∧ Q.1 94 (4 * m + 1) = v ∧ ∀ j, j < 4 * m → Q.1 94 j = P.1 94 j) := by
  obtain ⟨Q1, a1, a2, a3, a4, a5⟩ := rm_code h h19 hm (nI w) v (0 : Int32) (0 : Int32)
  obtain ⟨a6, a7, a8, -⟩ := a5 q rfl
  have a13 := a4.trans h13
  have hp := a2.2.2.1
  have h14 : Q1.1 1 14 = 0 := a2.2.2.2.1
  have hR : RPt T n q Q1 := a2.2.2.2.2
  obtain ⟨s1, s2⟩ := mo_isSg a2.1 hR h14 (c := 40) (by decide)
  refine ⟨fun ns => ?_, fun ys hd5 => ?_, fun ys hd5 => ?_⟩
  · have s2 : Mo_isSign (40 : Int32) Q1 = some 0 := s2 ns
    have e : bS (Sum.inr q) (sS T n 40) = .inl (fC T n q 2, tB T n q) := by
      show sS T n 40 q = _
      unfold sS
      rw [if_neg (fun z => ns (cP_iff.mp z))]
    obtain ⟨Q, b1, b2⟩ := rm_30F (rec := rec) a2 e
    refine ⟨Q, ?_, b2⟩
    unfold Mo_readWithin
    rw [a1, Option.bind_some, s2, Option.bind_some, if_pos rfl, b1]
  · have s1 : Mo_isSign (40 : Int32) Q1 = some 1 := s1 ys
    obtain ⟨Q2, b1, b2, b3, b4, b5, b6⟩ := mo_bl0 (k := 4) hR h14
    have b1 : Mo_blames (4 : Int32) Q1 = some Q2 := b1
    have f4 : fC T n q 4 = 4 := if_neg (by have := ys.1; omega)
    have r2 : ResM T n P0 Q2 (.inl (4, tB T n q)) := ⟨a2.1.kp b6, a2.2.1.tr b6, by decide, by decide, by rw [b2, f4], b3⟩
    obtain ⟨Q, c1, c2⟩ := rm_30F (rec := rec) (e := (4, tB T n q)) r2 rfl
    refine ⟨Q, ?_, c2⟩
    unfold Mo_readWithin
    rw [a1, Option.bind_some, s1, Option.bind_some, if_neg (by decide), if_pos (by rw [a13, hd5]; rfl), b1, Option.bind_some, c1]
  · have s1 : Mo_isSign (40 : Int32) Q1 = some 1 := s1 ys
    obtain ⟨Q2, b1, b2, b3, b4, b5⟩ := rm_sign (c := 40) a2 (by decide)
    have b1 : Mo_sign (40 : Int32) Q1 = some Q2 := b1
    have e : bS (Sum.inr q) (sS T n 40) = .inr (tE T n q) := by
      show sS T n 40 q = _
      unfold sS
      rw [if_pos (cP_iff.mpr ys)]
    rw [e] at b2
    have b13 : Q2.1 1 13 = nI d := b4.trans a13
    refine ⟨sI Q2 1 13 (nI (d + 1)), ?_, rm_13 b2 _, by rw [rowI_s, pk_us], by rw [rowI_s, pk_un (by decide), b5]; exact a6, by rw [rowI_o _ _ _ (by decide), b3]; exact a7, by rw [rowI_o _ _ _ (by decide), b3]; exact a8, fun j hj => by rw [rowI_o _ _ _ (by decide), b3, a3 j hj]⟩
    unfold Mo_readWithin Mo_readWithin_30
    rw [a1, Option.bind_some, s1, Option.bind_some, if_neg (by decide), if_neg (show ¬ Q1.1 1 13 = (5 : Int32) by rw [a13]; exact fun z => by rw [show (5 : Int32) = nI 5 from rfl, z_eq (by omega) (by omega)] at z; omega), b1, Option.bind_some, b13, nI_1, Option.bind_some]
/-- closed: to the block's last sign -/
theorem rm_closed {rec : PH → Option PH} {P0 P : PH} {q m d : Nat} (h : ResM T n P0 P (.inr q)) (h41 : sgn T n q 41) (h19 : P.1 1 19 = nI m) (hm : m < 400) (h13 : P.1 1 13 = nI (d + 1)) (hd : d ≤ 5) : ∃ Q, ((Mo_readWithin_69 rec P).bind (Mo_readStatement_191 rec)) = some Q ∧ ResM T n P0 Q (sS T n 59 (tE T n q)) ∧ Q.1 1 13 = nI d ∧ Q.1 1 19 = nI (m + 1) ∧ Q.1 94 (4 * m) = nI 14 ∧ ∀ j, j < 4 * m → Q.1 94 j = P.1 94 j := by
  obtain ⟨Q2, b1, b2, b3, b4, b5⟩ := rm_sign (c := 41) h (by decide)
  have b1 : Mo_sign (41 : Int32) P = some Q2 := b1
  have e : bS (Sum.inr q) (sS T n 41) = .inr (tE T n q) := by
    show sS T n 41 q = _
    unfold sS
    rw [if_pos (cP_iff.mpr h41)]
  rw [e] at b2
  have e13 : Q2.1 1 13 - (1 : Int32) = nI d := by rw [b4, h13, show (1 : Int32) = nI 1 from rfl, z_sub (by omega), show d + 1 - 1 = d by omega]
  have c2 := rm_13 b2 (nI d)
  obtain ⟨Q3, d1, d2, d3, d4, d5⟩ := rm_code c2 (m := m) (by rw [rowI_s, pk_un (by decide), b5]; exact h19) hm (14 : Int32) (0 : Int32) (0 : Int32) (0 : Int32)
  obtain ⟨d6, d7, -⟩ := d5 _ rfl
  obtain ⟨Q4, f1, f2, f3, f4, f5⟩ := rm_191 (rec := rec) d2
  refine ⟨Q4, ?_, f2, ?_, ?_, ?_, fun j hj => ?_⟩
  · unfold Mo_readWithin_69
    rw [b1, Option.bind_some, e13, Option.bind_some, d1, Option.bind_some, Option.bind_some, f1]
  · rw [f4, d4, rowI_s, pk_us]
  · rw [f5]; exact d6
  · rw [f3]; exact d7
  · rw [f3, d3 j hj, rowI_o _ _ _ (by decide), b3]
end RMW
