/-! DRAWING: signs, numbers, codes -/
def sgn (T : Nat → Nat) (n p c : Nat) : Prop := tK T n p = 3 ∧ T (tB T n p) = c
def nmb (T : Nat → Nat) (n p lo hi : Nat) : Prop := tK T n p = 2 ∧ lo ≤ tVal T n p ∧ tVal T n p ≤ hi
def fC (T : Nat → Nat) (n p k : Nat) : Nat := if tK T n p = 4 then 1 else k
def fN (T : Nat → Nat) (n p : Nat) : Nat := if tK T n p = 2 then 3 else fC T n p 2
theorem tK_le (T : Nat → Nat) (n p : Nat) : tK T n p ≤ 4 := by
  unfold tK
  split
  · split
    · decide
    · split
      · split <;> decide
      · split <;> decide
  · decide
theorem fC_rng (T : Nat → Nat) (n p : Nat) {k : Nat} (h : 1 ≤ k) (h2 : k ≤ 4) : 1 ≤ fC T n p k ∧ fC T n p k ≤ 4 := by
  unfold fC
  split <;> omega
theorem fN_rng (T : Nat → Nat) (n p : Nat) : 1 ≤ fN T n p ∧ fN T n p ≤ 4 := by
  unfold fN
  split
  · omega
  · exact fC_rng T n p (by decide) (by decide)
theorem tVal_lt {T : Nat → Nat} {n p : Nat} (hp : p ≤ n) (hk : tK T n p = 2) : tVal T n p < 1000 := by
  have b := tB_le (T := T) hp
  obtain ⟨e1, e2, e3, -⟩ := nxt_ok (T := T) (q := fun c => !isDg c) b.2
  have e1 : tB T n p ≤ tDe T n p := e1
  have e3 : ∀ j, tB T n p ≤ j → j < tDe T n p → (!isDg (T j)) = false := e3
  have l3 : tDe T n p - tB T n p ≤ 3 := by
    unfold tK at hk
    by_cases c : tB T n p < n
    · rw [if_pos c] at hk
      cases l : isLt (T (tB T n p))
      · rw [l] at hk
        cases d : isDg (T (tB T n p))
        · rw [d] at hk
          simp only [Bool.false_eq_true, if_false] at hk
          split at hk <;> omega
        · rw [d] at hk
          simp only [Bool.false_eq_true, if_false, if_true] at hk
          by_cases z : tDe T n p - tB T n p ≤ 3
          · exact z
          · rw [if_neg z] at hk; omega
      · rw [l] at hk
        simp only [if_true] at hk
        omega
    · rw [if_neg c] at hk; omega
  have lp : ∀ m, m ≤ tDe T n p - tB T n p → dgv T (tB T n p) m < 10 ^ m := by
    intro m
    induction m with
    | zero => intro _; exact Nat.one_pos
    | succ m ih =>
      intro hm
      have := ih (by omega)
      have d := e3 (tB T n p + m) (by omega) (by omega)
      have d : isDg (T (tB T n p + m)) = true := by simpa using d
      unfold isDg at d
      rw [Bool.and_eq_true, decide_eq_true_eq, decide_eq_true_eq] at d
      show 10 * dgv T (tB T n p) m + (T (tB T n p + m) - 48) < 10 ^ (m + 1)
      rw [Nat.pow_succ]
      omega
  have := lp _ (Nat.le_refl _)
  have p3 : 10 ^ (tDe T n p - tB T n p) ≤ 10 ^ 3 := Nat.pow_le_pow_right (by decide) l3
  have e : (10 : Nat) ^ 3 = 1000 := rfl
  unfold tVal
  omega
section STP
variable {P : PH} {T : Nat → Nat} {n p : Nat}
/-! the class -/
theorem re_fail0 {k b : Nat} (h1 : P.1 71 1 = 0) (h8 : P.1 71 8 = nI b) : ∃ Q, Re_fail (nI k) P = some Q ∧ Q.1 71 1 = nI k ∧ Q.1 71 2 = nI b ∧ (∀ j, j ≠ 1 → j ≠ 2 → Q.1 71 j = P.1 71 j) ∧ oTk P Q := by
  refine ⟨sI (sI P 71 1 (nI k)) 71 2 (nI b), ?_, ?_, ?_, fun j a b => ?_, ((oTk.rf P).s (by omega) _).s (by omega) _⟩
  · unfold Re_fail
    rw [if_pos h1, Option.bind_some, rowI_s, pk_un (by decide), h8, Option.bind_some]
  · rw [rowI_s, pk_un (by decide), rowI_s, pk_us]
  · rw [rowI_s, pk_us]
  · rw [rowI_s, pk_un b, rowI_s, pk_un a]
theorem re_failF {v : Int32} (h1 : ¬ P.1 71 1 = 0) : Re_fail v P = some P := by
  unfold Re_fail
  rw [if_neg h1]
theorem re_tokF (h1 : ¬ P.1 71 1 = 0) : Re_token P = some P := by
  unfold Re_token
  rw [if_neg h1]
theorem re_signF {v : Int32} (h1 : ¬ P.1 71 1 = 0) : Re_sign v P = some P := by
  unfold Re_sign
  rw [re_tokF h1, Option.bind_some, re_failF h1, Option.bind_some, ite_self]
theorem re_numF {v w : Int32} (h1 : ¬ P.1 71 1 = 0) : Re_number v w P = some (P.1 71 9, P) := by
  unfold Re_number Re_number_36
  rw [re_tokF h1, Option.bind_some, re_failF h1, Option.bind_some, re_failF h1, Option.bind_some, ite_self, ite_self, ite_self]
theorem re_sgn (hT : TXc T n P) (hp : p ≤ n) (h1 : P.1 71 1 = 0) (h6 : P.1 71 6 = nI p) {c : Nat} (hc : 40 ≤ c) (hc2 : c < 60) : ∃ Q, Re_sign (nI c) P = some Q ∧ oTk P Q ∧ Q.1 71 8 = nI (tB T n p) ∧ ((sgn T n p c ∧ Q.1 71 1 = 0 ∧ Q.1 71 2 = P.1 71 2 ∧ Q.1 71 6 = nI (tE T n p)) ∨ (¬ sgn T n p c ∧ Q.1 71 1 = nI (fC T n p 2) ∧ Q.1 71 2 = nI (tB T n p))) := by
  obtain ⟨Q, e1, e2, e3, e4, e5, e6, e7, e8⟩ := re_token hT hp h1 h6
  have kl := tK_le T n p
  have tl : tK T n p = 3 → T (tB T n p) < 256 := fun z => by
    have : tB T n p < n := by
      by_cases y : tB T n p < n
      · exact y
      · unfold tK at z; rw [if_neg y] at z; cases z
    exact (hT.2.1 _ this).1
  have kc : kdC T n p = c ↔ sgn T n p c := by
    unfold kdC sgn
    by_cases z : tK T n p = 3
    · rw [if_pos z]; exact ⟨fun y => ⟨z, y⟩, fun y => y.2⟩
    · rw [if_neg z]
      refine ⟨fun y => ?_, fun y => absurd y.1 z⟩
      split at y <;> omega
  have kb : kdC T n p < 256 := by
    unfold kdC
    by_cases z : tK T n p = 3
    · rw [if_pos z]; exact tl z
    · rw [if_neg z]; split <;> omega
  unfold Re_sign
  rw [e1, Option.bind_some, e4]
  by_cases z : sgn T n p c
  · have n4 : tK T n p ≠ 4 := by have := z.1; omega
    rw [if_pos (by rw [kc.mpr z])]
    exact ⟨Q, rfl, e8, e3, Or.inl ⟨z, (e6 n4).1, (e6 n4).2, e2⟩⟩
  · rw [if_neg (by rw [z_eq (by omega) (by omega)]; exact fun y => z (kc.mp y))]
    by_cases y : tK T n p = 4
    · obtain ⟨f1, f2⟩ := e7 y
      rw [re_failF (by rw [f1]; decide), Option.bind_some]
      exact ⟨Q, rfl, e8, e3, Or.inr ⟨z, by unfold fC; rw [if_pos y]; exact f1, f2⟩⟩
    · obtain ⟨R, g1, g2, g3, g4, g5⟩ := re_fail0 (k := 2) (e6 y).1 e3
      rw [show (2 : Int32) = nI 2 from rfl, g1, Option.bind_some]
      exact ⟨R, rfl, e8.tr g5, by rw [g4 8 (by decide) (by decide)]; exact e3, Or.inr ⟨z, by unfold fC; rw [if_neg y]; exact g2, g3⟩⟩
theorem re_num (hT : TXc T n P) (hp : p ≤ n) (h1 : P.1 71 1 = 0) (h6 : P.1 71 6 = nI p) {lo hi : Nat} (hl : lo < 100) (hh : hi < 100) : ∃ (a : Int32) (Q : PH), Re_number (nI lo) (nI hi) P = some (a, Q) ∧ oTk P Q ∧ Q.1 71 8 = nI (tB T n p) ∧ ((nmb T n p lo hi ∧ a = nI (tVal T n p) ∧ Q.1 71 1 = 0 ∧ Q.1 71 2 = P.1 71 2 ∧ Q.1 71 6 = nI (tE T n p)) ∨ (¬ nmb T n p lo hi ∧ Q.1 71 1 = nI (fN T n p) ∧ Q.1 71 2 = nI (tB T n p))) := by
  obtain ⟨Q, e1, e2, e3, e4, e5, e6, e7, e8⟩ := re_token hT hp h1 h6
  have kl := tK_le T n p
  have tl : tK T n p = 3 → T (tB T n p) = 59 ∨ T (tB T n p) = 40 ∨ T (tB T n p) = 41 := fun z => by
    unfold tK at z
    by_cases y : tB T n p < n
    · rw [if_pos y] at z
      split at z
      · cases z
      · split at z
        · split at z <;> cases z
        · split at z
          · assumption
          · cases z
    · rw [if_neg y] at z; cases z
  have kc : kdC T n p = 2 ↔ tK T n p = 2 := by
    unfold kdC
    by_cases z : tK T n p = 3
    · have := tl z
      rw [if_pos z]; omega
    · rw [if_neg z]
      by_cases y : tK T n p = 4
      · rw [if_pos y]; omega
      · rw [if_neg y]
  have kb : kdC T n p < 256 := by
    unfold kdC
    by_cases z : tK T n p = 3
    · have := tl z
      rw [if_pos z]; omega
    · rw [if_neg z]; split <;> omega
  unfold Re_number
  rw [e1, Option.bind_some, e4]
  by_cases z : tK T n p = 2
  · have n4 : tK T n p ≠ 4 := by omega
    have vl := tVal_lt hp z
    rw [if_pos (by rw [kc.mpr z]; rfl), e5 z]
    have bad : ¬ nmb T n p lo hi → ∃ (a : Int32) (R : PH), Re_number_36 Q = some (a, R) ∧ oTk P R ∧ R.1 71 8 = nI (tB T n p) ∧ ((nmb T n p lo hi ∧ a = nI (tVal T n p) ∧ R.1 71 1 = 0 ∧ R.1 71 2 = P.1 71 2 ∧ R.1 71 6 = nI (tE T n p)) ∨ (¬ nmb T n p lo hi ∧ R.1 71 1 = nI (fN T n p) ∧ R.1 71 2 = nI (tB T n p))) := fun nb => by
      obtain ⟨R, g1, g2, g3, g4, g5⟩ := re_fail0 (k := 3) (e6 n4).1 e3
      refine ⟨R.1 71 9, R, ?_, e8.tr g5, by rw [g4 8 (by decide) (by decide)]; exact e3, Or.inr ⟨nb, by unfold fN; rw [if_pos z]; exact g2, g3⟩⟩
      unfold Re_number_36
      rw [show (3 : Int32) = nI 3 from rfl, g1, Option.bind_some]
    by_cases a1 : tVal T n p < lo
    · rw [if_pos (nI_lt a1 (by omega))]
      exact bad (fun y => by have := y.2.1; omega)
    · rw [if_neg (by rw [z_lt (by omega) (by omega)]; exact a1)]
      by_cases a2 : tVal T n p ≤ hi
      · rw [if_pos (by rw [z_le (by omega) (by omega)]; exact a2)]
        exact ⟨_, Q, rfl, e8, e3, Or.inl ⟨⟨z, by omega, a2⟩, rfl, (e6 n4).1, (e6 n4).2, e2⟩⟩
      · rw [if_neg (by rw [z_le (by omega) (by omega)]; exact a2)]
        exact bad (fun y => a2 y.2.2)
  · rw [if_neg (show ¬ nI (kdC T n p) = (2 : Int32) from (show ¬ nI (kdC T n p) = nI 2 by rw [z_eq (by omega) (by omega)]; exact fun y => z (kc.mp y)))]
    have nb : ¬ nmb T n p lo hi := fun y => z y.1
    by_cases y : tK T n p = 4
    · obtain ⟨f1, f2⟩ := e7 y
      rw [re_failF (by rw [f1]; decide), Option.bind_some]
      exact ⟨_, Q, rfl, e8, e3, Or.inr ⟨nb, by unfold fN fC; rw [if_neg z, if_pos y]; exact f1, f2⟩⟩
    · obtain ⟨R, g1, g2, g3, g4, g5⟩ := re_fail0 (k := 2) (e6 y).1 e3
      rw [show (2 : Int32) = nI 2 from rfl, g1, Option.bind_some]
      exact ⟨_, R, rfl, e8.tr g5, by rw [g4 8 (by decide) (by decide)]; exact e3, Or.inr ⟨nb, by unfold fN fC; rw [if_neg z, if_neg y]; exact g2, g3⟩⟩
/-! the reference -/
def oPs (P Q : PH) : Prop := (∀ n, n ≠ 1 → n ≠ 94 → Q.1 n = P.1 n) ∧ (∀ k, k < 9 ∨ 19 < k ∨ (15 < k ∧ k < 19) → Q.1 1 k = P.1 1 k) ∧ Q.2 = P.2
theorem oPs.rf (P : PH) : oPs P P := ⟨fun _ _ _ => rfl, fun _ _ => rfl, rfl⟩
theorem oPs.tr {P Q R : PH} (h : oPs P Q) (h2 : oPs Q R) : oPs P R := ⟨fun n a b => (h2.1 n a b).trans (h.1 n a b), fun k a => (h2.2.1 k a).trans (h.2.1 k a), h2.2.2.trans h.2.2⟩
theorem oRd.ps {P Q : PH} (h : oRd P Q) : oPs P Q := ⟨fun n a _ => h.1 n a, fun k a => h.2.1 k (by omega) (by omega) (by omega) (by omega), h.2.2⟩
theorem oPs.s {P Q : PH} (h : oPs P Q) {k : Nat} (hk : (9 ≤ k ∧ k ≤ 15) ∨ k = 19) (v : Int32) : oPs P (sI Q 1 k v) := ⟨fun n a b => by rw [rowI_o _ _ _ a]; exact h.1 n a b, fun j a => by rw [rowI_s, pk_un (by omega)]; exact h.2.1 j a, h.2.2⟩
theorem oPs.c {P Q : PH} (h : oPs P Q) (k : Nat) (v : Int32) : oPs P (sI Q 94 k v) := ⟨fun n a b => by rw [rowI_o _ _ _ b]; exact h.1 n a b, fun j a => by rw [rowI_o _ _ _ (by decide)]; exact h.2.1 j a, h.2.2⟩
theorem TXm.kp {Q : PH} (h : TXm T n P) (o : oPs P Q) : TXm T n Q := ⟨h.1, fun k hk => by rw [o.1 93 (by decide) (by decide)]; exact h.2.1 k hk, by rw [o.2.1 8 (by omega)]; exact h.2.2⟩
theorem mo_bl0 {k : Nat} (hR : RPt T n p P) (hb : P.1 1 14 = 0) : ∃ Q, Mo_blames (nI k) P = some Q ∧ Q.1 1 14 = nI (fC T n p k) ∧ Q.1 1 15 = nI (tB T n p) ∧ (∀ j, j ≠ 14 → j ≠ 15 → Q.1 1 j = P.1 1 j) ∧ (∀ m, m ≠ 1 → Q.1 m = P.1 m) ∧ oPs P Q := by
  have kl := tK_le T n p
  have g : ∀ w : Nat, ∃ Q, ((some (sI P 1 14 (nI w))).bind fun (P22 : PH) => (some (sI P22 1 15 (P22.1 1 10))).bind fun (P30 : PH) => some P30) = some Q ∧ Q.1 1 14 = nI w ∧ Q.1 1 15 = nI (tB T n p) ∧ (∀ j, j ≠ 14 → j ≠ 15 → Q.1 1 j = P.1 1 j) ∧ (∀ m, m ≠ 1 → Q.1 m = P.1 m) ∧ oPs P Q := fun w => by
    refine ⟨sI (sI P 1 14 (nI w)) 1 15 (nI (tB T n p)), ?_, ?_, ?_, fun j a b => ?_, fun m a => ?_, ((oPs.rf P).s (by omega) _).s (by omega) _⟩
    · rw [Option.bind_some, rowI_s, pk_un (by decide), hR.2.1, Option.bind_some]
    · rw [rowI_s, pk_un (by decide), rowI_s, pk_us]
    · rw [rowI_s, pk_us]
    · rw [rowI_s, pk_un b, rowI_s, pk_un a]
    · rw [rowI_o _ _ _ a, rowI_o _ _ _ a]
  unfold Mo_blames fC
  rw [if_pos hb, hR.2.2.1]
  by_cases z : tK T n p = 4
  · rw [if_pos (by rw [z]; rfl), if_pos z]
    exact g 1
  · rw [if_neg (show ¬ nI (tK T n p) = (4 : Int32) from (show ¬ nI (tK T n p) = nI 4 by rw [z_eq (by omega) (by omega)]; exact z)), if_neg z]
    exact g k
theorem mo_blF {v : Int32} (hb : ¬ P.1 1 14 = 0) : Mo_blames v P = some P := by
  unfold Mo_blames
  rw [if_neg hb]
theorem mo_isSgF {v : Int32} (hb : ¬ P.1 1 14 = 0) : Mo_isSign v P = some 0 := by
  unfold Mo_isSign
  rw [if_neg hb, gd0]
theorem mo_isSg (hT : TXm T n P) (hR : RPt T n p P) (hb : P.1 1 14 = 0) {c : Nat} (hc : c < 256) : (sgn T n p c → Mo_isSign (nI c) P = some 1) ∧ (¬ sgn T n p c → Mo_isSign (nI c) P = some 0) := by
  have kl := tK_le T n p
  unfold Mo_isSign
  rw [if_pos hb, hR.2.2.1, gd1, gd0]
  by_cases z : tK T n p = 3
  · have tb : tB T n p < n := by
      by_cases y : tB T n p < n
      · exact y
      · unfold tK at z; rw [if_neg y] at z; cases z
    have tl := (hT.2.1 _ tb).1
    rw [if_pos (by rw [z]; rfl), hR.2.2.2.2 z]
    refine ⟨fun y => by rw [if_pos (by rw [y.2])], fun y => ?_⟩
    rw [if_neg (by rw [z_eq (by omega) (by omega)]; exact fun w => y ⟨z, w⟩)]
  · rw [if_neg (show ¬ nI (tK T n p) = (3 : Int32) from (show ¬ nI (tK T n p) = nI 3 by rw [z_eq (by omega) (by omega)]; exact z))]
    exact ⟨fun y => absurd y.1 z, fun _ => rfl⟩
theorem mo_sgF {v : Int32} (hb : ¬ P.1 1 14 = 0) : Mo_sign v P = some P := by
  unfold Mo_sign Mo_sign_13
  rw [mo_isSgF hb, Option.bind_some, if_pos rfl, mo_blF hb, Option.bind_some, if_neg hb]
theorem mo_sg (hT : TXm T n P) (hp : p ≤ n) (hR : RPt T n p P) (hb : P.1 1 14 = 0) {c : Nat} (hc : c < 256) : ∃ Q, Mo_sign (nI c) P = some Q ∧ oPs P Q ∧ Q.1 94 = P.1 94 ∧ Q.1 1 13 = P.1 1 13 ∧ Q.1 1 19 = P.1 1 19 ∧ ((sgn T n p c ∧ Q.1 1 14 = 0 ∧ RPt T n (tE T n p) Q) ∨ (¬ sgn T n p c ∧ Q.1 1 14 = nI (fC T n p 2) ∧ Q.1 1 15 = nI (tB T n p))) := by
  have is := mo_isSg hT hR hb hc
  obtain ⟨e1, e2, -⟩ := tE_le (T := T) hp
  unfold Mo_sign
  by_cases z : sgn T n p c
  · obtain ⟨Q, a1, a2, a3⟩ := mo_reads hT e2 hR.1
    refine ⟨Q, ?_, a3.ps, a3.1 94 (by decide), a3.2.1 13 (by decide) (by decide) (by decide) (by decide), a3.2.1 19 (by decide) (by decide) (by decide) (by decide), Or.inl ⟨z, by rw [a3.2.1 14 (by decide) (by decide) (by decide) (by decide)]; exact hb, a2⟩⟩
    unfold Mo_sign_13
    rw [is.1 z, Option.bind_some, if_neg (by decide), if_pos hb, a1, Option.bind_some]
  · obtain ⟨Q, a1, a2, a3, a4, a5, a6⟩ := mo_bl0 (k := 2) hR hb
    have fr := fC_rng T n p (k := 2) (by decide) (by decide)
    refine ⟨Q, ?_, a6, a5 94 (by decide), a4 13 (by decide) (by decide), a4 19 (by decide) (by decide), Or.inr ⟨z, a2, a3⟩⟩
    unfold Mo_sign_13
    rw [is.2 z, Option.bind_some, if_pos rfl, show (2 : Int32) = nI 2 from rfl, a1, Option.bind_some, if_neg (by rw [a2]; exact nI_ne0 (by omega) (by omega))]
theorem mo_n36F {lo : Int32} (hb : ¬ P.1 1 14 = 0) : Mo_number_36 lo P = some (lo, P) := by
  unfold Mo_number_36
  rw [Option.bind_some, if_neg hb, if_neg hb]
theorem mo_numF {lo hi : Int32} (hb : ¬ P.1 1 14 = 0) : Mo_number lo hi P = some (lo, P) := by
  unfold Mo_number
  rw [mo_blF hb, mo_win, mo_blF hb]
  simp only [Option.bind_some, mo_n36F hb, ite_self]
theorem mo_num (hT : TXm T n P) (hp : p ≤ n) (hR : RPt T n p P) (hb : P.1 1 14 = 0) {lo hi : Nat} (hl : lo < 100) (hh : hi < 100) : ∃ (a : Int32) (Q : PH), Mo_number (nI lo) (nI hi) P = some (a, Q) ∧ oPs P Q ∧ Q.1 94 = P.1 94 ∧ Q.1 1 13 = P.1 1 13 ∧ Q.1 1 19 = P.1 1 19 ∧ ((nmb T n p lo hi ∧ a = nI (tVal T n p) ∧ Q.1 1 14 = 0 ∧ RPt T n (tE T n p) Q) ∨ (¬ nmb T n p lo hi ∧ Q.1 1 14 = nI (fN T n p) ∧ Q.1 1 15 = nI (tB T n p))) := by
  have kl := tK_le T n p
  obtain ⟨e1, e2, -⟩ := tE_le (T := T) hp
  have bad : ∀ k : Nat, 1 ≤ k → k ≤ 4 → ¬ nmb T n p lo hi → fC T n p k = fN T n p → ∃ (a : Int32) (Q : PH), ((Mo_blames (nI k) P).bind fun (x : PH) => Mo_number_36 (nI lo) x) = some (a, Q) ∧ oPs P Q ∧ Q.1 94 = P.1 94 ∧ Q.1 1 13 = P.1 1 13 ∧ Q.1 1 19 = P.1 1 19 ∧ ((nmb T n p lo hi ∧ a = nI (tVal T n p) ∧ Q.1 1 14 = 0 ∧ RPt T n (tE T n p) Q) ∨ (¬ nmb T n p lo hi ∧ Q.1 1 14 = nI (fN T n p) ∧ Q.1 1 15 = nI (tB T n p))) := fun k k1 k4 nb ek => by
    obtain ⟨Q, a1, a2, a3, a4, a5, a6⟩ := mo_bl0 (k := k) hR hb
    have fr := fC_rng T n p k1 k4
    refine ⟨nI lo, Q, ?_, a6, a5 94 (by decide), a4 13 (by decide) (by decide), a4 19 (by decide) (by decide), Or.inr ⟨nb, by rw [← ek]; exact a2, a3⟩⟩
    rw [a1, Option.bind_some]
    exact mo_n36F (by rw [a2]; exact nI_ne0 (by omega) (by omega))
  unfold Mo_number
  rw [hR.2.2.1]
  by_cases z : tK T n p = 2
  · have vl := tVal_lt hp z
    rw [if_pos (by rw [z]; rfl), hR.2.2.2.1 z, mo_win]
    by_cases y : nmb T n p lo hi
    · obtain ⟨Q, a1, a2, a3⟩ := mo_reads hT e2 hR.1
      rw [if_pos ⟨by rw [z_le (by omega) (by omega)]; exact y.2.1, by rw [z_le (by omega) (by omega)]; exact y.2.2⟩, Option.bind_some, if_neg (by decide)]
      have b' : Q.1 1 14 = 0 := by rw [a3.2.1 14 (by decide) (by decide) (by decide) (by decide)]; exact hb
      refine ⟨nI (tVal T n p), Q, ?_, a3.ps, a3.1 94 (by decide), a3.2.1 13 (by decide) (by decide) (by decide) (by decide), a3.2.1 19 (by decide) (by decide) (by decide) (by decide), Or.inl ⟨y, rfl, b', a2⟩⟩
      unfold Mo_number_36
      rw [Option.bind_some, if_pos hb, a1, Option.bind_some, if_pos b', hR.2.2.2.1 z]
    · rw [if_neg (fun w => y ⟨z, by have := w.1; rw [z_le (by omega) (by omega)] at this; exact this, by have := w.2; rw [z_le (by omega) (by omega)] at this; exact this⟩), Option.bind_some, if_pos rfl]
      exact bad 3 (by decide) (by decide) y (by unfold fC fN; rw [if_neg (by omega), if_pos z])
  · rw [if_neg (show ¬ nI (tK T n p) = (2 : Int32) from (show ¬ nI (tK T n p) = nI 2 by rw [z_eq (by omega) (by omega)]; exact z))]
    exact bad 2 (by decide) (by decide) (fun y => z y.1) (by unfold fN; rw [if_neg z])
theorem mo_codeF {a b c d : Int32} (hb : ¬ P.1 1 14 = 0) : Mo_code a b c d P = some P := by
  unfold Mo_code
  rw [if_neg hb]
theorem mo_code0 {a b c d : Int32} {m : Nat} (hb : P.1 1 14 = 0) (h19 : P.1 1 19 = nI m) (hm : m < 400) : ∃ Q, Mo_code a b c d P = some Q ∧ Q.1 1 19 = nI (m + 1) ∧ Q.1 94 (4 * m) = a ∧ Q.1 94 (4 * m + 1) = b ∧ Q.1 94 (4 * m + 2) = c ∧ Q.1 94 (4 * m + 3) = d ∧ (∀ j, j < 4 * m → Q.1 94 j = P.1 94 j) ∧ (∀ j, j ≠ 19 → Q.1 1 j = P.1 1 j) ∧ oPs P Q := by
  have e0 : (4 : Int32) * nI m = nI (4 * m) := by rw [show (4 : Int32) = nI 4 from rfl, pk_mul]
  have e1 : (4 : Int32) * nI m + (1 : Int32) = nI (4 * m + 1) := by rw [e0]; exact nI_1 _
  have e2 : (4 : Int32) * nI m + (2 : Int32) = nI (4 * m + 2) := by rw [e0, show (2 : Int32) = nI 2 from rfl, nI_add]
  have e3 : (4 : Int32) * nI m + (3 : Int32) = nI (4 * m + 3) := by rw [e0, show (3 : Int32) = nI 3 from rfl, nI_add]
  obtain ⟨Q, hQ⟩ : ∃ Q, Q = sI (sI (sI (sI (sI P 94 (4 * m) a) 94 (4 * m + 1) b) 94 (4 * m + 2) c) 94 (4 * m + 3) d) 1 19 (nI (m + 1)) := ⟨_, rfl⟩
  have r94 : Q.1 94 = upd (upd (upd (upd (P.1 94) (4 * m) a) (4 * m + 1) b) (4 * m + 2) c) (4 * m + 3) d := by rw [hQ, rowI_o _ _ _ (by decide), rowI_s, rowI_s, rowI_s, rowI_s]
  refine ⟨Q, ?_, by rw [hQ, rowI_s, pk_us], ?_, ?_, ?_, ?_, fun j hj => ?_, fun j hj => ?_, ?_⟩
  · unfold Mo_code
    have o : ∀ (P : PH) (k : Nat) (v : Int32), (sI P 94 k v).1 1 19 = P.1 1 19 := fun P k v => by rw [rowI_o _ _ _ (by decide)]
    rw [if_pos hb, h19, e0, z_gd (by omega) (by decide), z_cl (by omega), Option.bind_some, o, h19, e1, z_gd (by omega) (by decide), z_cl (by omega), Option.bind_some, o, o, h19, e2, z_gd (by omega) (by decide), z_cl (by omega), Option.bind_some, o, o, o, h19, e3, z_gd (by omega) (by decide), z_cl (by omega), Option.bind_some, o, o, o, o, h19, show nI m + (1 : Int32) = nI (m + 1) from nI_1 _, Option.bind_some, ← hQ]
  · rw [r94, pk_un (by omega), pk_un (by omega), pk_un (by omega), pk_us]
  · rw [r94, pk_un (by omega), pk_un (by omega), pk_us]
  · rw [r94, pk_un (by omega), pk_us]
  · rw [r94, pk_us]
  · rw [r94, pk_un (by omega), pk_un (by omega), pk_un (by omega), pk_un (by omega)]
  · rw [hQ, rowI_s, pk_un hj, rowI_o _ _ _ (by decide), rowI_o _ _ _ (by decide), rowI_o _ _ _ (by decide), rowI_o _ _ _ (by decide)]
  · rw [hQ]; exact (((((oPs.rf P).c _ _).c _ _).c _ _).c _ _).s (by omega) _
end STP
