/-! DRAWING: a statement's head, on both sides -/
noncomputable def sS (T : Nat → Nat) (n c p : Nat) : (Nat × Nat) ⊕ Nat := if cP (sgn T n p c) then .inr (tE T n p) else .inl (fC T n p 2, tB T n p)
noncomputable def sN (T : Nat → Nat) (n lo hi p : Nat) : (Nat × Nat) ⊕ Nat := if cP (nmb T n p lo hi) then .inr (tE T n p) else .inl (fN T n p, tB T n p)
def bS (r : (Nat × Nat) ⊕ Nat) (f : Nat → (Nat × Nat) ⊕ Nat) : (Nat × Nat) ⊕ Nat := match r with
  | .inl e => .inl e
  | .inr p => f p
noncomputable def rNum (T : Nat → Nat) (n w p : Nat) : (Nat × Nat) ⊕ Nat := if w < 8 then sN T n 1 11 p else if w = 9 then sN T n 0 3 p else if w = 11 then sN T n 1 12 p else if w < 11 then bS (sN T n 0 11 p) (sN T n 0 11) else .inr p
def sCh (w : Nat) : Nat := if w < 11 then 59 else 40
noncomputable def rHd (T : Nat → Nat) (n w p : Nat) : (Nat × Nat) ⊕ Nat := bS (rNum T n w p) (sS T n (sCh w))
def oneV (T : Nat → Nat) (n w p : Nat) : Nat := if w < 12 then tVal T n p else 1
def twoV (T : Nat → Nat) (n w p : Nat) : Nat := if w = 8 ∨ w = 10 then tVal T n (tE T n p) else 0
section HED
variable {P : PH} {T : Nat → Nat} {n p : Nat}
theorem sS_in {c q : Nat} (h : sS T n c p = .inr q) : sgn T n p c ∧ q = tE T n p := by
  unfold sS at h
  cases z : cP (sgn T n p c)
  · rw [z] at h; cases h
  · rw [z] at h
    cases h
    exact ⟨cP_iff.mp z, rfl⟩
theorem sN_in {lo hi q : Nat} (h : sN T n lo hi p = .inr q) : nmb T n p lo hi ∧ q = tE T n p := by
  unfold sN at h
  cases z : cP (nmb T n p lo hi)
  · rw [z] at h; cases h
  · rw [z] at h
    cases h
    exact ⟨cP_iff.mp z, rfl⟩
theorem bS_in {r : (Nat × Nat) ⊕ Nat} {f : Nat → (Nat × Nat) ⊕ Nat} {q : Nat} (h : bS r f = .inr q) : ∃ p, r = .inr p ∧ f p = .inr q := by
  cases r with
  | inl e => cases h
  | inr p => exact ⟨p, rfl, h⟩
/-- numbers read: their values, how far -/
theorem rNum_in (hp : p ≤ n) {w q : Nat} (hw : w < 14) (h : rNum T n w p = .inr q) : q ≤ n ∧ p ≤ q ∧ (w < 12 → p < q) ∧ (w < 8 → 1 ≤ oneV T n w p ∧ oneV T n w p ≤ 11) ∧ (w = 9 → oneV T n w p < 4) ∧ (w = 8 ∨ w = 10 → oneV T n w p < 12 ∧ twoV T n w p < 12) ∧ (w = 11 → 1 ≤ oneV T n w p ∧ oneV T n w p ≤ 12) := by
  have one : ∀ {lo hi p : Nat}, p ≤ n → ∀ {q}, sN T n lo hi p = .inr q → q ≤ n ∧ p < q ∧ lo ≤ tVal T n p ∧ tVal T n p ≤ hi ∧ q = tE T n p := fun hp q h => by
    obtain ⟨a, b⟩ := sN_in h
    have t := tE_le (T := T) hp
    have tb := tB_le (T := T) hp
    have := t.2.2 (by have := a.1; omega)
    exact ⟨by omega, by omega, a.2.1, a.2.2, b⟩
  unfold rNum at h
  unfold oneV twoV
  by_cases c1 : w < 8
  · rw [if_pos c1] at h
    obtain ⟨a1, a2, a3, a4, a5⟩ := one hp h
    rw [if_pos (by omega)]
    exact ⟨a1, by omega, fun _ => a2, fun _ => ⟨a3, a4⟩, fun _ => by omega, fun _ => by omega, fun _ => by omega⟩
  · rw [if_neg c1] at h
    by_cases c2 : w = 9
    · rw [if_pos c2] at h
      obtain ⟨a1, a2, a3, a4, a5⟩ := one hp h
      rw [if_pos (by omega)]
      exact ⟨a1, by omega, fun _ => a2, fun _ => by omega, fun _ => by omega, fun _ => by omega, fun _ => by omega⟩
    · rw [if_neg c2] at h
      by_cases c3 : w = 11
      · rw [if_pos c3] at h
        obtain ⟨a1, a2, a3, a4, a5⟩ := one hp h
        rw [if_pos (by omega)]
        exact ⟨a1, by omega, fun _ => a2, fun _ => by omega, fun _ => by omega, fun _ => by omega, fun _ => ⟨a3, a4⟩⟩
      · rw [if_neg c3] at h
        by_cases c4 : w < 11
        · rw [if_pos c4] at h
          obtain ⟨q1, h1, h2⟩ := bS_in h
          obtain ⟨a1, a2, a3, a4, a5⟩ := one hp h1
          obtain ⟨b1, b2, b3, b4, b5⟩ := one a1 h2
          rw [if_pos (by omega), if_pos (by omega), ← a5]
          exact ⟨b1, by omega, fun _ => by omega, fun _ => by omega, fun _ => by omega, fun _ => by omega, fun _ => by omega⟩
        · rw [if_neg c4] at h
          cases h
          exact ⟨hp, Nat.le_refl _, fun _ => by omega, fun _ => by omega, fun _ => by omega, fun _ => by omega, fun _ => by omega⟩
/-! the class -/
def ResC (T : Nat → Nat) (n : Nat) (P0 P : PH) (r : (Nat × Nat) ⊕ Nat) : Prop := TXc T n P ∧ oTk P0 P ∧ match r with
  | .inl (f, b) => 1 ≤ f ∧ f ≤ 4 ∧ P.1 71 1 = nI f ∧ P.1 71 2 = nI b
  | .inr p => p ≤ n ∧ P.1 71 1 = 0 ∧ P.1 71 2 = P0.1 71 2 ∧ P.1 71 6 = nI p
theorem rc_sign {P0 : PH} {r : (Nat × Nat) ⊕ Nat} {c : Nat} (h : ResC T n P0 P r) (hc : 40 ≤ c) (hc2 : c < 60) : ∃ Q, Re_sign (nI c) P = some Q ∧ ResC T n P0 Q (bS r (sS T n c)) ∧ (∀ p, r = .inr p → Q.1 71 8 = nI (tB T n p)) := by
  obtain ⟨hT, ho, h⟩ := h
  cases r with
  | inl e =>
    obtain ⟨f, b⟩ := e
    obtain ⟨h1, h2, h3, h4⟩ := h
    exact ⟨P, re_signF (by rw [h3]; exact nI_ne0 (by omega) (by omega)), ⟨hT, ho, h1, h2, h3, h4⟩, fun p q => by cases q⟩
  | inr p =>
    obtain ⟨h1, h2, h3, h4⟩ := h
    obtain ⟨Q, a1, a2, a3, a4⟩ := re_sgn hT h1 h2 h4 hc hc2
    refine ⟨Q, a1, ⟨hT.keep a2, ho.tr a2, ?_⟩, fun p' q => by cases q; exact a3⟩
    show match sS T n c p with
      | .inl (f, b) => 1 ≤ f ∧ f ≤ 4 ∧ Q.1 71 1 = nI f ∧ Q.1 71 2 = nI b
      | .inr p => p ≤ n ∧ Q.1 71 1 = 0 ∧ Q.1 71 2 = P0.1 71 2 ∧ Q.1 71 6 = nI p
    unfold sS
    rcases a4 with ⟨b1, b2, b3, b4⟩ | ⟨b1, b2, b3⟩
    · rw [if_pos (cP_iff.mpr b1)]
      exact ⟨(tE_le h1).2.1, b2, b3.trans h3, b4⟩
    · rw [if_neg (fun z => b1 (cP_iff.mp z))]
      have fr := fC_rng T n p (k := 2) (by decide) (by decide)
      exact ⟨fr.1, fr.2, b2, b3⟩
theorem rc_num {P0 : PH} {r : (Nat × Nat) ⊕ Nat} {lo hi : Nat} (h : ResC T n P0 P r) (hl : lo < 100) (hh : hi < 100) : ∃ (a : Int32) (Q : PH), Re_number (nI lo) (nI hi) P = some (a, Q) ∧ ResC T n P0 Q (bS r (sN T n lo hi)) ∧ (∀ p q, r = .inr p → sN T n lo hi p = .inr q → a = nI (tVal T n p)) := by
  obtain ⟨hT, ho, h⟩ := h
  cases r with
  | inl e =>
    obtain ⟨f, b⟩ := e
    obtain ⟨h1, h2, h3, h4⟩ := h
    exact ⟨_, P, re_numF (by rw [h3]; exact nI_ne0 (by omega) (by omega)), ⟨hT, ho, h1, h2, h3, h4⟩, fun p q z => by cases z⟩
  | inr p =>
    obtain ⟨h1, h2, h3, h4⟩ := h
    obtain ⟨a, Q, a1, a2, a3, a4⟩ := re_num hT h1 h2 h4 hl hh
    refine ⟨a, Q, a1, ⟨hT.keep a2, ho.tr a2, ?_⟩, fun p' q z1 z2 => ?_⟩
    · show match sN T n lo hi p with
        | .inl (f, b) => 1 ≤ f ∧ f ≤ 4 ∧ Q.1 71 1 = nI f ∧ Q.1 71 2 = nI b
        | .inr p => p ≤ n ∧ Q.1 71 1 = 0 ∧ Q.1 71 2 = P0.1 71 2 ∧ Q.1 71 6 = nI p
      unfold sN
      rcases a4 with ⟨b1, b0, b2, b3, b4⟩ | ⟨b1, b2, b3⟩
      · rw [if_pos (cP_iff.mpr b1)]
        exact ⟨(tE_le h1).2.1, b2, b3.trans h3, b4⟩
      · rw [if_neg (fun z => b1 (cP_iff.mp z))]
        have fr := fN_rng T n p
        exact ⟨fr.1, fr.2, b2, b3⟩
    · cases z1
      have := (sN_in z2).1
      rcases a4 with ⟨b1, b0, -⟩ | ⟨b1, -⟩
      · exact b0
      · exact absurd this b1
/-- the class behind the head: it opens a block, adds -/
def tlC (w : Nat) (v2 v3 v4 : Int32) (P : PH) : Option PH := if w < 11 then Re_worded_105 (nI w) v2 v3 v4 P else (Re_openBlock P).bind fun (x102 : PH) => Re_worded_105 (nI w) v2 v3 v4 x102
theorem rc_head {P0 : PH} {w : Nat} (hw : w < 14) (hp : p ≤ n) (h : ResC T n P0 P (.inr p)) (v2 : Int32) : ∃ (v3 v4 : Int32) (Q : PH), Re_worded (nI w) v2 P = tlC w v2 v3 v4 Q ∧ ResC T n P0 Q (rHd T n w p) ∧ (∀ q, rNum T n w p = .inr q → v3 = nI (oneV T n w p) ∧ v4 = nI (twoV T n w p) ∧ Q.1 71 8 = nI (tB T n q)) := by
  have tail : ∀ (v3 v4 : Int32) (Q0 : PH) (r : (Nat × Nat) ⊕ Nat), ResC T n P0 Q0 r → ∃ Q, Re_worded_78 (nI w) v2 v3 v4 Q0 = tlC w v2 v3 v4 Q ∧ ResC T n P0 Q (bS r (sS T n (sCh w))) ∧ ∀ q, r = .inr q → Q.1 71 8 = nI (tB T n q) := fun v3 v4 Q0 r hr => by
    unfold Re_worded_78 Re_worded_92
    by_cases c : w < 11
    · obtain ⟨Q, a1, a2, a3⟩ := rc_sign (c := 59) hr (by decide) (by decide)
      have a1 : Re_sign (59 : Int32) Q0 = some Q := a1
      rw [if_neg (show ¬ (11 : Int32) ≤ nI w from (show ¬ nI 11 ≤ nI w from nI_ge c (by decide))), a1, Option.bind_some, if_pos (show nI w < (11 : Int32) from (show nI w < nI 11 from nI_lt c (by decide))), show sCh w = 59 from if_pos c]
      refine ⟨Q, ?_, a2, a3⟩
      unfold tlC
      rw [if_pos c]
    · obtain ⟨Q, a1, a2, a3⟩ := rc_sign (c := 40) hr (by decide) (by decide)
      have a1 : Re_sign (40 : Int32) Q0 = some Q := a1
      rw [if_pos (show (11 : Int32) ≤ nI w from (show nI 11 ≤ nI w by rw [z_le (by omega) (by omega)]; omega)), a1, Option.bind_some, if_neg (show ¬ nI w < (11 : Int32) from (show ¬ nI w < nI 11 by rw [z_lt (by omega) (by omega)]; exact c)), show sCh w = 40 from if_neg c]
      refine ⟨Q, ?_, a2, a3⟩
      unfold tlC
      rw [if_neg c]
  unfold Re_worded rHd rNum oneV twoV
  by_cases c1 : w < 8
  · obtain ⟨a, Q, a1, a2, a3⟩ := rc_num (lo := 1) (hi := 11) h (by decide) (by decide)
    have a1 : Re_number (1 : Int32) (11 : Int32) P = some (a, Q) := a1
    obtain ⟨R, b1, b2, b3⟩ := tail a (0 : Int32) Q _ a2
    rw [if_neg (show ¬ (8 : Int32) ≤ nI w from (show ¬ nI 8 ≤ nI w from nI_ge c1 (by decide))), a1, Option.bind_some, if_pos c1, if_pos (show w < 12 by omega), if_neg (show ¬ (w = 8 ∨ w = 10) by omega)]
    exact ⟨a, 0, R, b1, b2, fun q z => ⟨a3 p q rfl z, rfl, b3 q z⟩⟩
  · rw [if_pos (show (8 : Int32) ≤ nI w from (show nI 8 ≤ nI w by rw [z_le (by omega) (by omega)]; omega)), if_neg c1]
    by_cases c2 : w = 9
    · obtain ⟨a, Q, a1, a2, a3⟩ := rc_num (lo := 0) (hi := 3) h (by decide) (by decide)
      have a1 : Re_number (0 : Int32) (3 : Int32) P = some (a, Q) := a1
      obtain ⟨R, b1, b2, b3⟩ := tail a (0 : Int32) Q _ a2
      rw [if_pos (show nI w = (9 : Int32) by rw [c2]; rfl), a1, Option.bind_some, if_pos c2, if_pos (show w < 12 by omega), if_neg (show ¬ (w = 8 ∨ w = 10) by omega)]
      exact ⟨a, 0, R, b1, b2, fun q z => ⟨a3 p q rfl z, rfl, b3 q z⟩⟩
    · rw [if_neg (show ¬ nI w = (9 : Int32) from (show ¬ nI w = nI 9 by rw [z_eq (by omega) (by omega)]; exact c2)), if_neg c2]
      by_cases c3 : w = 11
      · obtain ⟨a, Q, a1, a2, a3⟩ := rc_num (lo := 1) (hi := 12) h (by decide) (by decide)
        have a1 : Re_number (1 : Int32) (12 : Int32) P = some (a, Q) := a1
        obtain ⟨R, b1, b2, b3⟩ := tail a (0 : Int32) Q _ a2
        rw [if_pos (show nI w = (11 : Int32) by rw [c3]; rfl), a1, Option.bind_some, if_pos c3, if_pos (show w < 12 by omega), if_neg (show ¬ (w = 8 ∨ w = 10) by omega)]
        exact ⟨a, 0, R, b1, b2, fun q z => ⟨a3 p q rfl z, rfl, b3 q z⟩⟩
      · rw [if_neg (show ¬ nI w = (11 : Int32) from (show ¬ nI w = nI 11 by rw [z_eq (by omega) (by omega)]; exact c3)), if_neg c3]
        by_cases c4 : w < 11
        · obtain ⟨a, Q, a1, a2, a3⟩ := rc_num (lo := 0) (hi := 11) h (by decide) (by decide)
          have a1 : Re_number (0 : Int32) (11 : Int32) P = some (a, Q) := a1
          obtain ⟨a', Q', d1, d2, d3⟩ := rc_num (lo := 0) (hi := 11) a2 (by decide) (by decide)
          have d1 : Re_number (0 : Int32) (11 : Int32) Q = some (a', Q') := d1
          obtain ⟨R, b1, b2, b3⟩ := tail a a' Q' _ d2
          rw [if_neg (show ¬ (11 : Int32) ≤ nI w from (show ¬ nI 11 ≤ nI w from nI_ge c4 (by decide))), a1, Option.bind_some, d1, Option.bind_some, if_pos c4, if_pos (show w < 12 by omega), if_pos (show w = 8 ∨ w = 10 by omega)]
          refine ⟨a, a', R, b1, b2, fun q z => ?_⟩
          obtain ⟨q1, z1, z2⟩ := bS_in z
          have e := (sN_in z1).2
          refine ⟨a3 p q1 rfl z1, ?_, b3 q z⟩
          rw [← e]
          exact d3 q1 q z1 z2
        · obtain ⟨R, b1, b2, b3⟩ := tail (1 : Int32) (0 : Int32) P _ h
          rw [if_pos (show (11 : Int32) ≤ nI w from (show nI 11 ≤ nI w by rw [z_le (by omega) (by omega)]; omega)), if_neg c4, if_neg (show ¬ w < 12 by omega), if_neg (show ¬ (w = 8 ∨ w = 10) by omega)]
          exact ⟨1, 0, R, b1, b2, fun q z => ⟨rfl, rfl, b3 q z⟩⟩
/-! the reference -/
def ResM (T : Nat → Nat) (n : Nat) (P0 P : PH) (r : (Nat × Nat) ⊕ Nat) : Prop := TXm T n P ∧ oPs P0 P ∧ match r with
  | .inl (f, b) => 1 ≤ f ∧ f ≤ 4 ∧ P.1 1 14 = nI f ∧ P.1 1 15 = nI b
  | .inr p => p ≤ n ∧ P.1 1 14 = 0 ∧ RPt T n p P
theorem rm_sign {P0 : PH} {r : (Nat × Nat) ⊕ Nat} {c : Nat} (h : ResM T n P0 P r) (hc : c < 256) : ∃ Q, Mo_sign (nI c) P = some Q ∧ ResM T n P0 Q (bS r (sS T n c)) ∧ Q.1 94 = P.1 94 ∧ Q.1 1 13 = P.1 1 13 ∧ Q.1 1 19 = P.1 1 19 := by
  obtain ⟨hT, ho, h⟩ := h
  cases r with
  | inl e =>
    obtain ⟨f, b⟩ := e
    obtain ⟨h1, h2, h3, h4⟩ := h
    exact ⟨P, mo_sgF (by rw [h3]; exact nI_ne0 (by omega) (by omega)), ⟨hT, ho, h1, h2, h3, h4⟩, rfl, rfl, rfl⟩
  | inr p =>
    obtain ⟨h1, h2, h3⟩ := h
    obtain ⟨Q, a1, a2, a3, a4, a5, a6⟩ := mo_sg hT h1 h3 h2 hc
    refine ⟨Q, a1, ⟨hT.kp a2, ho.tr a2, ?_⟩, a3, a4, a5⟩
    show match sS T n c p with
      | .inl (f, b) => 1 ≤ f ∧ f ≤ 4 ∧ Q.1 1 14 = nI f ∧ Q.1 1 15 = nI b
      | .inr p => p ≤ n ∧ Q.1 1 14 = 0 ∧ RPt T n p Q
    unfold sS
    rcases a6 with ⟨b1, b2, b3⟩ | ⟨b1, b2, b3⟩
    · rw [if_pos (cP_iff.mpr b1)]
      exact ⟨(tE_le h1).2.1, b2, b3⟩
    · rw [if_neg (fun z => b1 (cP_iff.mp z))]
      have fr := fC_rng T n p (k := 2) (by decide) (by decide)
      exact ⟨fr.1, fr.2, b2, b3⟩
theorem rm_num {P0 : PH} {r : (Nat × Nat) ⊕ Nat} {lo hi : Nat} (h : ResM T n P0 P r) (hl : lo < 100) (hh : hi < 100) : ∃ (a : Int32) (Q : PH), Mo_number (nI lo) (nI hi) P = some (a, Q) ∧ ResM T n P0 Q (bS r (sN T n lo hi)) ∧ Q.1 94 = P.1 94 ∧ Q.1 1 13 = P.1 1 13 ∧ Q.1 1 19 = P.1 1 19 ∧ (∀ p q, r = .inr p → sN T n lo hi p = .inr q → a = nI (tVal T n p)) := by
  obtain ⟨hT, ho, h⟩ := h
  cases r with
  | inl e =>
    obtain ⟨f, b⟩ := e
    obtain ⟨h1, h2, h3, h4⟩ := h
    exact ⟨_, P, mo_numF (by rw [h3]; exact nI_ne0 (by omega) (by omega)), ⟨hT, ho, h1, h2, h3, h4⟩, rfl, rfl, rfl, fun p q z => by cases z⟩
  | inr p =>
    obtain ⟨h1, h2, h3⟩ := h
    obtain ⟨a, Q, a1, a2, a3, a4, a5, a6⟩ := mo_num hT h1 h3 h2 hl hh
    refine ⟨a, Q, a1, ⟨hT.kp a2, ho.tr a2, ?_⟩, a3, a4, a5, fun p' q z1 z2 => ?_⟩
    · show match sN T n lo hi p with
        | .inl (f, b) => 1 ≤ f ∧ f ≤ 4 ∧ Q.1 1 14 = nI f ∧ Q.1 1 15 = nI b
        | .inr p => p ≤ n ∧ Q.1 1 14 = 0 ∧ RPt T n p Q
      unfold sN
      rcases a6 with ⟨b1, b0, b2, b3⟩ | ⟨b1, b2, b3⟩
      · rw [if_pos (cP_iff.mpr b1)]
        exact ⟨(tE_le h1).2.1, b2, b3⟩
      · rw [if_neg (fun z => b1 (cP_iff.mp z))]
        have fr := fN_rng T n p
        exact ⟨fr.1, fr.2, b2, b3⟩
    · cases z1
      have := (sN_in z2).1
      rcases a6 with ⟨b1, b0, -⟩ | ⟨b1, -⟩
      · exact b0
      · exact absurd this b1
/-- a code, if nothing is amiss -/
theorem rm_code {P0 : PH} {r : (Nat × Nat) ⊕ Nat} {m : Nat} (h : ResM T n P0 P r) (h19 : P.1 1 19 = nI m) (hm : m < 400) (a b c d : Int32) : ∃ Q, Mo_code a b c d P = some Q ∧ ResM T n P0 Q r ∧ (∀ j, j < 4 * m → Q.1 94 j = P.1 94 j) ∧ Q.1 1 13 = P.1 1 13 ∧ (∀ p, r = .inr p → Q.1 1 19 = nI (m + 1) ∧ Q.1 94 (4 * m) = a ∧ Q.1 94 (4 * m + 1) = b ∧ Q.1 94 (4 * m + 3) = d) := by
  obtain ⟨hT, ho, h⟩ := h
  cases r with
  | inl e =>
    obtain ⟨f, b⟩ := e
    obtain ⟨h1, h2, h3, h4⟩ := h
    exact ⟨P, mo_codeF (by rw [h3]; exact nI_ne0 (by omega) (by omega)), ⟨hT, ho, h1, h2, h3, h4⟩, fun _ _ => rfl, rfl, fun p z => by cases z⟩
  | inr p =>
    obtain ⟨h1, h2, h3⟩ := h
    obtain ⟨Q, a1, a2, a3, a4, a5, a6, a7, a8, a9⟩ := mo_code0 (a := a) (b := b) (c := c) (d := d) h2 h19 hm
    obtain ⟨r1, r2, r3, r4, r5⟩ := h3
    exact ⟨Q, a1, ⟨hT.kp a9, ho.tr a9, h1, by rw [a8 14 (by decide)]; exact h2, by rw [a8 9 (by decide)]; exact r1, by rw [a8 10 (by decide)]; exact r2, by rw [a8 11 (by decide)]; exact r3, fun z => by rw [a8 12 (by decide)]; exact r4 z, fun z => by rw [a8 12 (by decide)]; exact r5 z⟩, a7, a8 13 (by decide), fun p z => ⟨a2, a3, a4, a6⟩⟩
/-- which word -/
theorem mo_words (hT : TXm T n P) (hp : p ≤ n) (hR : RPt T n p P) (hb : P.1 1 14 = 0) : (∀ w, tK T n p = 1 → wdO T (tB T n p) (tE T n p) = some w → ∀ i, i < 14 → Mo_isWord i P = some (if decide (i = w) then 1 else 0)) ∧ ((¬ (tK T n p = 1 ∧ ∃ w, wdO T (tB T n p) (tE T n p) = some w)) → ∀ i, i < 14 → Mo_isWord i P = some 0) := by
  refine ⟨fun w hk hw i hi => ?_, fun hn i hi => ?_⟩
  · obtain ⟨h1, h2, -⟩ := fsp_some hw
    rw [mo_isWord hT hp hR hb hi, decide_eq_true hk, Bool.true_and]
    by_cases z : i = w
    · rw [z, h2, decide_eq_true rfl]
    · rw [decide_eq_false z, show spW T (tB T n p) (tE T n p) i = false from ts_nt (fun q => z (spW_one hi h1 q h2))]
  · rw [mo_isWord hT hp hR hb hi]
    have : (decide (tK T n p = 1) && spW T (tB T n p) (tE T n p) i) = false := ts_nt (fun q => by
      rw [Bool.and_eq_true, decide_eq_true_eq] at q
      exact hn ⟨q.1, i, wdO_is hi q.2⟩)
    rw [this]
    rfl
theorem mo_wayT (hT : TXm T n P) (hp : p ≤ n) (hR : RPt T n p P) (hb : P.1 1 14 = 0) : (∀ w, tK T n p = 1 → wdO T (tB T n p) (tE T n p) = some w → Mo_wayTold P = some (if w < 8 then nI w else m1)) ∧ ((¬ (tK T n p = 1 ∧ ∃ w, wdO T (tB T n p) (tE T n p) = some w)) → Mo_wayTold P = some m1) := by
  obtain ⟨g1, g2⟩ := mo_words hT hp hR hb
  refine ⟨fun w hk hw => ?_, fun hn => ?_⟩
  · have g := g1 w hk hw
    unfold Mo_wayTold
    rw [g 0 (by decide), g 1 (by decide), g 2 (by decide), g 3 (by decide), g 4 (by decide), g 5 (by decide), g 6 (by decide), g 7 (by decide)]
    simp only [Option.bind_some]
    by_cases c : w < 8
    · rcases (show w = 0 ∨ w = 1 ∨ w = 2 ∨ w = 3 ∨ w = 4 ∨ w = 5 ∨ w = 6 ∨ w = 7 by omega) with rfl | rfl | rfl | rfl | rfl | rfl | rfl | rfl <;> rfl
    · have nz : ∀ i, i < 8 → ((if decide (i = w) = true then (1 : Int32) else 0) = 0) := fun i hi => by
        rw [decide_eq_false (show ¬ i = w by omega)]; rfl
      rw [if_pos (nz 0 (by decide)), if_pos (nz 1 (by decide)), if_pos (nz 2 (by decide)), if_pos (nz 3 (by decide)), if_pos (nz 4 (by decide)), if_pos (nz 5 (by decide)), if_pos (nz 6 (by decide)), if_pos (nz 7 (by decide)), if_neg c]
      rfl
  · have g := g2 hn
    unfold Mo_wayTold
    rw [g 0 (by decide), g 1 (by decide), g 2 (by decide), g 3 (by decide), g 4 (by decide), g 5 (by decide), g 6 (by decide), g 7 (by decide)]
    rfl
end HED
