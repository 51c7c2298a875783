/-! DRAWING: the reference's token, words -/
section RDS
variable {P : PH} {T : Nat → Nat} {n p : Nat}
def TXm (T : Nat → Nat) (n : Nat) (P : PH) : Prop := n ≤ 700 ∧ (∀ k, k < n → T k < 256 ∧ P.1 93 k = nI (T k)) ∧ P.1 1 8 = nI n
def oRd (P Q : PH) : Prop := (∀ n, n ≠ 1 → Q.1 n = P.1 n) ∧ (∀ k, k ≠ 9 → k ≠ 10 → k ≠ 11 → k ≠ 12 → Q.1 1 k = P.1 1 k) ∧ Q.2 = P.2
theorem oRd.rf (P : PH) : oRd P P := ⟨fun _ _ => rfl, fun _ _ _ _ _ => rfl, rfl⟩
theorem oRd.tr {P Q R : PH} (h : oRd P Q) (h2 : oRd Q R) : oRd P R := ⟨fun n a => (h2.1 n a).trans (h.1 n a), fun k a b c d => (h2.2.1 k a b c d).trans (h.2.1 k a b c d), h2.2.2.trans h.2.2⟩
theorem oRd.s {P Q : PH} (h : oRd P Q) {k : Nat} (hk : k = 9 ∨ k = 10 ∨ k = 11 ∨ k = 12) (v : Int32) : oRd P (sI Q 1 k v) := ⟨fun n a => by rw [rowI_o _ _ _ a]; exact h.1 n a, fun j a b c d => by rw [rowI_s, pk_un (by omega)]; exact h.2.1 j a b c d, h.2.2⟩
theorem TXm.keep {Q : PH} (h : TXm T n P) (o : oRd P Q) : TXm T n Q := ⟨h.1, fun k hk => by rw [o.1 93 (by decide)]; exact h.2.1 k hk, by rw [o.2.1 8 (by decide) (by decide) (by decide) (by decide)]; exact h.2.2⟩
theorem mo_see (h : TXm T n P) {k : Nat} (hk : k < n) : Mo_see (nI k) P = some (nI (T k)) := by
  have := h.1
  unfold Mo_see
  rw [h.2.2, if_neg (nI_ge hk (by omega)), z_gd (by omega) (by decide), z_cl (by omega), (h.2.1 k hk).2]
theorem mo_see0 (h : TXm T n P) {k : Nat} (hk : n ≤ k) (hk2 : k < 1000) : Mo_see (nI k) P = some (nI 0) := by
  have := h.1
  unfold Mo_see
  rw [h.2.2, if_pos (by rw [z_le (by omega) (by omega)]; exact hk)]
  rfl
theorem mo_r94 {e : Nat} (hn : n ≤ 700) (he : e ≤ n) (h1 : ∀ j, p ≤ j → j < e → isLt (T j) = true) (h2 : e < n → isLt (T e) = false) : ∀ (m k f : Nat) (P : PH), k + m = e → p ≤ k → m < f → TXm T n P → P.1 1 9 = nI k → ∃ Q, Mo_reads_94 f P = some Q ∧ Q.1 1 9 = nI e ∧ Q.1 1 11 = nI 1 ∧ (∀ j, j ≠ 9 → j ≠ 11 → Q.1 1 j = P.1 1 j) ∧ oRd P Q := by
  intro m
  induction m with
  | zero =>
    intro k f P hk hp hf hT h6
    obtain ⟨f, rfl⟩ : ∃ q, f = q + 1 := ⟨f - 1, by omega⟩
    obtain rfl : k = e := by omega
    refine ⟨sI P 1 11 (1 : Int32), ?_, by rw [rowI_s, pk_un (by decide)]; exact h6, by rw [rowI_s, pk_us]; rfl, fun j a b => by rw [rowI_s, pk_un b], (oRd.rf P).s (by omega) _⟩
    unfold Mo_reads_94
    rw [h6]
    by_cases c : k < n
    · have tl := (hT.2.1 k c).1
      rw [mo_see hT c, Option.bind_some, mo_isL tl, h2 c, Option.bind_some, if_pos (show (if false = true then (1 : Int32) else 0) = 0 from rfl), Option.bind_some]
    · rw [mo_see0 hT (by omega) (by omega), Option.bind_some, mo_isL (by decide), Option.bind_some, if_pos (by decide), Option.bind_some]
  | succ m ih =>
    intro k f P hk hp hf hT h6
    obtain ⟨f, rfl⟩ : ∃ q, f = q + 1 := ⟨f - 1, by omega⟩
    have c : k < n := by omega
    have o1 : oRd P (sI P 1 9 (nI (k + 1))) := (oRd.rf P).s (by omega) _
    obtain ⟨Q, e1, e2, e3, e4, e5⟩ := ih (k + 1) f (sI P 1 9 (nI (k + 1))) (by omega) (by omega) (by omega) (hT.keep o1) (by rw [rowI_s, pk_us])
    have tl := (hT.2.1 k c).1
    refine ⟨Q, ?_, e2, e3, fun j a b => by rw [e4 j a b, rowI_s, pk_un a], o1.tr e5⟩
    unfold Mo_reads_94
    rw [h6, mo_see hT c, Option.bind_some, mo_isL tl, h1 k hp (by omega), Option.bind_some, if_neg (show ¬ (if true = true then (1 : Int32) else 0) = 0 by decide), show nI k + (1 : Int32) = nI (k + 1) from nI_1 _, Option.bind_some]
    exact e1
theorem mo_r141 {e : Nat} (hn : n ≤ 700) (he : e ≤ n) (h1 : ∀ j, p ≤ j → j < e → isDg (T j) = true) (h2 : e < n → isDg (T e) = false) : ∀ (m k f : Nat) (P : PH) (v : Nat), k + m = e → p ≤ k → m < f → TXm T n P → P.1 1 9 = nI k → P.1 1 10 = nI p → P.1 1 12 = nI v → (k - p ≤ 3 → v = dgv T p (k - p)) → ∃ Q, Mo_reads_141 f P = some Q ∧ Q.1 1 9 = nI e ∧ Q.1 1 11 = nI (if e - p ≤ 3 then 2 else 4) ∧ (e - p ≤ 3 → Q.1 1 12 = nI (dgv T p (e - p))) ∧ (∀ j, j ≠ 9 → j ≠ 11 → j ≠ 12 → Q.1 1 j = P.1 1 j) ∧ oRd P Q := by
  intro m
  induction m with
  | zero =>
    intro k f P v hk hp hf hT h6 h8 h9 hd
    obtain ⟨f, rfl⟩ : ∃ q, f = q + 1 := ⟨f - 1, by omega⟩
    obtain rfl : k = e := by omega
    have fin : ∃ Q, Mo_reads_212 P = some Q ∧ Q.1 1 9 = nI k ∧ Q.1 1 11 = nI (if k - p ≤ 3 then 2 else 4) ∧ (k - p ≤ 3 → Q.1 1 12 = nI (dgv T p (k - p))) ∧ (∀ j, j ≠ 9 → j ≠ 11 → j ≠ 12 → Q.1 1 j = P.1 1 j) ∧ oRd P Q := by
      refine ⟨sI P 1 11 (nI (if k - p ≤ 3 then 2 else 4)), ?_, by rw [rowI_s, pk_un (by decide)]; exact h6, by rw [rowI_s, pk_us], fun z => by rw [rowI_s, pk_un (by decide), h9, hd z], fun j a b c => by rw [rowI_s, pk_un b], (oRd.rf P).s (by omega) _⟩
      unfold Mo_reads_212
      rw [h6, h8, show nI k - nI p = nI (k - p) from z_sub (by omega), Option.bind_some, Option.bind_some]
      by_cases z : k - p ≤ 3
      · rw [if_pos (show nI (k - p) ≤ (3 : Int32) from (show nI (k - p) ≤ nI 3 by rw [z_le (by omega) (by omega)]; exact z)), if_pos z]; rfl
      · rw [if_neg (show ¬ nI (k - p) ≤ (3 : Int32) from (show ¬ nI (k - p) ≤ nI 3 by rw [z_le (by omega) (by omega)]; exact z)), if_neg z]; rfl
    unfold Mo_reads_141
    rw [h6]
    by_cases c : k < n
    · have tl := (hT.2.1 k c).1
      rw [mo_see hT c, Option.bind_some, mo_isD tl, h2 c, Option.bind_some, if_pos (show (if false = true then (1 : Int32) else 0) = 0 from rfl)]
      exact fin
    · rw [mo_see0 hT (by omega) (by omega), Option.bind_some, mo_isD (by decide), Option.bind_some, if_pos (by decide)]
      exact fin
  | succ m ih =>
    intro k f P v hk hp hf hT h6 h8 h9 hd
    obtain ⟨f, rfl⟩ : ∃ q, f = q + 1 := ⟨f - 1, by omega⟩
    have c : k < n := by omega
    have tl := (hT.2.1 k c).1
    have dg := h1 k hp (by omega)
    obtain ⟨s1, s2, s3⟩ := dg_step (v := v) dg
    have go : ∀ w : Nat, (k + 1 - p ≤ 3 → w = dgv T p (k + 1 - p)) → ∃ Q, Mo_reads_196 (Mo_reads_141 f) (nI w) P = some Q ∧ Q.1 1 9 = nI e ∧ Q.1 1 11 = nI (if e - p ≤ 3 then 2 else 4) ∧ (e - p ≤ 3 → Q.1 1 12 = nI (dgv T p (e - p))) ∧ (∀ j, j ≠ 9 → j ≠ 11 → j ≠ 12 → Q.1 1 j = P.1 1 j) ∧ oRd P Q := by
      intro w hw2
      have o1 : oRd P (sI (sI P 1 12 (nI w)) 1 9 (nI (k + 1))) := ((oRd.rf P).s (by omega) _).s (by omega) _
      obtain ⟨Q, e1, e2, e3, e4, e5, e6⟩ := ih (k + 1) f (sI (sI P 1 12 (nI w)) 1 9 (nI (k + 1))) w (by omega) (by omega) (by omega) (hT.keep o1) (by rw [rowI_s, pk_us]) (by rw [rowI_s, pk_un (by decide), rowI_s, pk_un (by decide)]; exact h8) (by rw [rowI_s, pk_un (by decide), rowI_s, pk_us]) hw2
      refine ⟨Q, ?_, e2, e3, e4, fun j a b c => by rw [e5 j a b c, rowI_s, pk_un a, rowI_s, pk_un c], o1.tr e6⟩
      unfold Mo_reads_196
      rw [Option.bind_some, rowI_s, pk_un (by decide), h6, show nI k + (1 : Int32) = nI (k + 1) from nI_1 _, Option.bind_some]
      exact e1
    unfold Mo_reads_141
    rw [h6, mo_see hT c, Option.bind_some, mo_isD tl, dg, Option.bind_some, if_neg (show ¬ (if true = true then (1 : Int32) else 0) = 0 by decide), h8, show nI k - nI p = nI (k - p) from z_sub (by omega), h9, z_gd (show k < 700 by omega) (by decide), z_cl (by omega), (hT.2.1 k c).2]
    by_cases y : 3 ≤ k - p
    · rw [if_pos (show (3 : Int32) ≤ nI (k - p) from (show nI 3 ≤ nI (k - p) by rw [z_le (by omega) (by omega)]; exact y))]
      exact go v (fun z => by omega)
    · rw [if_neg (show ¬ (3 : Int32) ≤ nI (k - p) from (show ¬ nI 3 ≤ nI (k - p) by rw [z_le (by omega) (by omega)]; exact y)), s1]
      refine go _ (fun z => ?_)
      rw [show k + 1 - p = (k - p) + 1 by omega]
      show 10 * v + (T k - 48) = 10 * dgv T p (k - p) + (T (p + (k - p)) - 48)
      rw [← hd (by omega), show p + (k - p) = k by omega]
/-- the reference has read the token from p on -/
def RPt (T : Nat → Nat) (n p : Nat) (P : PH) : Prop := P.1 1 9 = nI (tE T n p) ∧ P.1 1 10 = nI (tB T n p) ∧ P.1 1 11 = nI (tK T n p) ∧ (tK T n p = 2 → P.1 1 12 = nI (tVal T n p)) ∧ (tK T n p = 3 → P.1 1 12 = nI (T (tB T n p)))
theorem mo_r52 (hT : TXm T n P) (hp : p ≤ n) (h9 : P.1 1 9 = nI (tB T n p)) : ∃ Q, Mo_reads_52 P = some Q ∧ RPt T n p Q ∧ oRd P Q := by
  have hn := hT.1
  obtain ⟨b1, b2⟩ := tB_le (T := T) hp
  obtain ⟨Q2, hQ2⟩ : ∃ Q2, Q2 = sI P 1 10 (nI (tB T n p)) := ⟨_, rfl⟩
  have o2 : oRd P Q2 := by rw [hQ2]; exact (oRd.rf P).s (by omega) _
  have hT2 := hT.keep o2
  have q9 : Q2.1 1 9 = nI (tB T n p) := by rw [hQ2, rowI_s, pk_un (by decide)]; exact h9
  have q10 : Q2.1 1 10 = nI (tB T n p) := by rw [hQ2, rowI_s, pk_us]
  unfold Mo_reads_52
  rw [h9, Option.bind_some, ← hQ2, q9, hT2.2.2]
  by_cases c : tB T n p < n
  · have tl := (hT.2.1 _ c).1
    rw [if_pos (nI_lt c (by omega)), z_gd (by omega) (by decide), z_cl (by omega), (hT2.2.1 _ c).2, Option.bind_some, mo_isL tl]
    cases l : isLt (T (tB T n p))
    · rw [Option.bind_some, if_pos (show (if false = true then (1 : Int32) else 0) = 0 from rfl), mo_isD tl]
      cases d : isDg (T (tB T n p))
      · rw [Option.bind_some, if_pos (show (if false = true then (1 : Int32) else 0) = 0 from rfl)]
        have eE : tE T n p = tB T n p + 1 := by unfold tE; rw [if_pos c, l, d]; rfl
        have lit : ∀ v : Nat, v < 256 → (nI (T (tB T n p)) = nI v ↔ T (tB T n p) = v) := fun v hv => by rw [nI_eq (by omega) (by omega)]
        have l59 : (nI (T (tB T n p)) = (59 : Int32) ↔ T (tB T n p) = 59) := lit 59 (by decide)
        have l40 : (nI (T (tB T n p)) = (40 : Int32) ↔ T (tB T n p) = 40) := lit 40 (by decide)
        have l41 : (nI (T (tB T n p)) = (41 : Int32) ↔ T (tB T n p) = 41) := lit 41 (by decide)
        have f261 : ∀ K : Nat, K ≠ 2 → tK T n p = K → ∃ Q, Mo_reads_261 (nI (T (tB T n p))) (nI K) Q2 = some Q ∧ RPt T n p Q ∧ oRd P Q := fun K k2 hK => by
          obtain ⟨R, hR⟩ : ∃ R, R = sI (sI (sI Q2 1 11 (nI K)) 1 12 (nI (T (tB T n p)))) 1 9 (nI (tB T n p + 1)) := ⟨_, rfl⟩
          refine ⟨R, ?_, ⟨?_, ?_, ?_, fun z => by omega, fun _ => ?_⟩, ?_⟩
          · unfold Mo_reads_261
            rw [Option.bind_some, Option.bind_some, rowI_s, pk_un (by decide), rowI_s, pk_un (by decide), q9, show nI (tB T n p) + (1 : Int32) = nI (tB T n p + 1) from nI_1 _, Option.bind_some, ← hR]
          · rw [hR, eE, rowI_s, pk_us]
          · rw [hR, rowI_s, pk_un (by decide), rowI_s, pk_un (by decide), rowI_s, pk_un (by decide)]; exact q10
          · rw [hR, hK, rowI_s, pk_un (by decide), rowI_s, pk_un (by decide), rowI_s, pk_us]
          · rw [hR, rowI_s, pk_un (by decide), rowI_s, pk_us]
          · rw [hR]; exact ((o2.s (by omega) _).s (by omega) _).s (by omega) _
        by_cases sg : T (tB T n p) = 59 ∨ T (tB T n p) = 40 ∨ T (tB T n p) = 41
        · have eK : tK T n p = 3 := by unfold tK; rw [if_pos c, l, d]; simp only [Bool.false_eq_true, if_false]; rw [if_pos sg]
          by_cases a1 : T (tB T n p) = 59
          · rw [if_pos (l59.mpr a1)]
            exact f261 3 (by decide) eK
          · rw [if_neg (fun z => a1 (l59.mp z))]
            by_cases a2 : T (tB T n p) = 40
            · rw [if_pos (l40.mpr a2)]
              exact f261 3 (by decide) eK
            · rw [if_neg (fun z => a2 (l40.mp z)), if_pos (l41.mpr (by omega))]
              exact f261 3 (by decide) eK
        · have eK : tK T n p = 4 := by unfold tK; rw [if_pos c, l, d]; simp only [Bool.false_eq_true, if_false]; rw [if_neg sg]
          rw [if_neg (fun z => sg (Or.inl (l59.mp z))), if_neg (fun z => sg (Or.inr (Or.inl (l40.mp z)))), if_neg (fun z => sg (Or.inr (Or.inr (l41.mp z))))]
          exact f261 4 (by decide) eK
      · rw [Option.bind_some, if_neg (show ¬ (if true = true then (1 : Int32) else 0) = 0 by decide), Option.bind_some]
        obtain ⟨e1, e2, e3, e4⟩ := nxt_ok (T := T) (q := fun c => !isDg c) b2
        have e1 : tB T n p ≤ tDe T n p := e1
        have e2 : tDe T n p ≤ n := e2
        have e4 : tDe T n p < n → (!isDg (T (tDe T n p))) = true := e4
        have eE : tE T n p = tDe T n p := by unfold tE; rw [if_pos c, l, d]; rfl
        obtain ⟨Q3, f1, f2, f3, f4, f5, f6⟩ := mo_r141 (p := tB T n p) hn e2 (fun j x y => by have := e3 j x y; simpa using this) (fun x => by have := e4 x; simpa using this) (tDe T n p - tB T n p) (tB T n p) bigN (sI Q2 1 12 (0 : Int32)) 0 (by omega) (Nat.le_refl _) (big_gt (by omega)) (hT2.keep ((oRd.rf Q2).s (by omega) _)) (by rw [rowI_s, pk_un (by decide)]; exact q9) (by rw [rowI_s, pk_un (by decide)]; exact q10) (by rw [rowI_s, pk_us]; rfl) (fun _ => by rw [Nat.sub_self]; rfl)
        have eK : tK T n p = (if tDe T n p - tB T n p ≤ 3 then 2 else 4) := by unfold tK; rw [if_pos c, l, d]; simp only [Bool.false_eq_true, if_false, if_true]
        refine ⟨Q3, f1, ⟨by rw [eE]; exact f2, by rw [f5 10 (by decide) (by decide) (by decide), rowI_s, pk_un (by decide)]; exact q10, by rw [eK]; exact f3, fun z => ?_, fun z => ?_⟩, (o2.s (k := 12) (by omega) _).tr f6⟩
        · rw [eK] at z
          refine f4 ?_
          by_cases y : tDe T n p - tB T n p ≤ 3
          · exact y
          · rw [if_neg y] at z; omega
        · rw [eK] at z
          split at z <;> omega
    · rw [Option.bind_some, if_neg (show ¬ (if true = true then (1 : Int32) else 0) = 0 by decide)]
      obtain ⟨e1, e2, e3, e4⟩ := nxt_ok (T := T) (q := fun c => !isLt c) b2
      have eE : tE T n p = nxt T n (fun c => !isLt c) (tB T n p) := by unfold tE; rw [if_pos c, l]; rfl
      have eK : tK T n p = 1 := by unfold tK; rw [if_pos c, l]; rfl
      obtain ⟨Q3, f1, f2, f3, f4, f5⟩ := mo_r94 (p := tB T n p) hn e2 (fun j x y => by have := e3 j x y; simpa using this) (fun x => by have := e4 x; simpa using this) (nxt T n (fun c => !isLt c) (tB T n p) - tB T n p) (tB T n p) bigN Q2 (by omega) (Nat.le_refl _) (big_gt (by omega)) hT2 q9
      exact ⟨Q3, f1, ⟨by rw [eE]; exact f2, by rw [f4 10 (by decide) (by decide)]; exact q10, by rw [eK]; exact f3, fun z => by omega, fun z => by omega⟩, o2.tr f5⟩
  · have eE : tE T n p = tB T n p := by unfold tE; rw [if_neg c]
    have eK : tK T n p = 0 := by unfold tK; rw [if_neg c]
    rw [if_neg (by rw [z_lt (by omega) (by omega)]; exact c), Option.bind_some]
    refine ⟨_, rfl, ⟨by rw [eE, rowI_s, pk_un (by decide)]; exact q9, by rw [rowI_s, pk_un (by decide)]; exact q10, by rw [eK, rowI_s, pk_us]; rfl, fun z => by omega, fun z => by omega⟩, o2.s (by omega) _⟩
theorem mo_reads (hT : TXm T n P) (hp : p ≤ n) (h9 : P.1 1 9 = nI p) : ∃ Q, Mo_reads P = some Q ∧ RPt T n p Q ∧ oRd P Q := by
  have hn := hT.1
  obtain ⟨b1, b2⟩ := tB_le (T := T) hp
  obtain ⟨-, -, c3, c4⟩ := nxt_ok (T := T) (q := fun c => !isBk c) hp
  have lp : ∀ (m k f : Nat) (P : PH), k + m = tB T n p → p ≤ k → m < f → TXm T n P → P.1 1 9 = nI k → ∃ Q, Mo_reads_0 f P = some Q ∧ RPt T n p Q ∧ oRd P Q := by
    intro m
    induction m with
    | zero =>
      intro k f P hk hpk hf hT h9
      obtain ⟨f, rfl⟩ : ∃ q, f = q + 1 := ⟨f - 1, by omega⟩
      have hk : k = tB T n p := by omega
      obtain ⟨Q, a1, a2, a3⟩ := mo_r52 hT hp (by rw [← hk]; exact h9)
      refine ⟨Q, ?_, a2, a3⟩
      unfold Mo_reads_0
      rw [h9, hT.2.2]
      by_cases c : k < n
      · have b : isBk (T k) = false := by
          have : (!isBk (T (tB T n p))) = true := c4 (by
            show tB T n p < n
            omega)
          rw [hk]
          simpa using this
        unfold isBk at b
        rw [Bool.or_eq_false_iff, decide_eq_false_iff_not, decide_eq_false_iff_not] at b
        have tl := (hT.2.1 k c).1
        rw [if_neg (nI_ge c (by omega)), z_gd (by omega) (by decide), z_gd (by omega) (by decide), z_cl (by omega), (hT.2.1 k c).2, if_neg (show ¬ nI (T k) = (32 : Int32) from (show ¬ nI (T k) = nI 32 by rw [z_eq (by omega) (by omega)]; exact b.2)), if_neg (show ¬ nI (T k) = (10 : Int32) from (show ¬ nI (T k) = nI 10 by rw [z_eq (by omega) (by omega)]; exact b.1))]
        exact a1
      · rw [if_pos (by rw [z_le (by omega) (by omega)]; omega)]
        exact a1
    | succ m ih =>
      intro k f P hk hpk hf hT h9
      obtain ⟨f, rfl⟩ : ∃ q, f = q + 1 := ⟨f - 1, by omega⟩
      have c : k < n := by omega
      have o1 : oRd P (sI P 1 9 (nI (k + 1))) := (oRd.rf P).s (by omega) _
      obtain ⟨Q, a1, a2, a3⟩ := ih (k + 1) f (sI P 1 9 (nI (k + 1))) (by omega) (by omega) (by omega) (hT.keep o1) (by rw [rowI_s, pk_us])
      have b : isBk (T k) = true := by
        have := c3 k hpk (by
          show k < tB T n p
          omega)
        simpa using this
      unfold isBk at b
      rw [Bool.or_eq_true, decide_eq_true_eq, decide_eq_true_eq] at b
      have tl := (hT.2.1 k c).1
      refine ⟨Q, ?_, a2, o1.tr a3⟩
      unfold Mo_reads_0
      rw [h9, hT.2.2, if_neg (nI_ge c (by omega)), z_gd (by omega) (by decide), z_gd (by omega) (by decide), z_cl (by omega), (hT.2.1 k c).2, show nI k + (1 : Int32) = nI (k + 1) from nI_1 _, Option.bind_some]
      by_cases y : T k = 32
      · rw [if_pos (by rw [y]; rfl)]
        exact a1
      · rw [if_neg (show ¬ nI (T k) = (32 : Int32) from (show ¬ nI (T k) = nI 32 by rw [z_eq (by omega) (by omega)]; exact y)), if_pos (by rw [b.resolve_right y]; rfl)]
        exact a1
  exact lp (tB T n p - p) p bigN P (by omega) (Nat.le_refl _) (big_gt (by omega)) hT h9
/-! words -/
def wl (i : Nat) : Nat := wLen.getD i 0
theorem wl_rng : ∀ i, i < 14 → 2 ≤ wl i ∧ wl i ≤ 9 := by decide +kernel
theorem wd_one : ∀ i, i < 14 → ∀ j, j < 14 → (wl i = wl j ∧ ∀ k, k < wl i → wCh i k = wCh j k) → i = j := by decide +kernel
/-- the text from b to e is word i -/
def spW (T : Nat → Nat) (b e i : Nat) : Bool := decide (e - b = wl i) && (fsp (fun k => !decide (nI (T (b + k)) = wCh i k)) (wl i)).isNone
theorem spW_iff {b e i : Nat} : spW T b e i = true ↔ e - b = wl i ∧ ∀ k, k < wl i → nI (T (b + k)) = wCh i k := by
  unfold spW
  rw [Bool.and_eq_true, decide_eq_true_eq]
  refine ⟨fun ⟨a, c⟩ => ⟨a, fun k hk => ?_⟩, fun ⟨a, c⟩ => ⟨a, ?_⟩⟩
  · cases f : fsp (fun k => !decide (nI (T (b + k)) = wCh i k)) (wl i) with
    | none => have := fsp_none f k hk; simpa using this
    | some x => rw [f] at c; cases c
  · rw [fsp_no (fun k hk => by rw [decide_eq_true (c k hk)]; rfl)]
    rfl
theorem spW_one {b e i j : Nat} (hi : i < 14) (hj : j < 14) (h1 : spW T b e i = true) (h2 : spW T b e j = true) : i = j := by
  rw [spW_iff] at h1 h2
  exact wd_one i hi j hj ⟨h1.1.symm.trans h2.1, fun k hk => by rw [← h1.2 k hk, ← h2.2 k (by rw [← h2.1, h1.1]; exact hk)]⟩
def wdO (T : Nat → Nat) (b e : Nat) : Option Nat := fsp (spW T b e) 14
theorem wdO_is {b e i : Nat} (hi : i < 14) (h : spW T b e i = true) : wdO T b e = some i := fsp_is hi h (fun j hj => ts_nt (fun q => by have := spW_one (show j < 14 by omega) hi q h; omega))
theorem re_spelled (hT : TXc T n P) {b e i : Nat} (hi : i < 14) (hbe : b ≤ e) (he : e ≤ n) (h6 : P.1 71 6 = nI e) (h8 : P.1 71 8 = nI b) : Re_isSpelled i P = some (if spW T b e i then 1 else 0) := by
  have hn := hT.1
  obtain ⟨w1, w2⟩ := wl_rng i hi
  have w2' : wLen.getD i 0 = wl i := rfl
  unfold Re_isSpelled
  rw [h6, h8, show nI e - nI b = nI (e - b) from z_sub hbe, w2', gd0]
  by_cases c : e - b = wl i
  · rw [if_pos (by rw [c])]
    have lp : ∀ (m k f : Nat), k + m = wl i → m < f → (∀ j, j < k → nI (T (b + j)) = wCh i j) → Re_isSpelled_20 i P f (nI k) = some (if spW T b e i then 1 else 0) := by
      intro m
      induction m with
      | zero =>
        intro k f hk hf ha
        obtain ⟨f, rfl⟩ : ∃ q, f = q + 1 := ⟨f - 1, by omega⟩
        unfold Re_isSpelled_20
        rw [w2', if_pos (by rw [z_le (by omega) (by omega)]; omega), gd1, spW_iff.mpr ⟨c, fun j hj => ha j (by omega)⟩]
        rfl
      | succ m ih =>
        intro k f hk hf ha
        obtain ⟨f, rfl⟩ : ∃ q, f = q + 1 := ⟨f - 1, by omega⟩
        unfold Re_isSpelled_20
        rw [w2', if_neg (nI_ge (by omega) (by omega)), z_gd (by omega) (by omega), h8, nI_add, re_byte hT (by omega), Option.bind_some, z_cl (by omega), gd0]
        by_cases y : nI (T (b + k)) = wCh i k
        · rw [if_pos y.symm, show nI k + 1 = nI (k + 1) from nI_1 _]
          exact ih (k + 1) f (by omega) (by omega) (fun j hj => by
            by_cases z : j = k
            · rw [z]; exact y
            · exact ha j (by omega))
        · rw [if_neg (fun z => y z.symm), show spW T b e i = false from ts_nt (fun z => y ((spW_iff.mp z).2 k (by omega)))]
          rfl
    exact lp (wl i) 0 bigN (by omega) (big_gt (by omega)) (fun j hj => by omega)
  · rw [if_neg (by rw [z_eq (by omega) (by omega)]; exact fun z => c z.symm), show spW T b e i = false from ts_nt (fun z => c (spW_iff.mp z).1)]
    rfl
theorem re_nameOf {i : Nat} (hi : i < 14) : Re_nameOf (nI i) P = some i := by
  unfold Re_nameOf
  rcases (show i = 0 ∨ i = 1 ∨ i = 2 ∨ i = 3 ∨ i = 4 ∨ i = 5 ∨ i = 6 ∨ i = 7 ∨ i = 8 ∨ i = 9 ∨ i = 10 ∨ i = 11 ∨ i = 12 ∨ i = 13 by omega) with rfl | rfl | rfl | rfl | rfl | rfl | rfl | rfl | rfl | rfl | rfl | rfl | rfl | rfl <;> rfl
theorem re_wordTold (hT : TXc T n P) {b e : Nat} (hbe : b ≤ e) (he : e ≤ n) (h6 : P.1 71 6 = nI e) (h8 : P.1 71 8 = nI b) : Re_wordTold P = some (enc (wdO T b e)) := by
  have lp : ∀ (m k f : Nat), k + m = 14 → m < f → (∀ j, j < k → spW T b e j = false) → Re_wordTold_2 P f (nI k) = some (enc (wdO T b e)) := by
    intro m
    induction m with
    | zero =>
      intro k f hk hf ha
      obtain ⟨f, rfl⟩ : ∃ q, f = q + 1 := ⟨f - 1, by omega⟩
      obtain rfl : k = 14 := by omega
      unfold Re_wordTold_2 wdO
      rw [if_pos (by decide), fsp_no ha]
      rfl
    | succ m ih =>
      intro k f hk hf ha
      obtain ⟨f, rfl⟩ : ∃ q, f = q + 1 := ⟨f - 1, by omega⟩
      have k14 : k < 14 := by omega
      unfold Re_wordTold_2
      rw [if_neg (show ¬ (14 : Int32) ≤ nI k from (show ¬ nI 14 ≤ nI k from nI_ge k14 (by decide))), re_nameOf k14, Option.bind_some, show (gdP (k < 14) : Option Int32 → Option Int32) = fun o => o from funext (fun o => if_pos k14), re_spelled hT k14 hbe he h6 h8, Option.bind_some]
      cases c : spW T b e k
      · rw [if_pos (show (if false = true then (1 : Int32) else 0) = 0 from rfl), show nI k + 1 = nI (k + 1) from nI_1 _]
        exact ih (k + 1) f (by omega) (by omega) (fun j hj => by
          by_cases z : j = k
          · rw [z]; exact c
          · exact ha j (by omega))
      · rw [if_neg (show ¬ (if true = true then (1 : Int32) else 0) = 0 by decide), wdO_is k14 c]
        rfl
  exact lp 14 0 bigN rfl (big_gt (by omega)) (fun j hj => by omega)
theorem mo_isWord (hT : TXm T n P) (hp : p ≤ n) (hR : RPt T n p P) (hb : P.1 1 14 = 0) {i : Nat} (hi : i < 14) : Mo_isWord i P = some (if decide (tK T n p = 1) && spW T (tB T n p) (tE T n p) i then 1 else 0) := by
  have hn := hT.1
  obtain ⟨w1, w2⟩ := wl_rng i hi
  have w2' : wLen.getD i 0 = wl i := rfl
  obtain ⟨b1, b2⟩ := tB_le (T := T) hp
  obtain ⟨e1, e2, -⟩ := tE_le (T := T) hp
  obtain ⟨r9, r10, r11, -, -⟩ := hR
  have kl : tK T n p ≤ 4 := by
    unfold tK
    split
    · split
      · decide
      · split
        · split <;> decide
        · split <;> decide
    · decide
  have z39 : ∀ f k : Nat, Mo_isWord_39 i P (f + 1) (0 : Int32) (nI k) = some (0 : Int32) := fun f k => by
    unfold Mo_isWord_39
    rw [if_pos rfl, gd0]
  obtain ⟨N, hN⟩ : ∃ N, bigN = N + 1 := ⟨1099511627775, rfl⟩
  unfold Mo_isWord
  rw [if_pos hb, r11, r9, r10, show nI (tE T n p) - nI (tB T n p) = nI (tE T n p - tB T n p) from z_sub e1, w2']
  by_cases cK : tK T n p = 1
  · rw [if_pos (by rw [cK]; rfl), decide_eq_true cK, Bool.true_and]
    by_cases c : tE T n p - tB T n p = wl i
    · rw [if_pos (by rw [c])]
      have lp : ∀ (m k f : Nat), k + m = wl i → m + 1 < f → (∀ j, j < k → nI (T (tB T n p + j)) = wCh i j) → Mo_isWord_39 i P f (1 : Int32) (nI k) = some (if spW T (tB T n p) (tE T n p) i then 1 else 0) := by
        intro m
        induction m with
        | zero =>
          intro k f hk hf ha
          obtain ⟨f, rfl⟩ : ∃ q, f = q + 1 := ⟨f - 1, by omega⟩
          unfold Mo_isWord_39
          rw [if_neg (by decide), w2', if_pos (by rw [z_le (by omega) (by omega)]; omega), gd1, spW_iff.mpr ⟨c, fun j hj => ha j (by omega)⟩]
          rfl
        | succ m ih =>
          intro k f hk hf ha
          obtain ⟨f, rfl⟩ : ∃ q, f = q + 1 := ⟨f - 1, by omega⟩
          unfold Mo_isWord_39
          rw [if_neg (by decide), w2', if_neg (nI_ge (by omega) (by omega)), r10, nI_add, z_gd (show tB T n p + k < 700 by omega) (by decide), z_gd (show k < wl i by omega) (by omega), z_cl (by omega), z_cl (by omega), (hT.2.1 _ (by omega)).2, show nI k + 1 = nI (k + 1) from nI_1 _]
          by_cases y : nI (T (tB T n p + k)) = wCh i k
          · rw [if_pos y]
            exact ih (k + 1) f (by omega) (by omega) (fun j hj => by
              by_cases z : j = k
              · rw [z]; exact y
              · exact ha j (by omega))
          · rw [if_neg y, show spW T (tB T n p) (tE T n p) i = false from ts_nt (fun z => y ((spW_iff.mp z).2 k (by omega)))]
            obtain ⟨f, rfl⟩ : ∃ q, f = q + 1 := ⟨f - 1, by omega⟩
            exact z39 f (k + 1)
      exact lp (wl i) 0 bigN (by omega) (big_gt (by omega)) (fun j hj => by omega)
    · rw [if_neg (by rw [z_eq (by omega) (by omega)]; exact c), show spW T (tB T n p) (tE T n p) i = false from ts_nt (fun z => c (spW_iff.mp z).1), hN]
      exact z39 N 0
  · rw [if_neg (show ¬ nI (tK T n p) = (1 : Int32) from (show ¬ nI (tK T n p) = nI 1 by rw [z_eq (by omega) (by omega)]; exact cK)), decide_eq_false cK, Bool.false_and, hN]
    exact z39 N 0
end RDS
