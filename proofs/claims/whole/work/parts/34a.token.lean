/-! DRAWING: the tokens of a text -/
def isLt (c : Nat) : Bool := decide (97 ≤ c) && decide (c ≤ 122)
def isDg (c : Nat) : Bool := decide (48 ≤ c) && decide (c ≤ 57)
def isBk (c : Nat) : Bool := decide (c = 10) || decide (c = 32)
def nxt (T : Nat → Nat) (n : Nat) (q : Nat → Bool) (p : Nat) : Nat := (fsp (fun k => decide (p ≤ k) && q (T k)) n).getD n
theorem nxt_ok {T : Nat → Nat} {n : Nat} {q : Nat → Bool} {p : Nat} (hp : p ≤ n) : p ≤ nxt T n q p ∧ nxt T n q p ≤ n ∧ (∀ j, p ≤ j → j < nxt T n q p → q (T j) = false) ∧ (nxt T n q p < n → q (T (nxt T n q p)) = true) := by
  unfold nxt
  cases e : fsp (fun k => decide (p ≤ k) && q (T k)) n with
  | none =>
    refine ⟨hp, Nat.le_refl _, fun j h1 h2 => ?_, fun h => absurd h (Nat.lt_irrefl _)⟩
    have := fsp_none e j h2
    rw [decide_eq_true h1, Bool.true_and] at this
    exact this
  | some k =>
    obtain ⟨h1, h2, h3⟩ := fsp_some e
    rw [Bool.and_eq_true, decide_eq_true_eq] at h2
    refine ⟨h2.1, Nat.le_of_lt h1, fun j a b => ?_, fun _ => h2.2⟩
    have := h3 j b
    rw [decide_eq_true a, Bool.true_and] at this
    exact this
def tB (T : Nat → Nat) (n p : Nat) : Nat := nxt T n (fun c => !isBk c) p
def tDe (T : Nat → Nat) (n p : Nat) : Nat := nxt T n (fun c => !isDg c) (tB T n p)
/-- 0 the end, 1 a word, 2 a number, 3 a sign, 4 no token -/
def tK (T : Nat → Nat) (n p : Nat) : Nat :=
  if tB T n p < n then
    (if isLt (T (tB T n p)) then 1 else if isDg (T (tB T n p)) then (if tDe T n p - tB T n p ≤ 3 then 2 else 4)
      else if T (tB T n p) = 59 ∨ T (tB T n p) = 40 ∨ T (tB T n p) = 41 then 3 else 4)
  else 0
def tE (T : Nat → Nat) (n p : Nat) : Nat :=
  if tB T n p < n then
    (if isLt (T (tB T n p)) then nxt T n (fun c => !isLt c) (tB T n p) else if isDg (T (tB T n p)) then tDe T n p else tB T n p + 1)
  else tB T n p
def dgv (T : Nat → Nat) (b : Nat) : Nat → Nat
  | 0 => 0
  | m + 1 => 10 * dgv T b m + (T (b + m) - 48)
def tVal (T : Nat → Nat) (n p : Nat) : Nat := dgv T (tB T n p) (tDe T n p - tB T n p)
theorem tB_le {T : Nat → Nat} {n p : Nat} (hp : p ≤ n) : p ≤ tB T n p ∧ tB T n p ≤ n := ⟨(nxt_ok hp).1, (nxt_ok hp).2.1⟩
theorem tE_le {T : Nat → Nat} {n p : Nat} (hp : p ≤ n) : tB T n p ≤ tE T n p ∧ tE T n p ≤ n ∧ (tK T n p ≠ 0 → tB T n p < tE T n p) := by
  have b := tB_le (T := T) hp
  unfold tE tK
  by_cases c : tB T n p < n
  · rw [if_pos c, if_pos c]
    cases l : isLt (T (tB T n p))
    · cases d : isDg (T (tB T n p))
      · simp only [Bool.false_eq_true, if_false]
        exact ⟨by omega, by omega, fun _ => by omega⟩
      · simp only [Bool.false_eq_true, if_false, if_true]
        obtain ⟨a1, a2, a3, a4⟩ := nxt_ok (T := T) (q := fun c => !isDg c) b.2
        have a1 : tB T n p ≤ tDe T n p := a1
        have a2 : tDe T n p ≤ n := a2
        have ne : tDe T n p ≠ tB T n p := fun z => by
          have a4 : tDe T n p < n → (!isDg (T (tDe T n p))) = true := a4
          have := a4 (by omega)
          rw [z, d] at this
          cases this
        exact ⟨a1, a2, fun _ => by omega⟩
    · simp only [if_true]
      obtain ⟨a1, a2, a3, a4⟩ := nxt_ok (T := T) (q := fun c => !isLt c) b.2
      have ne : nxt T n (fun c => !isLt c) (tB T n p) ≠ tB T n p := fun z => by
        have := a4 (by omega)
        rw [z, l] at this
        cases this
      exact ⟨a1, a2, fun _ => by omega⟩
  · rw [if_neg c, if_neg c]
    exact ⟨Nat.le_refl _, b.2, fun z => absurd rfl z⟩
/-! letters and digits, on both sides -/
section TOK
variable {P : PH} {T : Nat → Nat} {n p : Nat}
theorem re_isL {c : Nat} (hc : c < 256) (P : PH) : Re_isLetter (nI c) P = some (if isLt c then 1 else 0) := by
  unfold Re_isLetter isLt
  rw [gd0, gd1]
  by_cases a : c < 97
  · rw [if_pos (show nI c < (97 : Int32) from nI_lt a (by decide)), decide_eq_false (by omega)]; rfl
  · rw [if_neg (show ¬ nI c < (97 : Int32) from (show ¬ nI c < nI 97 by rw [z_lt (by omega) (by omega)]; exact a)), decide_eq_true (by omega)]
    by_cases b : 122 < c
    · rw [if_pos (show (122 : Int32) < nI c from nI_lt b (by omega)), decide_eq_false (by omega)]; rfl
    · rw [if_neg (show ¬ (122 : Int32) < nI c from (show ¬ nI 122 < nI c by rw [z_lt (by omega) (by omega)]; exact b)), decide_eq_true (by omega)]; rfl
theorem re_isD {c : Nat} (hc : c < 256) (P : PH) : Re_isDigit (nI c) P = some (if isDg c then 1 else 0) := by
  unfold Re_isDigit isDg
  rw [gd0, gd1]
  by_cases a : c < 48
  · rw [if_pos (show nI c < (48 : Int32) from nI_lt a (by decide)), decide_eq_false (by omega)]; rfl
  · rw [if_neg (show ¬ nI c < (48 : Int32) from (show ¬ nI c < nI 48 by rw [z_lt (by omega) (by omega)]; exact a)), decide_eq_true (by omega)]
    by_cases b : 57 < c
    · rw [if_pos (show (57 : Int32) < nI c from nI_lt b (by omega)), decide_eq_false (by omega)]; rfl
    · rw [if_neg (show ¬ (57 : Int32) < nI c from (show ¬ nI 57 < nI c by rw [z_lt (by omega) (by omega)]; exact b)), decide_eq_true (by omega)]; rfl
theorem mo_isL {c : Nat} (hc : c < 256) (P : PH) : Mo_isLetter (nI c) P = some (if isLt c then 1 else 0) := re_isL hc P
theorem mo_isD {c : Nat} (hc : c < 256) (P : PH) : Mo_isDigit (nI c) P = some (if isDg c then 1 else 0) := re_isD hc P
/-! the class's token -/
def TXc (T : Nat → Nat) (n : Nat) (P : PH) : Prop := n ≤ 700 ∧ (∀ k, k < n → T k < 256 ∧ P.1 72 k &&& 255 = nI (T k)) ∧ P.1 71 5 = nI n
def oTk (P Q : PH) : Prop := (∀ n, n ≠ 71 → Q.1 n = P.1 n) ∧ (∀ k, k ≠ 1 → k ≠ 2 → k ≠ 6 → k ≠ 7 → k ≠ 8 → k ≠ 9 → Q.1 71 k = P.1 71 k) ∧ Q.2 = P.2
theorem oTk.rf (P : PH) : oTk P P := ⟨fun _ _ => rfl, fun _ _ _ _ _ _ _ => rfl, rfl⟩
theorem oTk.tr {P Q R : PH} (h : oTk P Q) (h2 : oTk Q R) : oTk P R := ⟨fun n a => (h2.1 n a).trans (h.1 n a), fun k a b c d e f => (h2.2.1 k a b c d e f).trans (h.2.1 k a b c d e f), h2.2.2.trans h.2.2⟩
theorem oTk.s {P Q : PH} (h : oTk P Q) {k : Nat} (hk : k = 1 ∨ k = 2 ∨ k = 6 ∨ k = 7 ∨ k = 8 ∨ k = 9) (v : Int32) : oTk P (sI Q 71 k v) := ⟨fun n a => by rw [rowI_o _ _ _ a]; exact h.1 n a, fun j a b c d e f => by rw [rowI_s, pk_un (by omega)]; exact h.2.1 j a b c d e f, h.2.2⟩
theorem TXc.keep {Q : PH} (h : TXc T n P) (o : oTk P Q) : TXc T n Q := ⟨h.1, fun k hk => by rw [o.1 72 (by decide)]; exact h.2.1 k hk, by rw [o.2.1 5 (by decide) (by decide) (by decide) (by decide) (by decide) (by decide)]; exact h.2.2⟩
theorem re_byte (h : TXc T n P) {k : Nat} (hk : k < n) : Re_byteAt (nI k) P = some (nI (T k)) := by
  have := h.1
  unfold Re_byteAt
  rw [if_neg (nI_pos (by omega)), h.2.2, if_neg (nI_ge hk (by omega)), if_neg (show ¬ (700 : Int32) ≤ nI k from (show ¬ nI 700 ≤ nI k from nI_ge (by omega) (by decide))), z_gd (by omega) (by decide), z_cl (by omega), (h.2.1 k hk).2]
theorem re_byte0 (h : TXc T n P) {k : Nat} (hk : n ≤ k) (hk2 : k < 1000) : Re_byteAt (nI k) P = some (nI 0) := by
  have := h.1
  unfold Re_byteAt
  rw [if_neg (nI_pos (by omega)), h.2.2, if_pos (by rw [z_le (by omega) (by omega)]; exact hk)]
  rfl
theorem re_skip (h : TXc T n P) {e : Nat} (he : e ≤ n) (h1 : ∀ j, p ≤ j → j < e → isBk (T j) = true) (h2 : e < n → isBk (T e) = false) : ∀ (m k f : Nat) (P : PH), k + m = e → p ≤ k → m < f → TXc T n P → P.1 71 6 = nI k → ∃ Q, Re_skipBlanks_5 f (nI k) P = some Q ∧ Q.1 71 6 = nI e ∧ (∀ j, j ≠ 6 → Q.1 71 j = P.1 71 j) ∧ oTk P Q := by
  have hn := h.1
  intro m
  induction m with
  | zero =>
    intro k f P hk hp hf hT h6
    obtain ⟨f, rfl⟩ : ∃ q, f = q + 1 := ⟨f - 1, by omega⟩
    obtain rfl : k = e := by omega
    refine ⟨P, ?_, h6, fun _ _ => rfl, oTk.rf P⟩
    unfold Re_skipBlanks_5
    rw [hT.2.2]
    by_cases c : k < n
    · have b := h2 c
      unfold isBk at b
      rw [Bool.or_eq_false_iff, decide_eq_false_iff_not, decide_eq_false_iff_not] at b
      have tl := (hT.2.1 k c).1
      rw [if_neg (nI_ge c (by omega)), re_byte hT c, Option.bind_some, if_neg (show ¬ nI (T k) = (10 : Int32) from (show ¬ nI (T k) = nI 10 by rw [z_eq (by omega) (by omega)]; exact b.1)), Option.bind_some, if_neg (show ¬ nI (T k) = (32 : Int32) from (show ¬ nI (T k) = nI 32 by rw [z_eq (by omega) (by omega)]; exact b.2))]
    · rw [if_pos (by rw [z_le (by omega) (by omega)]; omega)]
  | succ m ih =>
    intro k f P hk hp hf hT h6
    obtain ⟨f, rfl⟩ : ∃ q, f = q + 1 := ⟨f - 1, by omega⟩
    have c : k < n := by omega
    have k1 : nI k + (1 : Int32) = nI (k + 1) := nI_1 _
    have o1 : oTk P (sI P 71 6 (nI (k + 1))) := (oTk.rf P).s (by omega) _
    obtain ⟨Q, e1, e2, e3, e4⟩ := ih (k + 1) f (sI P 71 6 (nI (k + 1))) (by omega) (by omega) (by omega) (hT.keep o1) (by rw [rowI_s, pk_us])
    have b := h1 k hp (by omega)
    unfold isBk at b
    rw [Bool.or_eq_true, decide_eq_true_eq, decide_eq_true_eq] at b
    have tl := (hT.2.1 k c).1
    refine ⟨Q, ?_, e2, fun j a => by rw [e3 j a, rowI_s, pk_un a], o1.tr e4⟩
    unfold Re_skipBlanks_5
    rw [hT.2.2, if_neg (nI_ge c (by omega)), re_byte hT c, Option.bind_some, k1, Option.bind_some]
    by_cases b1 : T k = 10
    · rw [if_pos (by rw [b1]; rfl)]
      exact e1
    · rw [if_neg (show ¬ nI (T k) = (10 : Int32) from (show ¬ nI (T k) = nI 10 by rw [z_eq (by omega) (by omega)]; exact b1)), Option.bind_some, if_pos (by rw [b.resolve_left b1]; rfl)]
      exact e1
theorem re_letters (hn : n ≤ 700) {e : Nat} (he : e ≤ n) (h1 : ∀ j, p ≤ j → j < e → isLt (T j) = true) (h2 : e < n → isLt (T e) = false) : ∀ (m k f : Nat) (P : PH), k + m = e → p ≤ k → m < f → TXc T n P → P.1 71 6 = nI k → ∃ Q, Re_letters_5 f (nI k) P = some Q ∧ Q.1 71 6 = nI e ∧ Q.1 71 7 = nI 1 ∧ (∀ j, j ≠ 6 → j ≠ 7 → Q.1 71 j = P.1 71 j) ∧ oTk P Q := by
  intro m
  induction m with
  | zero =>
    intro k f P hk hp hf hT h6
    obtain ⟨f, rfl⟩ : ∃ q, f = q + 1 := ⟨f - 1, by omega⟩
    obtain rfl : k = e := by omega
    refine ⟨sI P 71 7 (1 : Int32), ?_, by rw [rowI_s, pk_un (by decide)]; exact h6, by rw [rowI_s, pk_us]; rfl, fun j a b => by rw [rowI_s, pk_un b], (oTk.rf P).s (by omega) _⟩
    unfold Re_letters_5
    rw [hT.2.2, Option.bind_some]
    by_cases c : k < n
    · have tl := (hT.2.1 k c).1
      rw [if_neg (nI_ge c (by omega)), re_byte hT c, Option.bind_some, re_isL tl, h2 c, Option.bind_some, if_pos (show (if false = true then (1 : Int32) else 0) = 0 from rfl)]
    · rw [if_pos (by rw [z_le (by omega) (by omega)]; omega)]
  | succ m ih =>
    intro k f P hk hp hf hT h6
    obtain ⟨f, rfl⟩ : ∃ q, f = q + 1 := ⟨f - 1, by omega⟩
    have c : k < n := by omega
    have o1 : oTk P (sI P 71 6 (nI (k + 1))) := (oTk.rf P).s (by omega) _
    obtain ⟨Q, e1, e2, e3, e4, e5⟩ := ih (k + 1) f (sI P 71 6 (nI (k + 1))) (by omega) (by omega) (by omega) (hT.keep o1) (by rw [rowI_s, pk_us])
    have tl := (hT.2.1 k c).1
    refine ⟨Q, ?_, e2, e3, fun j a b => by rw [e4 j a b, rowI_s, pk_un a], o1.tr e5⟩
    unfold Re_letters_5
    rw [hT.2.2, if_neg (nI_ge c (by omega)), re_byte hT c, Option.bind_some, re_isL tl, h1 k hp (by omega), Option.bind_some, if_neg (show ¬ (if true = true then (1 : Int32) else 0) = 0 by decide), show nI k + (1 : Int32) = nI (k + 1) from nI_1 _, Option.bind_some]
    exact e1
theorem dg_step {c v : Nat} (hd : isDg c = true) : (((10 : Int32) * nI v) + nI c) - (48 : Int32) = nI (10 * v + (c - 48)) ∧ 48 ≤ c ∧ c ≤ 57 := by
  unfold isDg at hd
  rw [Bool.and_eq_true, decide_eq_true_eq, decide_eq_true_eq] at hd
  refine ⟨?_, hd.1, hd.2⟩
  rw [show (10 : Int32) = nI 10 from rfl, pk_mul, nI_add, show (48 : Int32) = nI 48 from rfl]
  have : nI (10 * v + c) - nI 48 = nI (10 * v + c - 48) := z_sub (by omega)
  rw [this]
  congr 1
  omega
theorem re_digits (hn : n ≤ 700) {e : Nat} (he : e ≤ n) (h1 : ∀ j, p ≤ j → j < e → isDg (T j) = true) (h2 : e < n → isDg (T e) = false) : ∀ (m k f : Nat) (P : PH) (v : Nat), k + m = e → p ≤ k → m < f → TXc T n P → P.1 71 6 = nI k → P.1 71 8 = nI p → P.1 71 9 = nI v → v < 10000 → (k - p ≤ 3 → v = dgv T p (k - p) ∧ v < 10 ^ (k - p)) → ∃ Q, Re_digits_10 f (nI k) P = some Q ∧ Q.1 71 6 = nI e ∧ Q.1 71 7 = nI (if e - p ≤ 3 then 2 else 3) ∧ (e - p ≤ 3 → Q.1 71 9 = nI (dgv T p (e - p))) ∧ (∀ j, j ≠ 6 → j ≠ 7 → j ≠ 9 → Q.1 71 j = P.1 71 j) ∧ oTk P Q := by
  intro m
  induction m with
  | zero =>
    intro k f P v hk hp hf hT h6 h8 h9 hv hd
    obtain ⟨f, rfl⟩ : ∃ q, f = q + 1 := ⟨f - 1, by omega⟩
    obtain rfl : k = e := by omega
    have fin : ∃ Q, Re_digits_79 P = some Q ∧ Q.1 71 6 = nI k ∧ Q.1 71 7 = nI (if k - p ≤ 3 then 2 else 3) ∧ (k - p ≤ 3 → Q.1 71 9 = nI (dgv T p (k - p))) ∧ (∀ j, j ≠ 6 → j ≠ 7 → j ≠ 9 → Q.1 71 j = P.1 71 j) ∧ oTk P Q := by
      refine ⟨sI P 71 7 (nI (if k - p ≤ 3 then 2 else 3)), ?_, by rw [rowI_s, pk_un (by decide)]; exact h6, by rw [rowI_s, pk_us], fun z => by rw [rowI_s, pk_un (by decide), h9, (hd z).1], fun j a b c => by rw [rowI_s, pk_un b], (oTk.rf P).s (by omega) _⟩
      unfold Re_digits_79
      rw [h6, h8, show nI k - nI p = nI (k - p) from z_sub (by omega), Option.bind_some, Option.bind_some]
      by_cases z : k - p ≤ 3
      · rw [if_pos (show nI (k - p) ≤ (3 : Int32) from (show nI (k - p) ≤ nI 3 by rw [z_le (by omega) (by omega)]; exact z)), if_pos z]; rfl
      · rw [if_neg (show ¬ nI (k - p) ≤ (3 : Int32) from (show ¬ nI (k - p) ≤ nI 3 by rw [z_le (by omega) (by omega)]; exact z)), if_neg z]; rfl
    unfold Re_digits_10
    rw [hT.2.2]
    by_cases c : k < n
    · have tl := (hT.2.1 k c).1
      rw [if_neg (nI_ge c (by omega)), re_byte hT c, Option.bind_some, re_isD tl, h2 c, Option.bind_some, if_pos (show (if false = true then (1 : Int32) else 0) = 0 from rfl)]
      exact fin
    · rw [if_pos (by rw [z_le (by omega) (by omega)]; omega)]
      exact fin
  | succ m ih =>
    intro k f P v hk hp hf hT h6 h8 h9 hv hd
    obtain ⟨f, rfl⟩ : ∃ q, f = q + 1 := ⟨f - 1, by omega⟩
    have c : k < n := by omega
    have tl := (hT.2.1 k c).1
    have dg := h1 k hp (by omega)
    obtain ⟨s1, s2, s3⟩ := dg_step (v := v) dg
    have go : ∀ w : Nat, w < 10000 → (k + 1 - p ≤ 3 → w = dgv T p (k + 1 - p) ∧ w < 10 ^ (k + 1 - p)) → ∃ Q, Re_digits_63 (Re_digits_10 f) (nI k) (nI w) P = some Q ∧ Q.1 71 6 = nI e ∧ Q.1 71 7 = nI (if e - p ≤ 3 then 2 else 3) ∧ (e - p ≤ 3 → Q.1 71 9 = nI (dgv T p (e - p))) ∧ (∀ j, j ≠ 6 → j ≠ 7 → j ≠ 9 → Q.1 71 j = P.1 71 j) ∧ oTk P Q := by
      intro w hw hw2
      have o1 : oTk P (sI (sI P 71 9 (nI w)) 71 6 (nI (k + 1))) := ((oTk.rf P).s (by omega) _).s (by omega) _
      obtain ⟨Q, e1, e2, e3, e4, e5, e6⟩ := ih (k + 1) f (sI (sI P 71 9 (nI w)) 71 6 (nI (k + 1))) w (by omega) (by omega) (by omega) (hT.keep o1) (by rw [rowI_s, pk_us]) (by rw [rowI_s, pk_un (by decide), rowI_s, pk_un (by decide)]; exact h8) (by rw [rowI_s, pk_un (by decide), rowI_s, pk_us]) hw hw2
      refine ⟨Q, ?_, e2, e3, e4, fun j a b c => by rw [e5 j a b c, rowI_s, pk_un a, rowI_s, pk_un c], o1.tr e6⟩
      unfold Re_digits_63
      rw [Option.bind_some, show nI k + (1 : Int32) = nI (k + 1) from nI_1 _, Option.bind_some]
      exact e1
    unfold Re_digits_10
    rw [hT.2.2, if_neg (nI_ge c (by omega)), re_byte hT c, Option.bind_some, re_isD tl, dg, Option.bind_some, if_neg (show ¬ (if true = true then (1 : Int32) else 0) = 0 by decide), h9]
    by_cases y : 1000 ≤ v
    · rw [if_pos (show (1000 : Int32) ≤ nI v from (show nI 1000 ≤ nI v by rw [z_le (by omega) (by omega)]; exact y))]
      refine go v hv (fun z => ?_)
      have := (hd (by omega)).2
      have p3 : 10 ^ (k - p) ≤ 10 ^ 2 := Nat.pow_le_pow_right (by decide) (by omega)
      have : (10 : Nat) ^ 2 = 100 := rfl
      omega
    · rw [if_neg (show ¬ (1000 : Int32) ≤ nI v from (show ¬ nI 1000 ≤ nI v by rw [z_le (by omega) (by omega)]; exact y)), Option.bind_some, s1]
      refine go _ (by omega) (fun z => ?_)
      obtain ⟨g1, g2⟩ := hd (by omega)
      have e9 : k + 1 - p = (k - p) + 1 := by omega
      rw [e9]
      refine ⟨?_, ?_⟩
      · show 10 * v + (T k - 48) = 10 * dgv T p (k - p) + (T (p + (k - p)) - 48)
        rw [← g1, show p + (k - p) = k by omega]
      · rw [Nat.pow_succ]; omega
/-- the class's code of a kind -/
def kdC (T : Nat → Nat) (n p : Nat) : Nat := if tK T n p = 3 then T (tB T n p) else if tK T n p = 4 then 3 else tK T n p
theorem re_token (hT : TXc T n P) (hp : p ≤ n) (h1 : P.1 71 1 = 0) (h6 : P.1 71 6 = nI p) : ∃ Q, Re_token P = some Q ∧ Q.1 71 6 = nI (tE T n p) ∧ Q.1 71 8 = nI (tB T n p) ∧ Q.1 71 7 = nI (kdC T n p) ∧ (tK T n p = 2 → Q.1 71 9 = nI (tVal T n p)) ∧ (tK T n p ≠ 4 → Q.1 71 1 = 0 ∧ Q.1 71 2 = P.1 71 2) ∧ (tK T n p = 4 → Q.1 71 1 = nI 1 ∧ Q.1 71 2 = nI (tB T n p)) ∧ oTk P Q := by
  have hn := hT.1
  obtain ⟨b1, b2⟩ := tB_le (T := T) hp
  obtain ⟨-, -, c3, c4⟩ := nxt_ok (T := T) (q := fun c => !isBk c) hp
  obtain ⟨Q1, s1, s2, s3, s4⟩ := re_skip (p := p) hT (e := tB T n p) b2 (fun j x y => by have := c3 j x y; simpa using this) (fun x => by
    have : (!isBk (T (tB T n p))) = true := c4 x
    simpa using this) (tB T n p - p) p bigN P (by omega) (Nat.le_refl _) (big_gt (by omega)) hT h6
  obtain ⟨Q2, hQ2⟩ : ∃ Q2, Q2 = sI Q1 71 8 (nI (tB T n p)) := ⟨_, rfl⟩
  have o2 : oTk P Q2 := by rw [hQ2]; exact s4.s (by omega) _
  have hT2 := hT.keep o2
  have q6 : Q2.1 71 6 = nI (tB T n p) := by rw [hQ2, rowI_s, pk_un (by decide)]; exact s2
  have q8 : Q2.1 71 8 = nI (tB T n p) := by rw [hQ2, rowI_s, pk_us]
  have qo : ∀ j, j ≠ 6 → j ≠ 8 → Q2.1 71 j = P.1 71 j := fun j a b => by rw [hQ2, rowI_s, pk_un b]; exact s3 j a
  have q1 : Q2.1 71 1 = 0 := by rw [qo 1 (by decide) (by decide)]; exact h1
  have q2 : Q2.1 71 2 = P.1 71 2 := qo 2 (by decide) (by decide)
  have head : ∀ Z, (Re_byteAt (nI (tB T n p)) Q2).bind (fun (x25 : Int32) => if nI (tB T n p) < nI n then (Re_isLetter x25 Q2).bind fun (x49 : Int32) => if x49 = 0 then (Re_isDigit x25 Q2).bind fun (x63 : Int32) => if x63 = 0 then
            (if x25 = (59 : Int32) then Re_token_95 x25 Q2 else if x25 = (40 : Int32) then Re_token_95 x25 Q2 else if x25 = (41 : Int32) then Re_token_95 x25 Q2 else (some (sI Q2 71 7 (3 : Int32))).bind fun (P100 : PH) => (some (sI P100 71 6 ((P100.1 71 6) + (1 : Int32)))).bind fun (P110 : PH) => Re_token_113 P110)
          else (Re_digits Q2).bind fun (x70 : PH) => Re_token_113 x70
        else (Re_letters Q2).bind fun (x56 : PH) => Re_token_113 x56
      else (some (sI Q2 71 7 (0 : Int32))).bind fun (P42 : PH) => Re_token_113 P42) = Z → Re_token P = Z := by
    intro Z hZ
    unfold Re_token Re_skipBlanks
    rw [if_pos h1, h6, Option.bind_some, s1, Option.bind_some, s2, Option.bind_some, ← hQ2, q6, hT2.2.2]
    exact hZ
  -- what comes behind
  have t113 : ∀ Q : PH, Q.1 71 1 = 0 → Q.1 71 8 = nI (tB T n p) → (¬ Q.1 71 7 = (3 : Int32) → Re_token_113 Q = some Q) ∧ (Q.1 71 7 = (3 : Int32) → ∃ R, Re_token_113 Q = some R ∧ R.1 71 1 = nI 1 ∧ R.1 71 2 = nI (tB T n p) ∧ (∀ j, j ≠ 1 → j ≠ 2 → R.1 71 j = Q.1 71 j) ∧ oTk Q R) := fun Q a1 a8 => by
    refine ⟨fun z => ?_, fun z => ⟨sI (sI Q 71 1 (1 : Int32)) 71 2 (nI (tB T n p)), ?_, ?_, ?_, ?_, ((oTk.rf Q).s (by omega) _).s (by omega) _⟩⟩
    · unfold Re_token_113; rw [if_neg z]
    · unfold Re_token_113 Re_fail
      rw [if_pos z, if_pos a1, Option.bind_some, rowI_s, pk_un (by decide), a8, Option.bind_some, Option.bind_some]
    · rw [rowI_s, pk_un (by decide), rowI_s, pk_us]; rfl
    · rw [rowI_s, pk_us]
    · intro j x y; rw [rowI_s, pk_un y, rowI_s, pk_un x]
  by_cases c : tB T n p < n
  · have tl := (hT.2.1 _ c).1
    have hb := re_byte hT2 c
    have cI : nI (tB T n p) < nI n := nI_lt c (by omega)
    cases l : isLt (T (tB T n p))
    · cases d : isDg (T (tB T n p))
      · have eE : tE T n p = tB T n p + 1 := by unfold tE; rw [if_pos c, l, d]; rfl
        -- a sign or none
        have lit : ∀ v : Nat, v < 256 → (nI (T (tB T n p)) = nI v ↔ T (tB T n p) = v) := fun v hv => by rw [nI_eq (by omega) (by omega)]
        have l59 : (nI (T (tB T n p)) = (59 : Int32) ↔ T (tB T n p) = 59) := lit 59 (by decide)
        have l40 : (nI (T (tB T n p)) = (40 : Int32) ↔ T (tB T n p) = 40) := lit 40 (by decide)
        have l41 : (nI (T (tB T n p)) = (41 : Int32) ↔ T (tB T n p) = 41) := lit 41 (by decide)
        by_cases sg : T (tB T n p) = 59 ∨ T (tB T n p) = 40 ∨ T (tB T n p) = 41
        · have eK : tK T n p = 3 := by unfold tK; rw [if_pos c, l, d]; simp only [Bool.false_eq_true, if_false]; rw [if_pos sg]
          obtain ⟨R, hR⟩ : ∃ R, R = sI (sI Q2 71 7 (nI (T (tB T n p)))) 71 6 (nI (tB T n p + 1)) := ⟨_, rfl⟩
          have o3 : oTk P R := by rw [hR]; exact (o2.s (by omega) _).s (by omega) _
          have r7 : R.1 71 7 = nI (T (tB T n p)) := by rw [hR, rowI_s, pk_un (by decide), rowI_s, pk_us]
          have ro : ∀ j, j ≠ 6 → j ≠ 7 → R.1 71 j = Q2.1 71 j := fun j a b => by rw [hR, rowI_s, pk_un a, rowI_s, pk_un b]
          have f95 : Re_token_95 (nI (T (tB T n p))) Q2 = some R := by
            unfold Re_token_95
            rw [Option.bind_some, rowI_s, pk_un (by decide), q6, show nI (tB T n p) + (1 : Int32) = nI (tB T n p + 1) from nI_1 _, Option.bind_some, ← hR]
            refine (t113 R (by rw [ro 1 (by decide) (by decide)]; exact q1) (by rw [ro 8 (by decide) (by decide)]; exact q8)).1 ?_
            rw [r7]
            intro z
            have := (lit 3 (by decide)).mp z
            omega
          refine ⟨R, head _ ?_, by rw [eE, hR, rowI_s, pk_us], by rw [ro 8 (by decide) (by decide)]; exact q8, by unfold kdC; rw [if_pos eK]; exact r7, fun z => by omega, fun _ => ⟨by rw [ro 1 (by decide) (by decide)]; exact q1, by rw [ro 2 (by decide) (by decide)]; exact q2⟩, fun z => by omega, o3⟩
          rw [hb, Option.bind_some, if_pos cI, re_isL tl, l, Option.bind_some, if_pos (show (if false = true then (1 : Int32) else 0) = 0 from rfl), re_isD tl, d, Option.bind_some, if_pos (show (if false = true then (1 : Int32) else 0) = 0 from rfl), f95]
          by_cases a1 : T (tB T n p) = 59
          · rw [if_pos (l59.mpr a1)]
          · rw [if_neg (fun z => a1 (l59.mp z))]
            by_cases a2 : T (tB T n p) = 40
            · rw [if_pos (l40.mpr a2)]
            · rw [if_neg (fun z => a2 (l40.mp z)), if_pos (l41.mpr (by omega))]
        · have eK : tK T n p = 4 := by unfold tK; rw [if_pos c, l, d]; simp only [Bool.false_eq_true, if_false]; rw [if_neg sg]
          obtain ⟨R, hR⟩ : ∃ R, R = sI (sI Q2 71 7 (3 : Int32)) 71 6 (nI (tB T n p + 1)) := ⟨_, rfl⟩
          have o3 : oTk P R := by rw [hR]; exact (o2.s (by omega) _).s (by omega) _
          have ro : ∀ j, j ≠ 6 → j ≠ 7 → R.1 71 j = Q2.1 71 j := fun j a b => by rw [hR, rowI_s, pk_un a, rowI_s, pk_un b]
          have r7 : R.1 71 7 = (3 : Int32) := by rw [hR, rowI_s, pk_un (by decide), rowI_s, pk_us]
          obtain ⟨S, g1, g2, g3, g4, g5⟩ := (t113 R (by rw [ro 1 (by decide) (by decide)]; exact q1) (by rw [ro 8 (by decide) (by decide)]; exact q8)).2 r7
          refine ⟨S, head _ ?_, by rw [eE, g4 6 (by decide) (by decide), hR, rowI_s, pk_us], by rw [g4 8 (by decide) (by decide), ro 8 (by decide) (by decide)]; exact q8, by unfold kdC; rw [eK, if_neg (by decide), if_pos rfl, g4 7 (by decide) (by decide)]; exact r7, fun z => by omega, fun z => absurd eK z, fun _ => ⟨g2, g3⟩, o3.tr g5⟩
          rw [hb, Option.bind_some, if_pos cI, re_isL tl, l, Option.bind_some, if_pos (show (if false = true then (1 : Int32) else 0) = 0 from rfl), re_isD tl, d, Option.bind_some, if_pos (show (if false = true then (1 : Int32) else 0) = 0 from rfl), if_neg (fun z => sg (Or.inl (l59.mp z))), if_neg (fun z => sg (Or.inr (Or.inl (l40.mp z)))), if_neg (fun z => sg (Or.inr (Or.inr (l41.mp z)))), Option.bind_some, rowI_s, pk_un (by decide), q6, show nI (tB T n p) + (1 : Int32) = nI (tB T n p + 1) from nI_1 _, Option.bind_some, ← hR]
          exact g1
      · -- a number
        obtain ⟨e1, e2, e3, e4⟩ := nxt_ok (T := T) (q := fun c => !isDg c) b2
        have e1 : tB T n p ≤ tDe T n p := e1
        have e2 : tDe T n p ≤ n := e2
        have e4 : tDe T n p < n → (!isDg (T (tDe T n p))) = true := e4
        have eE : tE T n p = tDe T n p := by unfold tE; rw [if_pos c, l, d]; rfl
        obtain ⟨Q3, f1, f2, f3, f4, f5, f6⟩ := re_digits (p := tB T n p) hn e2 (fun j x y => by have := e3 j x y; simpa using this) (fun x => by have := e4 x; simpa using this) (tDe T n p - tB T n p) (tB T n p) bigN (sI Q2 71 9 (0 : Int32)) 0 (by omega) (Nat.le_refl _) (big_gt (by omega)) (hT2.keep ((oTk.rf Q2).s (by omega) _)) (by rw [rowI_s, pk_un (by decide)]; exact q6) (by rw [rowI_s, pk_un (by decide)]; exact q8) (by rw [rowI_s, pk_us]; rfl) (by decide) (fun _ => by rw [Nat.sub_self]; exact ⟨rfl, by decide⟩)
        have o3 : oTk P Q3 := (o2.s (k := 9) (by omega) _).tr f6
        have ro : ∀ j, j ≠ 6 → j ≠ 7 → j ≠ 9 → Q3.1 71 j = Q2.1 71 j := fun j x y z => by rw [f5 j x y z, rowI_s, pk_un z]
        have hd : ∀ Z, Re_token_113 Q3 = Z → Re_token P = Z := by
          intro Z hZ
          refine head Z ?_
          rw [hb, Option.bind_some, if_pos cI, re_isL tl, l, Option.bind_some, if_pos (show (if false = true then (1 : Int32) else 0) = 0 from rfl), re_isD tl, d, Option.bind_some, if_neg (show ¬ (if true = true then (1 : Int32) else 0) = 0 by decide)]
          unfold Re_digits
          rw [Option.bind_some, rowI_s, pk_un (by decide), q6, Option.bind_some, f1, Option.bind_some]
          exact hZ
        by_cases z3 : tDe T n p - tB T n p ≤ 3
        · have eK : tK T n p = 2 := by unfold tK; rw [if_pos c, l, d]; simp only [Bool.false_eq_true, if_false, if_true]; rw [if_pos z3]
          rw [if_pos z3] at f3
          refine ⟨Q3, hd _ ((t113 Q3 (by rw [ro 1 (by decide) (by decide) (by decide)]; exact q1) (by rw [ro 8 (by decide) (by decide) (by decide)]; exact q8)).1 (by rw [f3]; decide)), by rw [eE]; exact f2, by rw [ro 8 (by decide) (by decide) (by decide)]; exact q8, by unfold kdC; rw [eK, if_neg (by decide), if_neg (by decide)]; exact f3, fun _ => f4 z3, fun _ => ⟨by rw [ro 1 (by decide) (by decide) (by decide)]; exact q1, by rw [ro 2 (by decide) (by decide) (by decide)]; exact q2⟩, fun z => by omega, o3⟩
        · have eK : tK T n p = 4 := by unfold tK; rw [if_pos c, l, d]; simp only [Bool.false_eq_true, if_false, if_true]; rw [if_neg z3]
          rw [if_neg z3] at f3
          obtain ⟨S, g1, g2, g3, g4, g5⟩ := (t113 Q3 (by rw [ro 1 (by decide) (by decide) (by decide)]; exact q1) (by rw [ro 8 (by decide) (by decide) (by decide)]; exact q8)).2 f3
          exact ⟨S, hd _ g1, by rw [eE, g4 6 (by decide) (by decide)]; exact f2, by rw [g4 8 (by decide) (by decide), ro 8 (by decide) (by decide) (by decide)]; exact q8, by unfold kdC; rw [eK, if_neg (by decide), if_pos rfl, g4 7 (by decide) (by decide)]; exact f3, fun z => by omega, fun z => absurd eK z, fun _ => ⟨g2, g3⟩, o3.tr g5⟩
    · -- a word
      obtain ⟨e1, e2, e3, e4⟩ := nxt_ok (T := T) (q := fun c => !isLt c) b2
      have eE : tE T n p = nxt T n (fun c => !isLt c) (tB T n p) := by unfold tE; rw [if_pos c, l]; rfl
      have eK : tK T n p = 1 := by unfold tK; rw [if_pos c, l]; rfl
      obtain ⟨Q3, f1, f2, f3, f4, f5⟩ := re_letters (p := tB T n p) hn e2 (fun j x y => by have := e3 j x y; simpa using this) (fun x => by have := e4 x; simpa using this) (nxt T n (fun c => !isLt c) (tB T n p) - tB T n p) (tB T n p) bigN Q2 (by omega) (Nat.le_refl _) (big_gt (by omega)) hT2 q6
      refine ⟨Q3, head _ ?_, by rw [eE]; exact f2, by rw [f4 8 (by decide) (by decide)]; exact q8, by unfold kdC; rw [eK, if_neg (by decide), if_neg (by decide)]; exact f3, fun z => by omega, fun _ => ⟨by rw [f4 1 (by decide) (by decide)]; exact q1, by rw [f4 2 (by decide) (by decide)]; exact q2⟩, fun z => by omega, o2.tr f5⟩
      rw [hb, Option.bind_some, if_pos cI, re_isL tl, l, Option.bind_some, if_neg (show ¬ (if true = true then (1 : Int32) else 0) = 0 by decide)]
      unfold Re_letters
      rw [q6, Option.bind_some, f1, Option.bind_some]
      exact (t113 Q3 (by rw [f4 1 (by decide) (by decide)]; exact q1) (by rw [f4 8 (by decide) (by decide)]; exact q8)).1 (by rw [f3]; decide)
  · have eE : tE T n p = tB T n p := by unfold tE; rw [if_neg c]
    have eK : tK T n p = 0 := by unfold tK; rw [if_neg c]
    obtain ⟨R, hR⟩ : ∃ R, R = sI Q2 71 7 (0 : Int32) := ⟨_, rfl⟩
    have ro : ∀ j, j ≠ 7 → R.1 71 j = Q2.1 71 j := fun j a => by rw [hR, rowI_s, pk_un a]
    refine ⟨R, head _ ?_, by rw [eE, ro 6 (by decide)]; exact q6, by rw [ro 8 (by decide)]; exact q8, by unfold kdC; rw [eK, if_neg (by decide), if_neg (by decide), hR, rowI_s, pk_us]; rfl, fun z => by omega, fun _ => ⟨by rw [ro 1 (by decide)]; exact q1, by rw [ro 2 (by decide)]; exact q2⟩, fun z => by omega, by rw [hR]; exact o2.s (by omega) _⟩
    rw [re_byte0 hT2 (by omega) (by omega), Option.bind_some, if_neg (by rw [z_lt (by omega) (by omega)]; exact c), Option.bind_some, ← hR]
    exact (t113 R (by rw [ro 1 (by decide)]; exact q1) (by rw [ro 8 (by decide)]; exact q8)).1 (by rw [hR, rowI_s, pk_us]; decide)
end TOK
