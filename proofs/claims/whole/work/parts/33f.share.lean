/-! THREADS: how few: the mathematics, the class -/
def rulS (O : Nat → Prop) (all S p : Nat) : Prop := Sb p (dif all S) ∧ O p ∧ ∃ i, p.testBit i = true ∧ (dif all S).testBit i = true ∧ ∀ j, j < i → (dif all S).testBit j = false
def Chn (O : Nat → Prop) (all : Nat) : Nat → Nat → Prop
  | 0, T => T = 0
  | n + 1, T => ∃ S p, Chn O all n S ∧ rulS O all S p ∧ T = S ||| p
def Ptn (O : Nat → Prop) : Nat → Nat → Prop
  | 0, T => T = 0
  | n + 1, T => ∃ p, p ≠ 0 ∧ Sb p T ∧ O p ∧ Ptn O n (dif T p)
section SHR
variable {O : Nat → Prop} {all : Nat}
theorem bit_nz {p i : Nat} (h : p.testBit i = true) : p ≠ 0 := fun z => by rw [z, Nat.zero_testBit] at h; cases h
theorem rulS.nz {S p : Nat} (h : rulS O all S p) : p ≠ 0 := by
  obtain ⟨-, -, i, a, -⟩ := h
  exact bit_nz a
theorem rulS.lt {S p : Nat} (ha : all < 4096) (h : rulS O all S p) : S < S ||| p := by
  obtain ⟨-, -, i, a, b, -⟩ := h
  have l : S ≤ S ||| p := Nat.left_le_or
  rw [dif_b ha, Bool.and_eq_true, Bool.not_eq_true'] at b
  rcases Nat.lt_or_ge S (S ||| p) with q | q
  · exact q
  · have e : S ||| p = S := by omega
    have : (S ||| p).testBit i = true := by rw [Nat.testBit_or, a, Bool.or_true]
    rw [e, b.2] at this
    cases this
theorem Chn.sb (ha : all < 4096) : ∀ (n T : Nat), Chn O all n T → Sb T all
  | 0, T, h => by
    have h : T = 0 := h
    rw [h]
    exact Sb.z all
  | n + 1, T, h => by
    obtain ⟨S, p, h1, h2, h3⟩ := h
    have ih := Chn.sb ha n S h1
    rw [h3]
    intro j q
    rw [Nat.testBit_or, Bool.or_eq_true] at q
    rcases q with q | q
    · exact ih j q
    · have := h2.1 j q
      rw [dif_b ha, Bool.and_eq_true] at this
      exact this.1
theorem dif_or {S p : Nat} (ha : all < 4096) (hS : Sb S all) (hp : Sb p (dif all S)) : dif (S ||| p) p = S ∧ dif all (S ||| p) = dif (dif all S) p ∧ Sb p (S ||| p) ∧ S ||| p < 4096 := by
  have hpl : Sb p all := fun j q => by
    have := hp j q
    rw [dif_b ha, Bool.and_eq_true] at this
    exact this.1
  have lt : S ||| p < 4096 := or_lt (n := 12) (Nat.lt_of_le_of_lt hS.le ha) (Nat.lt_of_le_of_lt hpl.le ha)
  refine ⟨?_, ?_, fun j q => by rw [Nat.testBit_or, q, Bool.or_true], lt⟩
  · apply Nat.eq_of_testBit_eq
    intro j
    rw [dif_b lt, Nat.testBit_or]
    cases q : p.testBit j
    · simp
    · have := hp j q
      rw [dif_b ha, Bool.and_eq_true, Bool.not_eq_true'] at this
      rw [this.2]
      rfl
  · apply Nat.eq_of_testBit_eq
    intro j
    rw [dif_b ha, dif_b (dif_lt ha), dif_b ha, Nat.testBit_or]
    cases all.testBit j <;> cases S.testBit j <;> cases p.testBit j <;> rfl
theorem Chn.pt (ha : all < 4096) : ∀ (n T : Nat), Chn O all n T → Ptn O n T
  | 0, T, h => h
  | n + 1, T, h => by
    obtain ⟨S, p, h1, h2, h3⟩ := h
    obtain ⟨d1, d2, d3, d4⟩ := dif_or ha (Chn.sb ha n S h1) h2.1
    refine ⟨p, h2.nz, by rw [h3]; exact d3, h2.2.1, ?_⟩
    rw [h3, d1]
    exact Chn.pt ha n S h1
theorem Ptn.ex : ∀ (n T b : Nat), T < 4096 → Ptn O n T → T.testBit b = true → ∃ p m, n = m + 1 ∧ p.testBit b = true ∧ Sb p T ∧ O p ∧ Ptn O m (dif T p)
  | 0, T, b, _, h, hb => by
    have h : T = 0 := h
    rw [h, Nat.zero_testBit] at hb
    cases hb
  | n + 1, T, b, hT, h, hb => by
    obtain ⟨p0, a1, a2, a3, a4⟩ := h
    by_cases c : p0.testBit b = true
    · exact ⟨p0, n, rfl, c, a2, a3, a4⟩
    · have c := ts_nt c
      obtain ⟨q, m, e, q1, q2, q3, q4⟩ := Ptn.ex n (dif T p0) b (dif_lt hT) a4 (by rw [dif_b hT, hb, c]; rfl)
      have sq : Sb q T := fun j z => by
        have := q2 j z
        rw [dif_b hT, Bool.and_eq_true] at this
        exact this.1
      refine ⟨q, n, rfl, q1, sq, q3, ?_⟩
      rw [e]
      refine ⟨p0, a1, fun j z => ?_, a3, ?_⟩
      · rw [dif_b hT, a2 j z]
        cases w : q.testBit j
        · rfl
        · have := q2 j w
          rw [dif_b hT, z, Bool.and_eq_true] at this
          cases this.2
      · have : dif (dif T q) p0 = dif (dif T p0) q := by
          apply Nat.eq_of_testBit_eq
          intro j
          rw [dif_b (dif_lt hT), dif_b hT, dif_b (dif_lt hT), dif_b hT]
          cases T.testBit j <;> cases q.testBit j <;> cases p0.testBit j <;> rfl
        rw [this]
        exact q4
theorem Ptn.ch (ha : all < 4096) : ∀ (n S j : Nat), Chn O all j S → Ptn O n (dif all S) → Chn O all (j + n) all
  | 0, S, j, hj, h => by
    have h : dif all S = 0 := h
    have sb := Chn.sb ha j S hj
    have e : S = all := by
      apply Nat.eq_of_testBit_eq
      intro i
      have : (dif all S).testBit i = false := by rw [h, Nat.zero_testBit]
      rw [dif_b ha] at this
      cases c : all.testBit i
      · exact ts_nt (fun q => by rw [sb i q] at c; cases c)
      · rw [c, Bool.true_and, Bool.not_eq_false'] at this
        exact this
    have hj2 : Chn O all j S := hj
    rw [e] at hj2
    exact hj2
  | n + 1, S, j, hj, h => by
    have ne : dif all S ≠ 0 := fun z => by
      obtain ⟨p, a1, a2, -⟩ := id h
      have := a2.le
      omega
    obtain ⟨i, i1, i2⟩ := low_ex ne
    obtain ⟨p, m, e, p1, p2, p3, p4⟩ := Ptn.ex (n + 1) (dif all S) i (dif_lt ha) h i1
    have em : m = n := by omega
    rw [em] at p4
    have sb := Chn.sb ha j S hj
    obtain ⟨d1, d2, d3, d4⟩ := dif_or ha sb p2
    have := Ptn.ch ha n (S ||| p) (j + 1) ⟨S, p, hj, ⟨p2, p3, i, p1, i1, i2⟩, rfl⟩ (by rw [d2]; exact p4)
    rw [show j + (n + 1) = j + 1 + n by omega]
    exact this
theorem Chn.iff (ha : all < 4096) (n : Nat) : Chn O all n all ↔ Ptn O n all := by
  refine ⟨Chn.pt ha n all, fun h => ?_⟩
  have e : dif all 0 = all := by
    apply Nat.eq_of_testBit_eq
    intro j
    rw [dif_b ha, Nat.zero_testBit]
    simp
  have := Ptn.ch (O := O) ha n 0 0 rfl (by rw [e]; exact h)
  rw [Nat.zero_add] at this
  exact this
theorem dif_low {T p : Nat} (hT : T < 4096) (hp : p ≠ 0) (hs : Sb p T) : dif T p < T ∧ pcn (dif T p) + 1 ≤ pcn T := by
  obtain ⟨i, i1, -⟩ := low_ex hp
  have ti := hs i i1
  have hi : i < 32 := tb_lt (n := 32) (by omega) ti
  have di : (dif T p).testBit i = false := by rw [dif_b hT, ti, i1]; rfl
  have le : dif T p ≤ T := Nat.and_le_left
  refine ⟨?_, ?_⟩
  · rcases Nat.lt_or_ge (dif T p) T with q | q
    · exact q
    · have e : dif T p = T := by omega
      rw [e, ti] at di
      cases di
  · have u := fb_ct_upd T.testBit false hi
    rw [ti] at u
    have s : pcn (dif T p) ≤ fb_ct (fun k => if k = i then false else T.testBit k) 32 := fb_ct_sub (fun k hk q => by
      by_cases c : k = i
      · rw [c, di] at q; cases q
      · rw [if_neg c]
        rw [dif_b hT, Bool.and_eq_true] at q
        exact q.1)
    have u2 : fb_ct (fun k => if k = i then false else T.testBit k) 32 + 1 = fb_ct T.testBit 32 := u
    unfold pcn at *
    omega
theorem Ptn.len : ∀ (n T : Nat), T < 4096 → Ptn O n T → n ≤ pcn T
  | 0, _, _, _ => Nat.zero_le _
  | n + 1, T, hT, h => by
    obtain ⟨p, a1, a2, -, a4⟩ := h
    have := Ptn.len n (dif T p) (dif_lt hT) a4
    have := (dif_low hT a1 a2).2
    omega
/-! the class's loops -/
def R84 (F : Nat → Nat) (P : PH) : Prop := ∀ s, s < 4096 → P.1 84 s = nI (F s) ∧ F s ≤ s
def o84 (P Q : PH) : Prop := (∀ n, n ≠ 84 → Q.1 n = P.1 n) ∧ Q.2 = P.2
theorem o84.rf (P : PH) : o84 P P := ⟨fun _ _ => rfl, rfl⟩
theorem o84.tr {P Q R : PH} (h : o84 P Q) (h2 : o84 Q R) : o84 P R := ⟨fun n a => (h2.1 n a).trans (h.1 n a), h2.2.trans h.2⟩
theorem o84.sh {P Q : PH} (h : o84 P Q) : oSh P Q := ⟨fun n a => h.1 n (by omega), h.2⟩
def ntF (F : Nat → Nat) (S T m : Nat) : Nat := if m = T ∧ (F T = 0 ∨ F S + 1 < F T) then F S + 1 else F m
theorem sh_note {P : PH} {F : Nat → Nat} {S T : Nat} (hST : S < T) (hT : T < 4096) (hF : R84 F P) : ∃ Q, Sh_note (nI T) (nI S) P = some Q ∧ R84 (ntF F S T) Q ∧ o84 P Q := by
  obtain ⟨s1, s2⟩ := hF S (by omega)
  obtain ⟨t1, t2⟩ := hF T hT
  have up : (F T = 0 ∨ F S + 1 < F T) → R84 (ntF F S T) (sI P 84 T (nI (F S + 1))) := fun c m hm => by
    unfold ntF
    rw [rowI_s]
    by_cases q : m = T
    · rw [if_pos ⟨q, c⟩, q, pk_us]
      exact ⟨rfl, by omega⟩
    · rw [if_neg (fun z => q z.1), pk_un q]
      exact hF m hm
  have no : ¬ (F T = 0 ∨ F S + 1 < F T) → R84 (ntF F S T) P := fun c m hm => by
    unfold ntF
    rw [if_neg (fun z => c z.2)]
    exact hF m hm
  have ow : o84 P (sI P 84 T (nI (F S + 1))) := ⟨fun n a => rowI_o _ _ _ a, rfl⟩
  unfold Sh_note
  rw [if_neg (nI_pos (by omega)), if_neg (show ¬ (4096 : Int32) ≤ nI S from (show ¬ nI 4096 ≤ nI S from nI_ge (by omega) (by decide))), if_neg (nI_pos (by omega)), if_pos (show nI T < (4096 : Int32) from (show nI T < nI 4096 from nI_lt hT (by decide))), z_gd (show S < 4096 by omega) (by decide), z_cl (show S < 2147483648 by omega), s1, show nI (F S) + (1 : Int32) = nI (F S + 1) from nI_1 _, Option.bind_some, z_gd hT (by decide), z_cl (show T < 2147483648 by omega), t1, z_gd hT (by decide), z_gd hT (by decide), Option.bind_some]
  by_cases c0 : F T = 0
  · rw [if_pos (by rw [c0]; rfl)]
    exact ⟨_, rfl, up (Or.inl c0), ow⟩
  · rw [if_neg (nI_ne0 (by omega) (by omega))]
    by_cases c1 : F T ≤ F S + 1
    · rw [if_pos (by rw [z_le (by omega) (by omega)]; exact c1)]
      exact ⟨P, rfl, no (by omega), o84.rf P⟩
    · rw [if_neg (by rw [z_le (by omega) (by omega)]; exact c1)]
      exact ⟨_, rfl, up (by omega), ow⟩
def sndF (O : Nat → Prop) (all : Nat) (F : Nat → Nat) : Prop := F 0 = 0 ∧ ∀ T, T < 4096 → F T ≠ 0 → Chn O all (F T) T
/-- later values: none lost, none greater -/
def mnF (F F' : Nat → Nat) : Prop := ∀ T, F T ≠ 0 → F' T ≠ 0 ∧ F' T ≤ F T
theorem mnF.rf (F : Nat → Nat) : mnF F F := fun _ h => ⟨h, Nat.le_refl _⟩
theorem mnF.tr {F G H : Nat → Nat} (h : mnF F G) (h2 : mnF G H) : mnF F H := fun T a => ⟨(h2 T (h T a).1).1, Nat.le_trans (h2 T (h T a).1).2 (h T a).2⟩
theorem ntF_mn {F : Nat → Nat} {S T : Nat} : mnF F (ntF F S T) := fun m h => by
  unfold ntF
  by_cases c : m = T ∧ (F T = 0 ∨ F S + 1 < F T)
  · rw [if_pos c]
    obtain ⟨c1, c2⟩ := c
    rw [c1] at h ⊢
    omega
  · rw [if_neg c]
    exact ⟨h, Nat.le_refl _⟩
theorem ntF_new {F : Nat → Nat} {S T : Nat} (hST : S < T) : ntF F S T T ≠ 0 ∧ ntF F S T T ≤ F S + 1 := by
  unfold ntF
  by_cases c : F T = 0 ∨ F S + 1 < F T
  · rw [if_pos ⟨rfl, c⟩]; omega
  · rw [if_neg (fun z => c z.2)]; omega
theorem ntF_off {F : Nat → Nat} {S T m : Nat} (h : m ≠ T) : ntF F S T m = F m := by
  unfold ntF
  rw [if_neg (fun z => h z.1)]
theorem ntF_snd {F : Nat → Nat} {S T : Nat} (h : sndF O all F) (h0 : 0 < T) (hc : Chn O all (F S + 1) T) : sndF O all (ntF F S T) := by
  refine ⟨by rw [ntF_off (by omega)]; exact h.1, fun m hm hz => ?_⟩
  unfold ntF at hz ⊢
  by_cases c : m = T ∧ (F T = 0 ∨ F S + 1 < F T)
  · rw [if_pos c, c.1]
    exact hc
  · rw [if_neg c] at hz ⊢
    exact h.2 m hm hz
theorem sh_31 {r : Nat → Nat} {kn S i oth : Nat} (ha : all < 4096) (hS : S < all) (hsb : Sb S all) (hO : ∀ s, s ≤ all → (nI (r s) &&& nI kn = 0 ↔ ¬ O s)) (i1 : (dif all S).testBit i = true) (i2 : ∀ j, j < i → (dif all S).testBit j = false) (ho : oth = dif (dif all S) (2 ^ i)) :
    ∀ (n q k : Nat) (F : Nat → Nat) (P : PH), q < n → q + k < 4096 → Sb q oth → R83 r P → R84 F P → sndF O all F → (S = 0 ∨ F S ≠ 0) → (∀ q', Sb q' oth → q < q' → O (2 ^ i ||| q') → F (S ||| (2 ^ i ||| q')) ≠ 0 ∧ F (S ||| (2 ^ i ||| q')) ≤ F S + 1) → ∃ (F' : Nat → Nat) (Q : PH), Sh_shareBehind_31 (nI S) (nI kn) (nI (2 ^ i)) (nI oth) n (nI q) (nI k) P = some Q ∧ R84 F' Q ∧ sndF O all F' ∧ mnF F F' ∧ (∀ T, T ≤ S → F' T = F T) ∧ (∀ q', Sb q' oth → O (2 ^ i ||| q') → F' (S ||| (2 ^ i ||| q')) ≠ 0 ∧ F' (S ||| (2 ^ i ||| q')) ≤ F S + 1) ∧ o84 P Q := by
  have hm : dif all S < 4096 := dif_lt ha
  have hi : i < 12 := tb_lt (n := 12) hm i1
  have hoth : oth < 4096 := by rw [ho]; exact dif_lt hm
  have p12 : 2 ^ i < 2 ^ 12 := Nat.pow_lt_pow_right (by decide) hi
  have e12 : (2 : Nat) ^ 12 = 4096 := rfl
  have sp : ∀ q, Sb q oth → Sb (2 ^ i ||| q) (dif all S) ∧ (2 ^ i ||| q).testBit i = true := fun q hq => by
    refine ⟨fun j z => ?_, ?_⟩
    · rw [Nat.testBit_or, Nat.testBit_two_pow, Bool.or_eq_true, decide_eq_true_eq] at z
      rcases z with z | z
      · rw [← z]; exact i1
      · have := hq j z
        rw [ho, dif_b hm, Bool.and_eq_true] at this
        exact this.1
    · rw [Nat.testBit_or, Nat.testBit_two_pow, decide_eq_true rfl]; rfl
  intro n
  induction n with
  | zero => intro q k F P hq; omega
  | succ n ih =>
    intro q k F P hq hk hqs hR hF hsn hS0 hdone
    obtain ⟨a1, a2⟩ := sp q hqs
    have ql : q < 4096 := Nat.lt_of_le_of_lt hqs.le hoth
    have pl : (2 ^ i ||| q) ≤ all := Nat.le_trans a1.le Nat.and_le_left
    obtain ⟨r1, r2⟩ := hR (2 ^ i ||| q) (by omega)
    have hSl : S < 4096 := by omega
    have rb : Sh_reachedBy (nI (2 ^ i) ||| nI q) P = some (nI (r (2 ^ i ||| q))) := by
      unfold Sh_reachedBy
      rw [fa_or, if_neg (nI_pos (by omega)), if_neg (show ¬ (4096 : Int32) ≤ nI (2 ^ i ||| q) from (show ¬ nI 4096 ≤ nI (2 ^ i ||| q) from nI_ge (by omega) (by decide))), z_gd (by omega) (by decide), z_cl (by omega), r1]
    -- what comes behind
    have tail : ∀ (F1 : Nat → Nat) (P1 : PH), R83 r P1 → R84 F1 P1 → sndF O all F1 → mnF F F1 → (∀ T, T ≤ S → F1 T = F T) → (O (2 ^ i ||| q) → F1 (S ||| (2 ^ i ||| q)) ≠ 0 ∧ F1 (S ||| (2 ^ i ||| q)) ≤ F S + 1) → o84 P P1 → ∃ (F' : Nat → Nat) (Q : PH), Sh_shareBehind_69 (Sh_shareBehind_31 (nI S) (nI kn) (nI (2 ^ i)) (nI oth) n) (nI S) (nI kn) (nI (2 ^ i)) (nI oth) (nI q) (nI k) P1 = some Q ∧ R84 F' Q ∧ sndF O all F' ∧ mnF F F' ∧ (∀ T, T ≤ S → F' T = F T) ∧ (∀ q', Sb q' oth → O (2 ^ i ||| q') → F' (S ||| (2 ^ i ||| q')) ≠ 0 ∧ F' (S ||| (2 ^ i ||| q')) ≤ F S + 1) ∧ o84 P Q := by
      intro F1 P1 b1 b2 b3 b4 b5 b6 b7
      unfold Sh_shareBehind_69
      have all1 : ∀ q', Sb q' oth → q ≤ q' → O (2 ^ i ||| q') → F1 (S ||| (2 ^ i ||| q')) ≠ 0 ∧ F1 (S ||| (2 ^ i ||| q')) ≤ F S + 1 := fun q' c1 c2 c3 => by
        by_cases e : q' = q
        · rw [e] at c3 ⊢; exact b6 c3
        · obtain ⟨d1, d2⟩ := hdone q' c1 (by omega) c3
          exact ⟨(b4 _ d1).1, Nat.le_trans (b4 _ d1).2 d2⟩
      by_cases c0 : q = 0
      · rw [if_pos (by rw [c0]; rfl)]
        exact ⟨F1, P1, rfl, b2, b3, b4, b5, fun q' c1 c3 => all1 q' c1 (by omega) c3, b7⟩
      · rw [if_neg (nI_ne0 (by omega) (by omega)), show nI q - (1 : Int32) = nI (q - 1) from z_sub (b := 1) (by omega), fa_and, Option.bind_some, show nI k + 1 = nI (k + 1) from nI_1 _]
        have lt : (q - 1) &&& oth ≤ q - 1 := Nat.and_le_left
        have eS : F1 S = F S := b5 S (Nat.le_refl _)
        obtain ⟨F', Q, f1, f2, f3, f4, f5, f6, f7⟩ := ih ((q - 1) &&& oth) (k + 1) F1 P1 (by omega) (by omega) (sub_and _ _) b1 b2 b3 (by rw [eS]; exact hS0) (fun q' c1 c2 c3 => by
          rw [eS]
          refine all1 q' c1 ?_ c3
          rcases Nat.lt_or_ge q' q with z | z
          · have := sub_next 12 oth q q' hoth hqs c1 z
            omega
          · exact z)
        rw [eS] at f6
        exact ⟨F', Q, f1, f2, f3, b4.tr f4, fun T hT => (f5 T hT).trans (b5 T hT), f6, b7.tr f7⟩
    unfold Sh_shareBehind_31
    rw [if_neg (show ¬ (4096 : Int32) ≤ nI k from (show ¬ nI 4096 ≤ nI k from nI_ge (by omega) (by decide))), Option.bind_some, rb, Option.bind_some]
    by_cases c : O (2 ^ i ||| q)
    · rw [if_neg (fun z => (hO _ pl).mp z c)]
      have rul : rulS O all S (2 ^ i ||| q) := ⟨a1, c, i, a2, i1, i2⟩
      have lt := rul.lt ha
      obtain ⟨d1, d2, d3, d4⟩ := dif_or ha hsb a1
      obtain ⟨P1, e1, e2, e3⟩ := sh_note lt d4 hF
      have eo : (nI S ||| nI (2 ^ i)) ||| nI q = nI (S ||| (2 ^ i ||| q)) := by rw [fa_or, fa_or, Nat.or_assoc]
      rw [eo, e1, Option.bind_some]
      have hch : Chn O all (F S + 1) (S ||| (2 ^ i ||| q)) := by
        refine ⟨S, _, ?_, rul, rfl⟩
        rcases hS0 with z | z
        · rw [z, hsn.1]; rfl
        · exact hsn.2 S hSl z
      exact tail (ntF F S (S ||| (2 ^ i ||| q))) P1 (fun s hs => by rw [e3.1 83 (by decide)]; exact hR s hs) e2 (ntF_snd hsn (by omega) hch) ntF_mn (fun T hT => ntF_off (by omega)) (fun _ => ntF_new lt) e3
    · rw [if_pos ((hO _ pl).mpr c)]
      exact tail F P hR hF hsn (mnF.rf F) (fun _ _ => rfl) (fun z => absurd z c) (o84.rf P)
theorem sh_behind {r : Nat → Nat} {kn S : Nat} {F : Nat → Nat} {P : PH} (ha : all < 4096) (hS : S < all) (hsb : Sb S all) (hO : ∀ s, s ≤ all → (nI (r s) &&& nI kn = 0 ↔ ¬ O s)) (hR : R83 r P) (hF : R84 F P) (hsn : sndF O all F) (hS0 : S = 0 ∨ F S ≠ 0) : ∃ (F' : Nat → Nat) (Q : PH), Sh_shareBehind (nI S) (nI all) (nI kn) P = some Q ∧ R84 F' Q ∧ sndF O all F' ∧ mnF F F' ∧ (∀ T, T ≤ S → F' T = F T) ∧ (∀ p, rulS O all S p → F' (S ||| p) ≠ 0 ∧ F' (S ||| p) ≤ F S + 1) ∧ o84 P Q := by
  have ne : dif all S ≠ 0 := fun z => by
    have e : S = all := by
      apply Nat.eq_of_testBit_eq
      intro i
      have : (dif all S).testBit i = false := by rw [z, Nat.zero_testBit]
      rw [dif_b ha] at this
      cases c : all.testBit i
      · exact ts_nt (fun q => by rw [hsb i q] at c; cases c)
      · rw [c, Bool.true_and, Bool.not_eq_false'] at this
        exact this
    omega
  obtain ⟨i, i1, i2⟩ := low_ex ne
  have hm : dif all S < 4096 := dif_lt ha
  have hoth : dif (dif all S) (2 ^ i) < 4096 := dif_lt hm
  obtain ⟨F', Q, f1, f2, f3, f4, f5, f6, f7⟩ := sh_31 ha hS hsb hO i1 i2 rfl bigN (dif (dif all S) (2 ^ i)) 0 F P (big_gt (by omega)) (by omega) (Sb.rf _) hR hF hsn hS0 (fun q' c1 c2 _ => by have := c1.le; omega)
  refine ⟨F', Q, ?_, f2, f3, f4, f5, fun p hp => ?_, f7⟩
  · unfold Sh_shareBehind
    rw [dif_nI ha, Option.bind_some, low_nI (by omega) i1 i2, Option.bind_some, dif_nI hm, Option.bind_some]
    exact f1
  · obtain ⟨p1, p2, i', p3, p4, p5⟩ := hp
    have ei : i' = i := by
      rcases Nat.lt_trichotomy i' i with q | q | q
      · rw [i2 i' q] at p4; cases p4
      · exact q
      · rw [p5 i q] at i1; cases i1
    rw [ei] at p3
    have hq : Sb (dif p (2 ^ i)) (dif (dif all S) (2 ^ i)) := fun j z => by
      have hp4 : p < 4096 := Nat.lt_of_le_of_lt p1.le hm
      rw [dif_b hp4, Bool.and_eq_true] at z
      rw [dif_b hm, p1 j z.1, z.2]
      rfl
    have e : 2 ^ i ||| dif p (2 ^ i) = p := by
      have hp4 : p < 4096 := Nat.lt_of_le_of_lt p1.le hm
      apply Nat.eq_of_testBit_eq
      intro j
      rw [Nat.testBit_or, dif_b hp4, Nat.testBit_two_pow]
      by_cases c : i = j
      · rw [← c, p3]; simp
      · simp [c]
    have := f6 _ hq (by rw [e]; exact p2)
    rw [e] at this
    exact this
theorem sb_all {S L : Nat} (h : S < 2 ^ L) : Sb S (2 ^ L - 1) := fun j q => by
  rw [Nat.testBit_two_pow_sub_one]
  exact decide_eq_true (tb_lt h q)
theorem sh_10 {r : Nat → Nat} {kn L : Nat} (hL : L ≤ 12) (hO : ∀ s, s ≤ 2 ^ L - 1 → (nI (r s) &&& nI kn = 0 ↔ ¬ O s)) : ∀ (m s n : Nat) (F : Nat → Nat) (P : PH), s + m = 2 ^ L - 1 → m < n → R83 r P → R84 F P → sndF O (2 ^ L - 1) F → (∀ S, S < s → (S = 0 ∨ F S ≠ 0) → ∀ p, rulS O (2 ^ L - 1) S p → F (S ||| p) ≠ 0 ∧ F (S ||| p) ≤ F S + 1) → ∃ (F' : Nat → Nat) (Q : PH), Sh_share_10 (nI (2 ^ L - 1)) (nI kn) n (nI s) P = Sh_share_48 (nI (2 ^ L - 1)) Q ∧ R84 F' Q ∧ sndF O (2 ^ L - 1) F' ∧ (∀ S, S < 2 ^ L - 1 → (S = 0 ∨ F' S ≠ 0) → ∀ p, rulS O (2 ^ L - 1) S p → F' (S ||| p) ≠ 0 ∧ F' (S ||| p) ≤ F' S + 1) ∧ o84 P Q := by
  have pl : 2 ^ L ≤ 2 ^ 12 := Nat.pow_le_pow_right (by decide) hL
  have e12 : (2 : Nat) ^ 12 = 4096 := rfl
  have pp : 0 < 2 ^ L := Nat.two_pow_pos L
  intro m
  induction m with
  | zero =>
    intro s n F P hk hn hR hF hsn hd
    obtain ⟨n, rfl⟩ : ∃ q, n = q + 1 := ⟨n - 1, by omega⟩
    refine ⟨F, P, ?_, hF, hsn, fun S hS => hd S (by omega), o84.rf P⟩
    unfold Sh_share_10
    rw [if_pos (by rw [z_le (by omega) (by omega)]; omega)]
  | succ m ih =>
    intro s n F P hk hn hR hF hsn hd
    obtain ⟨n, rfl⟩ : ∃ q, n = q + 1 := ⟨n - 1, by omega⟩
    have hs : s < 4096 := by omega
    have s1 : nI s + 1 = nI (s + 1) := nI_1 _
    obtain ⟨c1, c2⟩ := hF s hs
    have go : (s = 0 ∨ F s ≠ 0) → ∃ (F' : Nat → Nat) (Q : PH), Sh_share_35 (Sh_share_10 (nI (2 ^ L - 1)) (nI kn) n) (nI (2 ^ L - 1)) (nI kn) (nI s) P = Sh_share_48 (nI (2 ^ L - 1)) Q ∧ R84 F' Q ∧ sndF O (2 ^ L - 1) F' ∧ (∀ S, S < 2 ^ L - 1 → (S = 0 ∨ F' S ≠ 0) → ∀ p, rulS O (2 ^ L - 1) S p → F' (S ||| p) ≠ 0 ∧ F' (S ||| p) ≤ F' S + 1) ∧ o84 P Q := fun h0 => by
      obtain ⟨F1, P1, a1, a2, a3, a4, a5, a6, a7⟩ := sh_behind (by omega) (show s < 2 ^ L - 1 by omega) (sb_all (by omega)) hO hR hF hsn h0
      obtain ⟨F', Q, b1, b2, b3, b4, b5⟩ := ih (s + 1) n F1 P1 (by omega) (by omega) (fun t ht => by rw [a7.1 83 (by decide)]; exact hR t ht) a2 a3 (fun S hS h0 p hp => by
        rw [a5 S (by omega)] at h0 ⊢
        by_cases z : S = s
        · rw [z] at hp h0 ⊢; exact a6 p hp
        · obtain ⟨d1, d2⟩ := hd S (by omega) h0 p hp
          exact ⟨(a4 _ d1).1, Nat.le_trans (a4 _ d1).2 d2⟩)
      refine ⟨F', Q, ?_, b2, b3, b4, a7.tr b5⟩
      unfold Sh_share_35
      rw [a1, Option.bind_some, s1]
      exact b1
    unfold Sh_share_10
    rw [if_neg (nI_ge (by omega) (by omega)), if_neg (show ¬ (4096 : Int32) ≤ nI s from (show ¬ nI 4096 ≤ nI s from nI_ge hs (by decide)))]
    by_cases z : s = 0
    · rw [if_pos (by rw [z]; rfl)]
      exact go (Or.inl z)
    · rw [if_neg (nI_ne0 (by omega) (by omega)), z_gd hs (by decide), z_cl (by omega), c1, s1]
      by_cases y : F s = 0
      · rw [if_pos (by rw [y]; rfl)]
        exact ih (s + 1) n F P (by omega) (by omega) hR hF hsn (fun S hS h0 p hp => by
          by_cases w : S = s
          · rw [w] at h0
            exact absurd h0 (by omega)
          · exact hd S (by omega) h0 p hp)
      · rw [if_neg (nI_ne0 (by omega) (by omega))]
        exact go (Or.inr y)
theorem sh_share {r : Nat → Nat} {kn L : Nat} {P : PH} (hL : L ≤ 12) (hO : ∀ s, s ≤ 2 ^ L - 1 → (nI (r s) &&& nI kn = 0 ↔ ¬ O s)) (hR : R83 r P) : ∃ (a : Int32) (Q : PH), Sh_share (nI (2 ^ L - 1)) (nI kn) P = some (a, Q) ∧ o84 P Q ∧ (2 ^ L - 1 = 0 → a = nI 0) ∧ (2 ^ L - 1 ≠ 0 → (∃ n, Chn O (2 ^ L - 1) n (2 ^ L - 1) ∧ (∀ n', Chn O (2 ^ L - 1) n' (2 ^ L - 1) → n ≤ n') ∧ a = nI n) ∨ ((∀ n, ¬ Chn O (2 ^ L - 1) n (2 ^ L - 1)) ∧ a = m1)) := by
  have pl : 2 ^ L ≤ 2 ^ 12 := Nat.pow_le_pow_right (by decide) hL
  have e12 : (2 : Nat) ^ 12 = 4096 := rfl
  have pp : 0 < 2 ^ L := Nat.two_pow_pos L
  have o1 : o84 P (rI P 84 (fun _ => (0 : Int32))) := ⟨fun n a => by
    show (if n = 84 then (fun _ => (0 : Int32)) else P.1 n) = P.1 n
    rw [if_neg a], rfl⟩
  obtain ⟨F, Q, f1, f2, f3, f4, f5⟩ := sh_10 hL hO (2 ^ L - 1) 0 bigN (fun _ => 0) (rI P 84 (fun _ => (0 : Int32))) (by omega) (big_gt (by omega)) (fun s hs => by rw [o1.1 83 (by decide)]; exact hR s hs) (fun s hs => by
    refine ⟨?_, Nat.zero_le _⟩
    show (if (84 : Nat) = 84 then (fun _ => (0 : Int32)) else P.1 84) s = nI 0
    rw [if_pos rfl]
    rfl) ⟨rfl, fun T _ z => absurd rfl z⟩ (fun S hS => by omega)
  have low : ∀ n T, Chn O (2 ^ L - 1) n T → (T = 0 ∧ n = 0) ∨ (F T ≠ 0 ∧ F T ≤ n) := by
    intro n
    induction n with
    | zero => intro T h; exact Or.inl ⟨h, rfl⟩
    | succ n ih =>
      intro T h
      obtain ⟨S, p, h1, h2, h3⟩ := h
      have sb := Chn.sb (by omega) n S h1
      have lt := h2.lt (by omega)
      obtain ⟨d1, d2, d3, d4⟩ := dif_or (by omega) sb h2.1
      have hSa : S < 2 ^ L - 1 := by
        have : S ≤ 2 ^ L - 1 := sb.le
        rcases Nat.lt_or_ge S (2 ^ L - 1) with z | z
        · exact z
        · exfalso
          obtain ⟨-, -, i, i1, i2, -⟩ := h2
          have e : S = 2 ^ L - 1 := by omega
          rw [e, dif_b (by omega), Bool.and_eq_true, Bool.not_eq_true'] at i2
          rw [i2.1] at i2
          cases i2.2
      rw [h3]
      rcases ih S h1 with ⟨z1, z2⟩ | ⟨z1, z2⟩
      · obtain ⟨y1, y2⟩ := f4 S hSa (Or.inl z1) p h2
        have : F S = 0 := by rw [z1]; exact f3.1
        exact Or.inr ⟨y1, by omega⟩
      · obtain ⟨y1, y2⟩ := f4 S hSa (Or.inr z1) p h2
        exact Or.inr ⟨y1, by omega⟩
  obtain ⟨c1, c2⟩ := f2 (2 ^ L - 1) (by omega)
  have go : ∀ a : Int32, Sh_share_69 (nI (2 ^ L - 1)) (nI (F (2 ^ L - 1))) Q = some (a, Q) → Sh_share (nI (2 ^ L - 1)) (nI kn) P = some (a, Q) := by
    intro a ha
    unfold Sh_share
    rw [Option.bind_some]
    show Sh_share_10 (nI (2 ^ L - 1)) (nI kn) bigN (nI 0) (rI P 84 (fun _ => (0 : Int32))) = _
    rw [f1]
    unfold Sh_share_48
    rw [if_neg (nI_pos (by omega)), if_neg (show ¬ (4096 : Int32) ≤ nI (2 ^ L - 1) from (show ¬ nI 4096 ≤ nI (2 ^ L - 1) from nI_ge (by omega) (by decide))), z_gd (by omega) (by decide), z_cl (by omega), c1]
    exact ha
  by_cases z : F (2 ^ L - 1) = 0
  · by_cases y : 2 ^ L - 1 = 0
    · refine ⟨nI 0, Q, go _ ?_, o1.tr f5, fun _ => rfl, fun w => absurd y w⟩
      unfold Sh_share_69
      rw [z, if_pos (by decide), if_pos (by rw [y]; rfl)]
    · refine ⟨m1, Q, go _ ?_, o1.tr f5, fun w => absurd w y, fun _ => Or.inr ⟨fun n hn => ?_, rfl⟩⟩
      · unfold Sh_share_69
        rw [z, if_pos (by decide), if_neg (nI_ne0 (by omega) (by omega))]
        rfl
      · rcases low n _ hn with w | w
        · exact y w.1
        · exact w.1 z
  · have y : 2 ^ L - 1 ≠ 0 := fun w => z (by rw [w]; exact f3.1)
    refine ⟨nI (F (2 ^ L - 1)), Q, go _ ?_, o1.tr f5, fun w => absurd w y, fun _ => Or.inl ⟨_, f3.2 _ (by omega) z, fun n hn => ?_, rfl⟩⟩
    · unfold Sh_share_69
      rw [if_neg (nI_ne0 (by omega) (by omega))]
    · rcases low n _ hn with w | w
      · exact absurd w.1 y
      · exact w.2
end SHR
