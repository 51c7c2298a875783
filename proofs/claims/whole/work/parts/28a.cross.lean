/-! CROSSINGS -/
theorem ct_inj {A : Nat → Bool} {f : Nat → Nat} {m : Nat} : ∀ {n : Nat} {B : Nat → Bool}, (∀ i, i < n → A i = true → f i < m ∧ B (f i) = true) → (∀ i j, i < n → j < n → A i = true → A j = true → f i = f j → i = j) → fb_ct A n ≤ fb_ct B m
  | 0, _, _, _ => Nat.zero_le _
  | n + 1, B, h, hi => by
    rw [fb_ct_succ]
    cases hA : A n
    · have := ct_inj (n := n) (fun i q => h i (by omega)) (fun i j a b => hi i j (by omega) (by omega))
      simpa using this
    · obtain ⟨f1, f2⟩ := h n (by omega) hA
      have e := fb_ct_upd B false f1
      rw [f2] at e
      have := ct_inj (n := n) (B := fun k => if k = f n then false else B k) (fun i q a => by
        obtain ⟨g1, g2⟩ := h i (by omega) a
        refine ⟨g1, ?_⟩
        have : ¬ f i = f n := fun r => by have := hi i n (by omega) (by omega) a hA r; omega
        show (if f i = f n then false else B (f i)) = true
        rw [if_neg this]; exact g2) (fun i j a b => hi i j (by omega) (by omega))
      simp only [if_true, Bool.false_eq_true, if_false] at e ⊢
      omega
theorem ct_one {p : Nat → Bool} {n : Nat} (h : ∀ i j, i < n → j < n → p i = true → p j = true → i = j) : fb_ct p n ≤ 1 := by
  have := ct_inj (A := p) (f := fun _ => 0) (m := 1) (B := fun _ => true) (n := n) (fun i _ _ => ⟨by omega, rfl⟩) (fun i j a b c d _ => h i j a b c d)
  exact Nat.le_trans this (fb_ct_le _ _)
theorem sm_ct {f : Nat → Nat} : ∀ {n : Nat}, (∀ k, k < n → f k ≤ 1) → fb_sm f n = fb_ct (fun k => decide (0 < f k)) n
  | 0, _ => rfl
  | n + 1, h => by
    rw [fb_sm_succ, fb_ct_succ, sm_ct (fun k q => h k (by omega))]
    have := h n (by omega)
    by_cases c : 0 < f n
    · rw [if_pos (decide_eq_true c)]; omega
    · rw [if_neg (fun q => c (of_decide_eq_true q))]; omega
section CRS
variable {D : DT} {N : NT} {P : PH}
def slt (D : DT) (l : Nat) : Bool := decide (dW D l % 2 = 1)
def mn (a b : Nat) : Nat := if b < a then b else a
def sqn (F T : Nat) : Nat := 12 * mn (F / 12) (T / 12) + mn (F % 12) (T % 12)
def sqr (D : DT) (l : Nat) : Nat := sqn (dF D l) (dT D l)
theorem jMin_n {a b : Nat} (ha : a < 2147483648) (hb : b < 2147483648) : jMin (nI a) (nI b) = nI (mn a b) := by
  unfold jMin mn
  by_cases c : b < a
  · rw [if_pos ((nI_ltI hb ha).mpr c), if_pos c]
  · rw [if_neg (fun q => c ((nI_ltI hb ha).mp q)), if_neg c]
theorem mo_square (hD : WD D) (hR : RD D (P.1 88)) {l : Nat} (hl : l < dN D) : Mo_square (nI l) P = some (nI (sqr D l)) := by
  have hF := (hD.2.1 l hl).1
  have hT := (hD.to hl).1
  unfold Mo_square
  rw [mo_from hD hR hl, mo_to hD hR hl]
  simp only [Option.bind_some]
  rw [show (12 : Int32) = nI 12 from rfl, pk_rem (a := dF D l) (d := 12) (by omega) (by decide) (by decide), pk_rem (a := dT D l) (d := 12) (by omega) (by decide) (by decide), pk_div (a := dF D l) (d := 12) (by omega) (by decide) (by decide), pk_div (a := dT D l) (d := 12) (by omega) (by decide) (by decide), jMin_n (by omega) (by omega), jMin_n (by omega) (by omega), pk_mul, nI_add]
  rfl
def wyOK (h w : Nat) : Bool := match stp h w with
  | none => true
  | some t => decide ((t = h + 13 → w = 1) ∧ (h = t + 13 → w = 5) ∧ (t = h + 11 → w = 3) ∧ (h = t + 11 → w = 7) ∧ (w % 2 = 1 → (t = h + 13 ∧ h % 12 < 11 ∧ h / 12 < 11) ∨ (h = t + 13 ∧ t % 12 < 11 ∧ t / 12 < 11) ∨ (t = h + 11 ∧ 0 < h % 12 ∧ h / 12 < 11) ∨ (h = t + 11 ∧ 0 < t % 12 ∧ t / 12 < 11)))
theorem wy_all : ∀ h, h < 144 → ∀ w, w < 8 → wyOK h w = true := by decide +kernel
theorem wy_at (hD : WD D) {l : Nat} (hl : l < dN D) : (dT D l = dF D l + 13 → dW D l = 1) ∧ (dF D l = dT D l + 13 → dW D l = 5) ∧ (dT D l = dF D l + 11 → dW D l = 3) ∧ (dF D l = dT D l + 11 → dW D l = 7) ∧ (dW D l % 2 = 1 → (dT D l = dF D l + 13 ∧ dF D l % 12 < 11 ∧ dF D l / 12 < 11) ∨ (dF D l = dT D l + 13 ∧ dT D l % 12 < 11 ∧ dT D l / 12 < 11) ∨ (dT D l = dF D l + 11 ∧ 0 < dF D l % 12 ∧ dF D l / 12 < 11) ∨ (dF D l = dT D l + 11 ∧ 0 < dT D l % 12 ∧ dT D l / 12 < 11)) := by
  obtain ⟨a, b, -, e⟩ := hD.2.1 l hl
  have q := wy_all _ a _ b
  unfold wyOK at q
  rw [e] at q
  exact of_decide_eq_true q
theorem sqn_ne {q : Nat} (h : q % 12 < 11) : sqn q (q + 13) = q ∧ sqn (q + 13) q = q := by
  have d1 : (q + 13) / 12 = q / 12 + 1 := by omega
  have d2 : (q + 13) % 12 = q % 12 + 1 := by omega
  unfold sqn mn
  rw [d1, d2]
  refine ⟨?_, ?_⟩
  · rw [if_neg (by omega), if_neg (by omega)]; omega
  · rw [if_pos (by omega), if_pos (by omega)]; omega
theorem sqn_nw {q : Nat} (h : q % 12 < 11) : sqn (q + 1) (q + 12) = q ∧ sqn (q + 12) (q + 1) = q := by
  have d1 : (q + 1) / 12 = q / 12 := by omega
  have d2 : (q + 1) % 12 = q % 12 + 1 := by omega
  have d3 : (q + 12) / 12 = q / 12 + 1 := by omega
  have d4 : (q + 12) % 12 = q % 12 := by omega
  unfold sqn mn
  rw [d1, d2, d3, d4]
  refine ⟨?_, ?_⟩
  · rw [if_neg (by omega), if_pos (by omega)]; omega
  · rw [if_pos (by omega), if_neg (by omega)]; omega
theorem slt_sq (hD : WD D) {l : Nat} (hl : l < dN D) (hs : slt D l = true) : sqr D l % 12 < 11 ∧ sqr D l / 12 < 11 ∧ (jn D (sqr D l) (sqr D l + 13) l = true ∨ jn D (sqr D l + 1) (sqr D l + 12) l = true) := by
  obtain ⟨-, -, -, -, h5⟩ := wy_at hD hl
  unfold sqr
  rcases h5 (of_decide_eq_true hs) with ⟨t1, t2, t3⟩ | ⟨t1, t2, t3⟩ | ⟨t1, t2, t3⟩ | ⟨t1, t2, t3⟩
  · rw [t1, (sqn_ne t2).1]
    exact ⟨t2, t3, Or.inl (jn_iff.mpr (Or.inl ⟨rfl, t1⟩))⟩
  · rw [t1, (sqn_ne t2).2]
    exact ⟨t2, t3, Or.inl (jn_iff.mpr (Or.inr ⟨t1, rfl⟩))⟩
  · obtain ⟨q, hq⟩ : ∃ q, dF D l = q + 1 := ⟨dF D l - 1, by omega⟩
    have e : dT D l = q + 12 := by omega
    rw [e, hq, (sqn_nw (by omega)).1]
    exact ⟨by omega, by omega, Or.inr (jn_iff.mpr (Or.inl ⟨hq, e⟩))⟩
  · obtain ⟨q, hq⟩ : ∃ q, dT D l = q + 1 := ⟨dT D l - 1, by omega⟩
    have e : dF D l = q + 12 := by omega
    rw [e, hq, (sqn_nw (by omega)).2]
    exact ⟨by omega, by omega, Or.inr (jn_iff.mpr (Or.inr ⟨e, hq⟩))⟩
theorem sq_ne_slt (hD : WD D) {l q : Nat} (hl : l < dN D) (hj : jn D q (q + 13) l = true) : slt D l = true ∧ sqr D l = q := by
  obtain ⟨h1, h2, -, -, h5⟩ := wy_at hD hl
  rcases jn_iff.mp hj with ⟨a, b⟩ | ⟨a, b⟩
  · have w := h1 (by omega)
    have hs : dW D l % 2 = 1 := by rw [w]
    refine ⟨decide_eq_true hs, ?_⟩
    have := h5 hs
    unfold sqr
    rw [a, b]
    exact (sqn_ne (by omega)).1
  · have w := h2 (by omega)
    have hs : dW D l % 2 = 1 := by rw [w]
    refine ⟨decide_eq_true hs, ?_⟩
    have := h5 hs
    unfold sqr
    rw [a, b]
    exact (sqn_ne (by omega)).2
theorem sq_nw_slt (hD : WD D) {l q : Nat} (hl : l < dN D) (hj : jn D (q + 1) (q + 12) l = true) : slt D l = true ∧ sqr D l = q := by
  obtain ⟨-, -, h3, h4, h5⟩ := wy_at hD hl
  rcases jn_iff.mp hj with ⟨a, b⟩ | ⟨a, b⟩
  · have w := h3 (by omega)
    have hs : dW D l % 2 = 1 := by rw [w]
    refine ⟨decide_eq_true hs, ?_⟩
    have := h5 hs
    unfold sqr
    rw [a, b]
    exact (sqn_nw (by omega)).1
  · have w := h4 (by omega)
    have hs : dW D l % 2 = 1 := by rw [w]
    refine ⟨decide_eq_true hs, ?_⟩
    have := h5 hs
    unfold sqr
    rw [a, b]
    exact (sqn_nw (by omega)).2
theorem jn_uniq (hD : WD D) {a b l m : Nat} (hl : l < dN D) (hm : m < dN D) (h1 : jn D a b l = true) (h2 : jn D a b m = true) : l = m := by
  refine hD.2.2 l m hl hm (jn_iff.mpr ?_)
  rw [jn_iff] at h1 h2
  omega
def cwOK (q : Nat) : Bool := (if q % 12 < 11 ∧ q / 12 < 11 then decide (stp q 0 = some (q + 1)) && (decide (stp q 1 = some (q + 13)) && decide (stp (q + 1) 3 = some (q + 12))) else decide (stp q 1 = none))
theorem cw_all : ∀ q, q < 144 → cwOK q = true := by decide +kernel
theorem cw_in {q : Nat} (h : q < 144) (h1 : q % 12 < 11) (h2 : q / 12 < 11) : stp q 0 = some (q + 1) ∧ stp q 1 = some (q + 13) ∧ stp (q + 1) 3 = some (q + 12) := by
  have c := cw_all q h
  unfold cwOK at c
  rw [if_pos ⟨h1, h2⟩] at c
  simpa using c
theorem cw_some {q t : Nat} (h : q < 144) (e : stp q 1 = some t) : q % 12 < 11 ∧ q / 12 < 11 ∧ t = q + 13 := by
  have c := cw_all q h
  unfold cwOK at c
  by_cases b : q % 12 < 11 ∧ q / 12 < 11
  · rw [if_pos b, e] at c
    simp at c
    exact ⟨b.1, b.2, c.2.1⟩
  · rw [if_neg b, e] at c
    simp at c
/-- lines l, m cross, and count -/
def Xl (D : DT) (u : Bool) (l m : Nat) : Bool := slt D l && (slt D m && (decide (sqr D l = sqr D m) && (u || !decide (dI D l = dI D m))))
def Bq (D : DT) (u : Bool) (h : Nat) : Bool := match lnA D h 1, (stp h 0).bind (fun t => lnA D t 3) with
  | some a, some b => u || !decide (dI D a = dI D b)
  | _, _ => false
theorem Xl_iff {u : Bool} {l m : Nat} : Xl D u l m = true ↔ slt D l = true ∧ slt D m = true ∧ sqr D l = sqr D m ∧ (u = true ∨ dI D l ≠ dI D m) := by
  unfold Xl
  simp only [Bool.and_eq_true, Bool.or_eq_true, decide_eq_true_eq, Bool.not_eq_true', decide_eq_false_iff_not, ne_eq]
/-- two lines of a square -/
theorem sq_two (hD : WD D) {l m : Nat} (hl : l < dN D) (hm : m < dN D) (hne : l ≠ m) (h1 : slt D l = true) (h2 : slt D m = true) (e : sqr D l = sqr D m) :
    sqr D l < 144 ∧ stp (sqr D l) 0 = some (sqr D l + 1) ∧ ((lnA D (sqr D l) 1 = some l ∧ lnA D (sqr D l + 1) 3 = some m) ∨ (lnA D (sqr D l) 1 = some m ∧ lnA D (sqr D l + 1) 3 = some l)) := by
  obtain ⟨b1, b2, b3⟩ := slt_sq hD hl h1
  obtain ⟨-, -, c3⟩ := slt_sq hD hm h2
  rw [← e] at c3
  have hq : sqr D l < 144 := by omega
  obtain ⟨w0, w1, w3⟩ := cw_in hq b1 b2
  refine ⟨hq, w0, ?_⟩
  rcases b3 with b | b
  · rcases c3 with c | c
    · exact absurd (jn_uniq hD hl hm b c) hne
    · exact Or.inl ⟨lnA_is hD w1 hl b, lnA_is hD w3 hm c⟩
  · rcases c3 with c | c
    · exact Or.inr ⟨lnA_is hD w1 hm c, lnA_is hD w3 hl b⟩
    · exact absurd (jn_uniq hD hl hm b c) hne
theorem Bq_some {u : Bool} {h : Nat} (e : Bq D u h = true) : ∃ a b t, lnA D h 1 = some a ∧ stp h 0 = some t ∧ lnA D t 3 = some b ∧ (u = true ∨ dI D a ≠ dI D b) := by
  unfold Bq at e
  cases e1 : lnA D h 1 with
  | none => rw [e1] at e; cases e
  | some a =>
    cases e2 : stp h 0 with
    | none => rw [e1, e2] at e; cases e
    | some t =>
      rw [e1, e2] at e
      cases e3 : lnA D t 3 with
      | none => rw [show ((some t).bind (fun t => lnA D t 3)) = lnA D t 3 from rfl, e3] at e; cases e
      | some b =>
        rw [show ((some t).bind (fun t => lnA D t 3)) = lnA D t 3 from rfl, e3] at e
        have e : (u || !decide (dI D a = dI D b)) = true := e
        refine ⟨a, b, t, rfl, rfl, e3, ?_⟩
        simpa using e
theorem Bq_is {u : Bool} {h a b t : Nat} (e1 : lnA D h 1 = some a) (e2 : stp h 0 = some t) (e3 : lnA D t 3 = some b) : Bq D u h = (u || !decide (dI D a = dI D b)) := by
  unfold Bq
  rw [e1, e2, show ((some t).bind (fun t => lnA D t 3)) = lnA D t 3 from rfl, e3]
theorem cross_ct (hD : WD D) (u : Bool) : fb_sm (fun l => fb_ct (Xl D u l) l) (dN D) = fb_ct (Bq D u) 144 := by
  have one : ∀ l, l < dN D → fb_ct (Xl D u l) l ≤ 1 := fun l hl => ct_one (fun i j hi hj a b => by
    obtain ⟨a1, a2, a3, -⟩ := Xl_iff.mp a
    obtain ⟨-, b2, b3, -⟩ := Xl_iff.mp b
    obtain ⟨-, -, q⟩ := sq_two hD hl (show i < dN D by omega) (by omega) a1 a2 a3
    obtain ⟨-, -, r⟩ := sq_two hD hl (show j < dN D by omega) (by omega) a1 b2 b3
    rcases q with ⟨q1, q2⟩ | ⟨q1, q2⟩
    · rcases r with ⟨r1, r2⟩ | ⟨r1, r2⟩
      · rw [q2] at r2; exact Option.some.inj r2
      · rw [q1] at r1; have := Option.some.inj r1; omega
    · rcases r with ⟨r1, r2⟩ | ⟨r1, r2⟩
      · rw [q1] at r1; have := Option.some.inj r1; omega
      · rw [q1] at r1; exact Option.some.inj r1)
  rw [sm_ct one]
  have up : ∀ l, l < dN D → decide (0 < fb_ct (Xl D u l) l) = true → ∃ m, m < l ∧ Xl D u l m = true := fun l hl q => fb_ct_pos.mp (of_decide_eq_true q)
  apply Nat.le_antisymm
  · refine ct_inj (f := sqr D) (fun l hl q => ?_) (fun l k hl hk q r e => ?_)
    · obtain ⟨m, hm, x⟩ := up l hl q
      obtain ⟨a1, a2, a3, a4⟩ := Xl_iff.mp x
      obtain ⟨s1, s2, s3⟩ := sq_two hD hl (show m < dN D by omega) (by omega) a1 a2 a3
      refine ⟨s1, ?_⟩
      rcases s3 with ⟨t1, t2⟩ | ⟨t1, t2⟩
      · rw [Bq_is t1 s2 t2]
        rcases a4 with a4 | a4
        · rw [a4]; rfl
        · simp [a4]
      · rw [Bq_is t1 s2 t2]
        rcases a4 with a4 | a4
        · rw [a4]; rfl
        · have : ¬ dI D m = dI D l := fun z => a4 z.symm
          simp [this]
    · obtain ⟨m, hm, x⟩ := up l hl q
      obtain ⟨n, hn, y⟩ := up k hk r
      obtain ⟨a1, a2, a3, a4⟩ := Xl_iff.mp x
      obtain ⟨b1, b2, b3, b4⟩ := Xl_iff.mp y
      obtain ⟨-, -, s3⟩ := sq_two hD hl (show m < dN D by omega) (by omega) a1 a2 a3
      obtain ⟨-, -, t3⟩ := sq_two hD hk (show n < dN D by omega) (by omega) b1 b2 b3
      rw [← e] at t3
      rcases s3 with ⟨q1, q2⟩ | ⟨q1, q2⟩
      · rcases t3 with ⟨r1, r2⟩ | ⟨r1, r2⟩
        · rw [q1] at r1; exact Option.some.inj r1
        · rw [q1] at r1; rw [q2] at r2
          have z1 := Option.some.inj r1
          have z2 := Option.some.inj r2
          omega
      · rcases t3 with ⟨r1, r2⟩ | ⟨r1, r2⟩
        · rw [q1] at r1; rw [q2] at r2
          have z1 := Option.some.inj r1
          have z2 := Option.some.inj r2
          omega
        · rw [q2] at r2; exact Option.some.inj r2
  · have key : ∀ h, h < 144 → Bq D u h = true → ∃ a b t, lnA D h 1 = some a ∧ stp h 0 = some t ∧ lnA D t 3 = some b ∧ (u = true ∨ dI D a ≠ dI D b) ∧ a < dN D ∧ b < dN D ∧ a ≠ b ∧ slt D a = true ∧ slt D b = true ∧ sqr D a = h ∧ sqr D b = h := by
      intro h hh q
      obtain ⟨a, b, t, e1, e2, e3, e4⟩ := Bq_some q
      obtain ⟨t1, f1, f2, f3⟩ := lnA_some e1
      obtain ⟨g1, g2, g3⟩ := cw_some hh f1
      obtain ⟨w0, w1, w3⟩ := cw_in hh g1 g2
      rw [e2] at w0
      obtain rfl := Option.some.inj w0
      obtain ⟨t2, k1, k2, k3⟩ := lnA_some e3
      rw [k1] at w3
      obtain rfl := Option.some.inj w3
      rw [g3] at f3
      obtain ⟨x1, x2⟩ := sq_ne_slt hD f2 f3
      obtain ⟨y1, y2⟩ := sq_nw_slt hD k2 k3
      refine ⟨a, b, _, e1, e2, e3, e4, f2, k2, ?_, x1, y1, x2, y2⟩
      rintro rfl
      rw [jn_iff] at f3 k3
      omega
    refine ct_inj (f := fun h => if (lnA D h 1).getD 0 < (((stp h 0).bind (fun t => lnA D t 3)).getD 0) then (((stp h 0).bind (fun t => lnA D t 3)).getD 0) else (lnA D h 1).getD 0) (fun h hh q => ?_) (fun h k hh hk q r e => ?_)
    · obtain ⟨a, b, t, e1, e2, e3, e4, ha, hb, hab, sa, sb, qa, qb⟩ := key h hh q
      show (if (lnA D h 1).getD 0 < (((stp h 0).bind (fun t => lnA D t 3)).getD 0) then (((stp h 0).bind (fun t => lnA D t 3)).getD 0) else (lnA D h 1).getD 0) < dN D ∧ decide (0 < fb_ct (Xl D u (if (lnA D h 1).getD 0 < (((stp h 0).bind (fun t => lnA D t 3)).getD 0) then (((stp h 0).bind (fun t => lnA D t 3)).getD 0) else (lnA D h 1).getD 0)) (if (lnA D h 1).getD 0 < (((stp h 0).bind (fun t => lnA D t 3)).getD 0) then (((stp h 0).bind (fun t => lnA D t 3)).getD 0) else (lnA D h 1).getD 0)) = true
      rw [e1, e2, show ((some t).bind (fun t => lnA D t 3)) = lnA D t 3 from rfl, e3]
      show (if a < b then b else a) < dN D ∧ decide (0 < fb_ct (Xl D u (if a < b then b else a)) (if a < b then b else a)) = true
      by_cases c : a < b
      · rw [if_pos c]
        refine ⟨hb, decide_eq_true (fb_ct_pos.mpr ⟨a, c, Xl_iff.mpr ⟨sb, sa, qb.trans qa.symm, ?_⟩⟩)⟩
        rcases e4 with z | z
        · exact Or.inl z
        · exact Or.inr (fun y => z y.symm)
      · rw [if_neg c]
        exact ⟨ha, decide_eq_true (fb_ct_pos.mpr ⟨b, by omega, Xl_iff.mpr ⟨sa, sb, qa.trans qb.symm, e4⟩⟩)⟩
    · obtain ⟨a, b, t, e1, e2, e3, e4, ha, hb, hab, sa, sb, qa, qb⟩ := key h hh q
      obtain ⟨a', b', t', e1', e2', e3', e4', ha', hb', hab', sa', sb', qa', qb'⟩ := key k hk r
      have e : (if (lnA D h 1).getD 0 < (((stp h 0).bind (fun t => lnA D t 3)).getD 0) then (((stp h 0).bind (fun t => lnA D t 3)).getD 0) else (lnA D h 1).getD 0) = (if (lnA D k 1).getD 0 < (((stp k 0).bind (fun t => lnA D t 3)).getD 0) then (((stp k 0).bind (fun t => lnA D t 3)).getD 0) else (lnA D k 1).getD 0) := e
      rw [e1, e2, e1', e2', show ((some t).bind (fun t => lnA D t 3)) = lnA D t 3 from rfl, e3, show ((some t').bind (fun t => lnA D t 3)) = lnA D t' 3 from rfl, e3'] at e
      have e : (if a < b then b else a) = (if a' < b' then b' else a') := e
      have s1 : sqr D (if a < b then b else a) = h := by split <;> assumption
      have s2 : sqr D (if a' < b' then b' else a') = k := by split <;> assumption
      rw [← s1, ← s2, e]
end CRS
