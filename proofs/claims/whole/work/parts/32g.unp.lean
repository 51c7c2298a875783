/-! UNPICKED: the mathematics, the reference's isWell -/
def lnK (D : DT) (N : NT) (k : Nat) : Nat := (lnA D (xH N k) (xD N k)).getD 0
def tx (D : DT) (N : NT) (p : Nat → Bool) (v : Bool) : Nat → Nat → Bool
  | 0, _ => false
  | k + 1, l => tx D N p v k l ^^ (p k && ((ovN N k == v) && decide (l = lnK D N k)))
def tnG (D : DT) (N : NT) (p : Nat → Bool) : Nat → NT → NT
  | 0, N1 => N1
  | k + 1, N1 => if p k then flN (ovN N k) (lnK D N k) (tnG D N p k N1) else tnG D N p k N1
def pij (N : NT) (i j k : Nat) : Bool := decide (k < i) || decide (xM N - j ≤ k)
theorem fl_O (v : Bool) (m : Nat) (N : NT) (l : Nat) : xO (flN v m N) l = (xO N l ^^ (v && decide (l = m))) ∧ xU (flN v m N) l = (xU N l ^^ (!v && decide (l = m))) := by
  cases v
  · exact ⟨(by show xO N l = (xO N l ^^ (false && decide (l = m))); simp), rfl⟩
  · exact ⟨rfl, (by show xU N l = (xU N l ^^ (!true && decide (l = m))); simp)⟩
section UNP
variable {D : DT} {N : NT} {P : PH}
theorem tn_rest {p : Nat → Bool} {N1 : NT} : ∀ k, (tnG D N p k N1).2.2 = N1.2.2
  | 0 => rfl
  | k + 1 => by
    unfold tnG
    cases p k
    · exact tn_rest k
    · exact tn_rest k
theorem tn_OU {p : Nat → Bool} {N1 : NT} (l : Nat) : ∀ k, xO (tnG D N p k N1) l = (xO N1 l ^^ tx D N p true k l) ∧ xU (tnG D N p k N1) l = (xU N1 l ^^ tx D N p false k l)
  | 0 => ⟨(by show xO N1 l = (xO N1 l ^^ false); simp), (by show xU N1 l = (xU N1 l ^^ false); simp)⟩
  | k + 1 => by
    obtain ⟨a, b⟩ := tn_OU (p := p) (N1 := N1) l k
    unfold tnG tx
    cases hp : p k
    · simp only [Bool.false_eq_true, if_false, Bool.false_and, Bool.xor_false]
      exact ⟨a, b⟩
    · rw [if_pos rfl, (fl_O _ _ _ _).1, (fl_O _ _ _ _).2, a, b]
      cases ovN N k <;> simp
theorem st_k (hD : WD D) (hN : WN D N) (ht : xT N = true) {k : Nat} (hk : k < xM N) : lnA D (xH N k) (xD N k) = some (lnK D N k) ∧ xD N k < 8 ∧ lnK D N k < dN D ∧ dat D (xH N k) (lnK D N k) = true ∧ dI D (lnK D N k) = xIk N ∧ xWk N (ovN N k) (lnK D N k) = true ∧ xH N (k + 1) = oth D (lnK D N k) (xH N k) := by
  obtain ⟨a, l, e, b, c⟩ := (hN ht).2.2.2.1 k hk
  have el : lnK D N k = l := by unfold lnK; rw [e]; rfl
  have s := lnA_stp e hD
  rw [el]
  exact ⟨e, a, s.2.1, s.2.2, b, c, xH_succ hD e⟩
theorem st_ne (hD : WD D) (hN : WN D N) (ht : xT N = true) {j k : Nat} (hj : j < xM N) (hk : k < xM N) (ho : ovN N j = ovN N k) (hl : lnK D N j = lnK D N k) : j = k := by
  have d := (hN ht).2.2.2.2.1
  have a := (st_k hD hN ht hj).1
  have b := (st_k hD hN ht hk).1
  rcases Nat.lt_trichotomy j k with q | q | q
  · exact absurd (by rw [a, b, hl]) (d j k q hk ho)
  · exact q
  · exact absurd (by rw [a, b, hl]) (d k j q hj ho.symm)
theorem tx_iff (hD : WD D) (hN : WN D N) (ht : xT N = true) {p : Nat → Bool} {v : Bool} : ∀ k, k ≤ xM N → ∀ l, (tx D N p v k l = true ↔ ∃ j, j < k ∧ p j = true ∧ ovN N j = v ∧ lnK D N j = l)
  | 0, _, l => ⟨fun h => (by cases h), fun ⟨j, h, _⟩ => (by omega)⟩
  | k + 1, hk, l => by
    have ih := tx_iff hD hN ht (p := p) (v := v) k (by omega) l
    unfold tx
    cases c : (p k && ((ovN N k == v) && decide (l = lnK D N k)))
    · rw [Bool.xor_false, ih]
      refine ⟨fun ⟨j, a, b⟩ => ⟨j, by omega, b⟩, fun ⟨j, a, b1, b2, b3⟩ => ⟨j, ?_, b1, b2, b3⟩⟩
      by_cases q : j = k
      · rw [q] at b1 b2 b3
        rw [b1, b2, b3] at c
        simp at c
      · omega
    · rw [Bool.and_eq_true, Bool.and_eq_true, beq_iff_eq, decide_eq_true_eq] at c
      obtain ⟨c1, c2, c3⟩ := c
      have z : tx D N p v k l = false := ts_nt (fun q => by
        obtain ⟨j, a, b1, b2, b3⟩ := ih.mp q
        have := st_ne hD hN ht (show j < xM N by omega) (show k < xM N by omega) (b2.trans c2.symm) (b3.trans c3)
        omega)
      rw [z]
      exact ⟨fun _ => ⟨k, by omega, c1, c2, c3.symm⟩, fun _ => rfl⟩
/-- what is left, first and last stitches taken out -/
def oS (D : DT) (N : NT) (i j l : Nat) : Bool := lO D N (xIk N) l || tx D N (pij N i j) true (xM N) l
def uS (D : DT) (N : NT) (i j l : Nat) : Bool := lU D N (xIk N) l || tx D N (pij N i j) false (xM N) l
theorem tx_wk (hD : WD D) (hN : WN D N) (ht : xT N = true) {p : Nat → Bool} {v : Bool} {l : Nat} (h : tx D N p v (xM N) l = true) : dI D l = xIk N ∧ xWk N v l = true ∧ l < dN D := by
  obtain ⟨j, a, -, b2, b3⟩ := (tx_iff hD hN ht (xM N) (Nat.le_refl _) l).mp h
  have s := st_k hD hN ht a
  rw [b3, b2] at s
  exact ⟨s.2.2.2.2.1, s.2.2.2.2.2.1, s.2.2.1⟩
theorem lO_tn (hD : WD D) (hN : WN D N) (ht : xT N = true) (i j : Nat) : lO D (tnG D N (pij N i j) (xM N) N) (xIk N) = oS D N i j := by
  funext l
  show (decide (dI D l = xIk N) && !(xO (tnG D N (pij N i j) (xM N) N) l)) = ((decide (dI D l = xIk N) && !xO N l) || tx D N (pij N i j) true (xM N) l)
  rw [(tn_OU l (xM N)).1]
  cases c : tx D N (pij N i j) true (xM N) l
  · simp
  · obtain ⟨a, b, -⟩ := tx_wk hD hN ht c
    have b : xO N l = true := b
    rw [a, b]
    simp
theorem lU_tn (hD : WD D) (hN : WN D N) (ht : xT N = true) (i j : Nat) : lU D (tnG D N (pij N i j) (xM N) N) (xIk N) = uS D N i j := by
  funext l
  show (decide (dI D l = xIk N) && !(xU (tnG D N (pij N i j) (xM N) N) l)) = ((decide (dI D l = xIk N) && !xU N l) || tx D N (pij N i j) false (xM N) l)
  rw [(tn_OU l (xM N)).2]
  cases c : tx D N (pij N i j) false (xM N) l
  · simp
  · obtain ⟨a, b, -⟩ := tx_wk hD hN ht c
    have b : xU N l = true := b
    rw [a, b]
    simp
theorem tn_tn (p : Nat → Bool) (k : Nat) : tnG D N p k (tnG D N p k N) = N := by
  have e1 : xO (tnG D N p k (tnG D N p k N)) = xO N := funext (fun l => by
    rw [(tn_OU l k).1, (tn_OU l k).1]
    cases xO N l <;> cases tx D N p true k l <;> rfl)
  have e2 : xU (tnG D N p k (tnG D N p k N)) = xU N := funext (fun l => by
    rw [(tn_OU l k).2, (tn_OU l k).2]
    cases xU N l <;> cases tx D N p false k l <;> rfl)
  have e3 : (tnG D N p k (tnG D N p k N)).2.2 = N.2.2 := by rw [tn_rest, tn_rest]
  exact Prod.ext e1 (Prod.ext e2 e3)
/-- one stitch more out at the end -/
theorem tx_last (hD : WD D) (hN : WN D N) (ht : xT N = true) {i j : Nat} (hij : i + (j + 1) ≤ xM N) (v : Bool) (l : Nat) : tx D N (pij N i (j + 1)) v (xM N) l = (tx D N (pij N i j) v (xM N) l || ((ovN N (xM N - (j + 1)) == v) && decide (l = lnK D N (xM N - (j + 1))))) ∧ ¬ (tx D N (pij N i j) v (xM N) l = true ∧ ovN N (xM N - (j + 1)) = v ∧ l = lnK D N (xM N - (j + 1))) := by
  have t1 := tx_iff hD hN ht (p := pij N i (j + 1)) (v := v) (xM N) (Nat.le_refl _) l
  have t0 := tx_iff hD hN ht (p := pij N i j) (v := v) (xM N) (Nat.le_refl _) l
  have p0 : ∀ k, pij N i j k = true ↔ k < i ∨ xM N - j ≤ k := fun k => by unfold pij; simp
  have p1 : ∀ k, pij N i (j + 1) k = true ↔ k < i ∨ xM N - (j + 1) ≤ k := fun k => by unfold pij; simp
  refine ⟨?_, ?_⟩
  · rw [Bool.eq_iff_iff, t1, Bool.or_eq_true, t0, Bool.and_eq_true, beq_iff_eq, decide_eq_true_eq]
    constructor
    · rintro ⟨k, a, b, c, d⟩
      by_cases q : k = xM N - (j + 1)
      · rw [q] at c d
        exact Or.inr ⟨c, d.symm⟩
      · refine Or.inl ⟨k, a, (p0 k).mpr ?_, c, d⟩
        have := (p1 k).mp b
        omega
    · rintro (⟨k, a, b, c, d⟩ | ⟨c, d⟩)
      · refine ⟨k, a, (p1 k).mpr ?_, c, d⟩
        have := (p0 k).mp b
        omega
      · exact ⟨xM N - (j + 1), by omega, (p1 _).mpr (Or.inr (Nat.le_refl _)), c, d.symm⟩
  · rintro ⟨a, b, c⟩
    obtain ⟨k, k1, k2, k3, k4⟩ := t0.mp a
    have := st_ne hD hN ht k1 (show xM N - (j + 1) < xM N by omega) (k3.trans b.symm) (k4.trans c)
    have := (p0 k).mp k2
    omega
theorem fM_last (hD : WD D) (hN : WN D N) (ht : xT N = true) {i : Nat} : ∀ j, i + j ≤ xM N → fM D (oS D N i j) (uS D N i j) (xH N (xM N - j)) (ovN N (xM N - j)) = fM D (oS D N i 0) (uS D N i 0) (xH N (xM N)) (ovN N (xM N))
  | 0, _ => by rw [Nat.sub_zero]
  | j + 1, hij => by
    rw [← fM_last hD hN ht j (by omega)]
    obtain ⟨k, hk⟩ : ∃ k, k = xM N - (j + 1) := ⟨_, rfl⟩
    have s := st_k hD hN ht (show k < xM N by omega)
    have tO := tx_last hD hN ht hij true
    have tU := tx_last hD hN ht hij false
    rw [← hk] at tO tU
    have hx : (if ovN N k then oS D N i (j + 1) (lnK D N k) else uS D N i (j + 1) (lnK D N k)) = true := by
      unfold oS uS
      rw [(tO (lnK D N k)).1, (tU (lnK D N k)).1]
      cases ovN N k <;> simp
    have e := fM_inv hD s.2.2.1 s.2.2.2.1 hx
    have eO : stO (oS D N i (j + 1)) (ovN N k) (lnK D N k) = oS D N i j := by
      unfold stO
      cases c : ovN N k
      · show oS D N i (j + 1) = oS D N i j
        funext l
        unfold oS
        rw [(tO l).1, c]
        simp
      · show (fun l => oS D N i (j + 1) l ^^ decide (l = lnK D N k)) = oS D N i j
        funext l
        unfold oS
        rw [(tO l).1, c]
        by_cases q : l = lnK D N k
        · have n1 : tx D N (pij N i j) true (xM N) l = false := ts_nt (fun z => (tO l).2 ⟨z, c, q⟩)
          have n2 : lO D N (xIk N) l = false := by
            have w := s.2.2.2.2.2.1
            rw [c, ← q] at w
            have w : xO N l = true := w
            unfold lO
            rw [w]
            simp
          rw [n1, n2, q]
          simp
        · simp [q]
    have eU : stU (uS D N i (j + 1)) (ovN N k) (lnK D N k) = uS D N i j := by
      unfold stU
      cases c : ovN N k
      · show (fun l => uS D N i (j + 1) l ^^ decide (l = lnK D N k)) = uS D N i j
        funext l
        unfold uS
        rw [(tU l).1, c]
        by_cases q : l = lnK D N k
        · have n1 : tx D N (pij N i j) false (xM N) l = false := ts_nt (fun z => (tU l).2 ⟨z, c, q⟩)
          have n2 : lU D N (xIk N) l = false := by
            have w := s.2.2.2.2.2.1
            rw [c, ← q] at w
            have w : xU N l = true := w
            unfold lU
            rw [w]
            simp
          rw [n1, n2, q]
          simp
        · simp [q]
      · show uS D N i (j + 1) = uS D N i j
        funext l
        unfold uS
        rw [(tU l).1, c]
        simp
    rw [eO, eU, ← s.2.2.2.2.2.2, ← ov_succ, show k + 1 = xM N - j by omega] at e
    rw [← hk, ← e]
def mtI (D : DT) (N : NT) (i : Nat) : Prop := (scn (fM D (oS D N i 0) (uS D N i 0) (xH N (xM N)) (ovN N (xM N))) 144 0 none).1 = none
def wlU (D : DT) (N : NT) (i j : Nat) : Prop := mtI D N i ∧ hng D (oS D N i j) (uS D N i j) (xH N (xM N - j))
theorem wlU_iff (hD : WD D) (hN : WN D N) (ht : xT N = true) {i j : Nat} (hij : i + j ≤ xM N) : (barsS D (oS D N i j) (uS D N i j) (xH N (xM N - j)) (ovN N (xM N - j))).1 = 0 ↔ wlU D N i j := by
  rw [bars0, fM_last hD hN ht j hij]
  exact ⟨fun q => ⟨q.2, q.1⟩, fun q => ⟨q.2, q.1⟩⟩
/-! the reference's isWell -/
theorem mo_hbT (hD : WD D) (hN : WN D N) (ht : xT N = true) (h4 : P.1 88 4 = nI (xB N)) (h9 : ∀ k, k < xM N → P.1 88 (392 + k) = nI (xD N k)) {j : Nat} (hj : j ≤ xM N) : Mo_holeBehind (nI j) P = some (nI (xH N j)) := by
  have hM := (hN ht).2.2.1
  have lp : ∀ (m k n : Nat), k + m = j → m < n → Mo_holeBehind_9 (nI j) P n (nI (xH N k)) (nI k) = some (nI (xH N j)) := by
    intro m
    induction m with
    | zero =>
      intro k n hk hn
      obtain ⟨n, rfl⟩ : ∃ q, n = q + 1 := ⟨n - 1, by omega⟩
      obtain rfl : k = j := by omega
      unfold Mo_holeBehind_9
      rw [if_pos (by rw [z_le (by omega) (by omega)]; exact Nat.le_refl _)]
    | succ m ih =>
      intro k n hk hn
      obtain ⟨n, rfl⟩ : ∃ q, n = q + 1 := ⟨n - 1, by omega⟩
      obtain ⟨a, l, b, -⟩ := (hN ht).2.2.2.1 k (by omega)
      have e := (lnA_stp b hD).1
      have r := h9 k (by omega)
      have e3 := xH_succ hD b
      have ih2 := ih (k + 1) n (by omega) (by omega)
      rw [e3] at ih2
      unfold Mo_holeBehind_9
      simp (disch := omega) only [z_lit, nI_add, z_gd, z_cl, r]
      rw [if_neg (by rw [z_le (by omega) (by omega)]; omega), mo_step (WN.hole hD hN ht k (by omega)) a, e]
      exact ih2
  unfold Mo_holeBehind
  rw [show P.1 88 (4 : Int32).toNatClampNeg = nI (xB N) from h4, Option.bind_some, gd4]
  exact lp j 0 bigN (by omega) (big_gt (by omega))
theorem ov_rest {N N' : NT} (e : N'.2.2 = N.2.2) (k : Nat) : ovN N' k = ovN N k := by
  unfold ovN
  show (N'.2.2.2.2.2.2.1 == decide (k % 2 = 0)) = (N.2.2.2.2.2.2.1 == decide (k % 2 = 0))
  rw [e]
theorem RN.thr {N1 : NT} {T : Nat → Int32} (hR : RN D N1 T) (e : N1.2.2 = N.2.2) (ht : xT N = true) : T 3 = nI (xIk N) ∧ T 4 = nI (xB N) ∧ T 5 = nI (if xVf N then 1 else 0) ∧ T 6 = nI (xM N) ∧ ∀ k, k < xM N → T (392 + k) = nI (xD N k) := by
  obtain ⟨o, u, r⟩ := N
  obtain ⟨o1, u1, r1⟩ := N1
  have e : r1 = r := e
  subst e
  exact hR.2.2.2 ht
theorem iw_flip (hD : WD D) (hN : WN D N) (ht : xT N = true) {N1 : NT} (e : N1.2.2 = N.2.2) {k : Nat} (hk : k < xM N) (hR : RD D (P.1 88)) (hRN : RN D N1 (P.1 88)) : ∃ Q, (∀ (r : Int32 → PH → Option (Int32 × PH)) (a b c : Int32), Mo_isWell_31 r a b c (nI k) P = r (nI (k + 1)) Q) ∧ (∀ (r : Int32 → PH → Option (Int32 × PH)) (a b c d : Int32), Mo_isWell_142 r a b c d (nI k) P = r (nI (k + 1)) Q) ∧ RD D (Q.1 88) ∧ RN D (flN (ovN N k) (lnK D N k) N1) (Q.1 88) ∧ only88 P Q := by
  have h60 := hD.1
  have hM := (hN ht).2.2.1
  have s := st_k hD hN ht hk
  obtain ⟨t3, t4, t5, t6, t9⟩ := hRN.thr e ht
  have e1 := mo_hbT hD hN ht t4 t9 (show k ≤ xM N by omega)
  have e2 := mo_find hD hR (WN.hole hD hN ht k (by omega)) s.2.1
  rw [s.1] at e2
  have ht1 : xT N1 = true := by
    show N1.2.2.2.1 = true
    rw [e]; exact ht
  have e3 := mo_isOver hRN ht1 (show k < 1000 by omega)
  rw [ov_rest e] at e3
  have e4 := mo_turns hD hRN s.2.2.1 (ovN N k)
  have e92 : (392 : Int32) + nI k = nI (392 + k) := by rw [show (392 : Int32) = nI 392 from rfl, nI_add]
  refine ⟨sI P 88 (8 + 4 * lnK D N k + 3) (nI (wkN (flN (ovN N k) (lnK D N k) N1) (lnK D N k))), fun r a b c => ?_, fun r a b c d => ?_, ?_, ?_, (only88.rf P).s _ _⟩
  · unfold Mo_isWell_31
    rw [e1, Option.bind_some, e92, z_gd (by omega) (by decide), z_cl (by omega), t9 k hk, e2, Option.bind_some, e3, Option.bind_some]
    show (Mo_turns (nI (lnK D N k)) (if ovN N k then 1 else 0) P).bind _ = _
    rw [e4, Option.bind_some, show nI k + 1 = nI (k + 1) from nI_1 _]
  · unfold Mo_isWell_142
    rw [e1, Option.bind_some, e92, z_gd (by omega) (by decide), z_cl (by omega), t9 k hk, e2, Option.bind_some, e3, Option.bind_some]
    show (Mo_turns (nI (lnK D N k)) (if ovN N k then 1 else 0) P).bind _ = _
    rw [e4, Option.bind_some, show nI k + 1 = nI (k + 1) from nI_1 _]
  · rw [s88]
    exact hR.upd h60 (Or.inr (Or.inr ⟨lnK D N k, by omega, rfl⟩))
  · rw [s88]
    exact hRN.fl h60 s.2.2.1 _
theorem pij_iff (N : NT) (i j k : Nat) : pij N i j k = true ↔ k < i ∨ xM N - j ≤ k := by unfold pij; simp
theorem iw_11 (hD : WD D) (hN : WN D N) (ht : xT N = true) {i j : Nat} (hij : i + j ≤ xM N) {N1 : NT} (e : N1.2.2 = N.2.2) : ∀ (m k n : Nat) (P : PH), k + m = xM N → m < n → RD D (P.1 88) → RN D (tnG D N (pij N i j) k N1) (P.1 88) → ∃ Q, Mo_isWell_11 (nI i) (nI j) (nI (xM N)) n (nI k) P = Mo_isWell_71 (nI i) (nI j) (nI (xM N)) Q ∧ RD D (Q.1 88) ∧ RN D (tnG D N (pij N i j) (xM N) N1) (Q.1 88) ∧ only88 P Q := by
  have hM := (hN ht).2.2.1
  intro m
  induction m with
  | zero =>
    intro k n P hk hn hR hRN
    obtain ⟨n, rfl⟩ : ∃ q, n = q + 1 := ⟨n - 1, by omega⟩
    have hk : k = xM N := by omega
    rw [hk] at hRN ⊢
    refine ⟨P, ?_, hR, hRN, only88.rf P⟩
    unfold Mo_isWell_11
    rw [if_pos (by rw [z_le (by omega) (by omega)]; exact Nat.le_refl _)]
  | succ m ih =>
    intro k n P hk hn hR hRN
    obtain ⟨n, rfl⟩ : ∃ q, n = q + 1 := ⟨n - 1, by omega⟩
    have k1 : nI k + 1 = nI (k + 1) := nI_1 _
    have hs : nI (xM N) - nI j = nI (xM N - j) := z_sub (by omega)
    cases c : pij N i j k
    · have c' : ¬ (k < i ∨ xM N - j ≤ k) := fun q => by rw [(pij_iff N i j k).mpr q] at c; cases c
      obtain ⟨Q, f1, f2, f3, f4⟩ := ih (k + 1) n P (by omega) (by omega) hR (by unfold tnG; rw [c]; exact hRN)
      refine ⟨Q, ?_, f2, f3, f4⟩
      rw [← f1]
      conv => lhs; unfold Mo_isWell_11
      rw [if_neg (nI_ge (by omega) (by omega)), if_neg (by rw [z_lt (by omega) (by omega)]; omega), hs, if_pos (nI_lt (by omega) (by omega)), k1]
    · have c' := (pij_iff N i j k).mp c
      obtain ⟨Q1, a1, -, a3, a4, a5⟩ := iw_flip hD hN ht (by rw [tn_rest]; exact e) (show k < xM N by omega) hR hRN
      obtain ⟨Q, f1, f2, f3, f4⟩ := ih (k + 1) n Q1 (by omega) (by omega) a3 (by unfold tnG; rw [c, if_pos rfl]; exact a4)
      refine ⟨Q, ?_, f2, f3, a5.tr f4⟩
      rw [← f1]
      conv => lhs; unfold Mo_isWell_11
      rw [if_neg (nI_ge (by omega) (by omega)), a1, hs]
      by_cases q : k < i
      · rw [if_pos (nI_lt q (by omega))]
      · rw [if_neg (by rw [z_lt (by omega) (by omega)]; exact q), if_neg (by rw [z_lt (by omega) (by omega)]; omega)]
theorem iw_122 (hD : WD D) (hN : WN D N) (ht : xT N = true) {i j : Nat} (hij : i + j ≤ xM N) {N1 : NT} (e : N1.2.2 = N.2.2) (v : Bool) : ∀ (m k n : Nat) (P : PH), k + m = xM N → m < n → RD D (P.1 88) → RN D (tnG D N (pij N i j) k N1) (P.1 88) → ∃ Q, Mo_isWell_122 (nI i) (nI j) (nI (xM N)) (if v then 1 else 0) n (nI k) P = some ((if v then (1 : Int32) else 0), Q) ∧ RD D (Q.1 88) ∧ RN D (tnG D N (pij N i j) (xM N) N1) (Q.1 88) ∧ only88 P Q := by
  have hM := (hN ht).2.2.1
  intro m
  induction m with
  | zero =>
    intro k n P hk hn hR hRN
    obtain ⟨n, rfl⟩ : ∃ q, n = q + 1 := ⟨n - 1, by omega⟩
    have hk : k = xM N := by omega
    rw [hk] at hRN ⊢
    refine ⟨P, ?_, hR, hRN, only88.rf P⟩
    unfold Mo_isWell_122
    rw [if_pos (by rw [z_le (by omega) (by omega)]; exact Nat.le_refl _), gdb]
  | succ m ih =>
    intro k n P hk hn hR hRN
    obtain ⟨n, rfl⟩ : ∃ q, n = q + 1 := ⟨n - 1, by omega⟩
    have k1 : nI k + 1 = nI (k + 1) := nI_1 _
    have hs : nI (xM N) - nI j = nI (xM N - j) := z_sub (by omega)
    cases c : pij N i j k
    · have c' : ¬ (k < i ∨ xM N - j ≤ k) := fun q => by rw [(pij_iff N i j k).mpr q] at c; cases c
      obtain ⟨Q, f1, f2, f3, f4⟩ := ih (k + 1) n P (by omega) (by omega) hR (by unfold tnG; rw [c]; exact hRN)
      refine ⟨Q, ?_, f2, f3, f4⟩
      rw [← f1]
      conv => lhs; unfold Mo_isWell_122
      rw [if_neg (nI_ge (by omega) (by omega)), if_neg (by rw [z_lt (by omega) (by omega)]; omega), hs, if_pos (nI_lt (by omega) (by omega)), k1]
    · have c' := (pij_iff N i j k).mp c
      obtain ⟨Q1, -, a1, a3, a4, a5⟩ := iw_flip hD hN ht (by rw [tn_rest]; exact e) (show k < xM N by omega) hR hRN
      obtain ⟨Q, f1, f2, f3, f4⟩ := ih (k + 1) n Q1 (by omega) (by omega) a3 (by unfold tnG; rw [c, if_pos rfl]; exact a4)
      refine ⟨Q, ?_, f2, f3, a5.tr f4⟩
      rw [← f1]
      conv => lhs; unfold Mo_isWell_122
      rw [if_neg (nI_ge (by omega) (by omega)), a1, hs]
      by_cases q : k < i
      · rw [if_pos (nI_lt q (by omega))]
      · rw [if_neg (by rw [z_lt (by omega) (by omega)]; exact q), if_neg (by rw [z_lt (by omega) (by omega)]; omega)]
theorem mo_isWell (hD : WD D) (hN : WN D N) (ht : xT N = true) {i j : Nat} (hij : i + j ≤ xM N) (h0 : i + j = xM N → i = 0) (hR : RD D (P.1 88)) (hRN : RN D N (P.1 88)) : ∃ Q, Mo_isWell (nI i) (nI j) P = some ((if cP (wlU D N i j) then (1 : Int32) else 0), Q) ∧ RD D (Q.1 88) ∧ RN D N (Q.1 88) ∧ onlyW P Q := by
  have hM := (hN ht).2.2.1
  obtain ⟨Q1, a1, a2, a3, a4⟩ := iw_11 hD hN ht hij (N1 := N) rfl (xM N) 0 bigN P (by omega) (big_gt (by omega)) hR hRN
  have er : (tnG D N (pij N i j) (xM N) N).2.2 = N.2.2 := tn_rest _
  obtain ⟨t3, t4, t5, t6, t9⟩ := a3.thr er ht
  have ht1 : xT (tnG D N (pij N i j) (xM N) N) = true := by
    show (tnG D N (pij N i j) (xM N) N).2.2.2.1 = true
    rw [er]; exact ht
  obtain ⟨Q2, b1, b2, -⟩ := mo_bars (N := tnG D N (pij N i j) (xM N) N) hD a2 a3 (WN.hole hD hN ht (xM N - j) (by omega)) (hN ht).1 (ovN N (xM N - j))
  rw [lO_tn hD hN ht, lU_tn hD hN ht] at b1
  have e88 : Q2.1 88 = Q1.1 88 := b2.1 88 (by decide) (by decide) (by decide) (by decide)
  have bl := bars_le D (oS D N i j) (uS D N i j) (xH N (xM N - j)) (ovN N (xM N - j))
  have wi := wlU_iff hD hN ht hij
  have key : ∃ Q, Mo_isWell_85 (nI i) (nI j) (nI (xM N)) (nI (xM N - j)) Q1 = some ((if cP (wlU D N i j) then (1 : Int32) else 0), Q) ∧ RD D (Q.1 88) ∧ RN D N (Q.1 88) ∧ onlyW Q1 Q := by
    obtain ⟨Q3, c1, c2, c3, c4⟩ := iw_122 hD hN ht hij (N1 := tnG D N (pij N i j) (xM N) N) er (cP (wlU D N i j)) (xM N) 0 bigN Q2 (by omega) (big_gt (by omega)) (by rw [e88]; exact a2) (by rw [e88]; exact a3)
    rw [tn_tn] at c3
    refine ⟨Q3, ?_, c2, c3, b2.w.tr c4.w⟩
    have e3 := mo_isOver a3 ht1 (show xM N - j < 1000 by omega)
    rw [ov_rest er] at e3
    unfold Mo_isWell_85
    rw [gd3, mo_hbT hD hN ht t4 t9 (by omega), Option.bind_some, e3, Option.bind_some, show Q1.1 88 (3 : Int32).toNatClampNeg = nI (xIk N) from t3]
    show (Mo_bars (nI (xIk N)) (nI (xH N (xM N - j))) (if ovN N (xM N - j) then 1 else 0) Q1).bind _ = _
    rw [b1, Option.bind_some]
    cases q : cP (wlU D N i j)
    · rw [q] at c1
      have nz : ¬ (barsS D (oS D N i j) (uS D N i j) (xH N (xM N - j)) (ovN N (xM N - j))).1 = 0 := fun z => by
        rw [cP_iff.mpr (wi.mp z)] at q
        cases q
      rw [if_neg (nI_ne0 (by omega) (by omega))]
      exact c1
    · rw [q] at c1
      rw [if_pos (by rw [wi.mpr (cP_iff.mp q)]; rfl)]
      exact c1
  obtain ⟨Q, f1, f2, f3, f4⟩ := key
  refine ⟨Q, ?_, f2, f3, a4.w.tr f4⟩
  unfold Mo_isWell
  rw [gd6, Option.bind_some, mo_6 hRN ht, show (0 : Int32) = nI 0 from rfl, a1]
  unfold Mo_isWell_71
  rw [nI_add, show nI (xM N) - nI j = nI (xM N - j) from z_sub (by omega)]
  by_cases c : i + j = xM N
  · rw [if_pos (by rw [c])]
    have := h0 c
    rw [show xM N - j = 0 by omega] at f1
    exact f1
  · rw [if_neg (by rw [z_eq (by omega) (by omega)]; exact c)]
    exact f1
end UNP
