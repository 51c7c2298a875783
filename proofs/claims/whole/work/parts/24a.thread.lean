/-! THE THREAD: where it is, what can't be, a stitch, a stitch back -/
theorem hbN_cong {b : Nat} {f g : Nat → Nat} : ∀ {k : Nat}, (∀ j, j < k → f j = g j) → hbN b f k = hbN b g k
  | 0, _ => rfl
  | k + 1, h => by
    unfold hbN
    rw [hbN_cong (fun j hj => h j (by omega)), h k (by omega)]
theorem lnA_stp {D : DT} {h w l : Nat} (e : lnA D h w = some l) (hD : WD D) : stp h w = some (oth D l h) ∧ l < dN D ∧ dat D h l = true := by
  obtain ⟨t, h1, h2, h3⟩ := lnA_some e
  refine ⟨?_, h2, ?_⟩
  · rw [h1]
    unfold oth
    have := (hD.to h2).2
    rcases jn_iff.mp h3 with ⟨a, b⟩ | ⟨a, b⟩
    · rw [if_pos a, b]
    · rw [if_neg (by omega), a]
  · rw [dat_iff]
    rcases jn_iff.mp h3 with ⟨a, b⟩ | ⟨a, b⟩
    · exact Or.inl a
    · exact Or.inr b
theorem lnA_back {D : DT} (hD : WD D) {h w l : Nat} (hh : h < 144) (hw : w < 8) (e : lnA D h w = some l) : lnA D (oth D l h) ((w + 4) % 8) = some l := by
  obtain ⟨e1, e2, e3⟩ := lnA_stp e hD
  obtain ⟨t, h1, h2, h3⟩ := lnA_some e
  have h4 := stp_some hh hw e1
  refine lnA_is hD h4.2.2 h2 ?_
  rw [h1] at e1
  cases e1
  rw [jn_iff] at h3 ⊢
  omega
theorem oth_oth {D : DT} (hD : WD D) {h l : Nat} (hl : l < dN D) (ha : dat D h l = true) : oth D l (oth D l h) = h ∧ dat D (oth D l h) l = true ∧ oth D l h < 144 ∧ oth D l h ≠ h := by
  have h1 := (hD.2.1 l hl).1
  have h2 := hD.to hl
  rw [dat_iff] at ha
  unfold oth
  by_cases c : dF D l = h
  · rw [if_pos c, if_neg (by omega)]
    exact ⟨c, dat_iff.mpr (Or.inr rfl), h2.1, by omega⟩
  · rw [if_neg c, if_pos rfl]
    exact ⟨by omega, dat_iff.mpr (Or.inl rfl), h1, c⟩
section WNL
variable {D : DT} {N : NT}
theorem WN.hole (hD : WD D) (hN : WN D N) (ht : xT N = true) : ∀ k, k ≤ xM N → xH N k < 144
  | 0, _ => (hN ht).2.1
  | k + 1, hk => by
    obtain ⟨a, l, b, -⟩ := (hN ht).2.2.2.1 k (by omega)
    have e := (lnA_stp b hD).1
    have e2 := stp_some (WN.hole hD hN ht k (by omega)) a e
    show (stp (xH N k) (xD N k)).getD 0 < 144
    rw [e]
    exact e2.1
theorem xH_succ {k l : Nat} (hD : WD D) (e : lnA D (xH N k) (xD N k) = some l) : xH N (k + 1) = oth D l (xH N k) := by
  show (stp (xH N k) (xD N k)).getD 0 = _
  rw [(lnA_stp e hD).1]
  rfl
end WNL
/-- by what a stitch by a way (none: no way) can't be; from a hole, with a parity -/
def rsAt (D : DT) (N : NT) (h : Nat) (v : Bool) (o : Option Nat) : Nat := match o.bind (lnA D h) with
  | none => 2
  | some l => if dI D l = xIk N then (if xWk N v l then 3 else 0) else 2
def rsn (D : DT) (N : NT) (o : Option Nat) : Nat := if xT N then rsAt D N (xH N (xM N)) (ovN N (xM N)) o else 1
theorem rsn_le (D : DT) (N : NT) (o : Option Nat) : rsn D N o ≤ 3 := by
  unfold rsn rsAt
  split
  · split
    · omega
    · split
      · split <;> omega
      · omega
  · omega
theorem rsn_0 {D : DT} {N : NT} {o : Option Nat} (h : rsn D N o = 0) : xT N = true ∧ ∃ w l, o = some w ∧ lnA D (xH N (xM N)) w = some l ∧ dI D l = xIk N ∧ xWk N (ovN N (xM N)) l = false := by
  unfold rsn at h
  by_cases c : xT N = true
  · rw [if_pos c] at h
    refine ⟨c, ?_⟩
    unfold rsAt at h
    cases o with
    | none => cases h
    | some w =>
      have e : (some w).bind (lnA D (xH N (xM N))) = lnA D (xH N (xM N)) w := rfl
      rw [e] at h
      cases e2 : lnA D (xH N (xM N)) w with
      | none => rw [e2] at h; cases h
      | some l =>
        rw [e2] at h
        by_cases c2 : dI D l = xIk N
        · refine ⟨w, l, rfl, e2, c2, ?_⟩
          replace h : (if dI D l = xIk N then (if xWk N (ovN N (xM N)) l then 3 else 0) else 2) = 0 := h
          rw [if_pos c2] at h
          cases c3 : xWk N (ovN N (xM N)) l
          · rfl
          · rw [c3] at h; cases h
        · replace h : (if dI D l = xIk N then (if xWk N (ovN N (xM N)) l then 3 else 0) else 2) = 0 := h
          rw [if_neg c2] at h
          cases h
  · rw [if_neg c] at h
    cases h
/-- a face of a line turned -/
def flN (v : Bool) (l : Nat) (N : NT) : NT := (if v then (fun i => xO N i ^^ decide (i = l)) else xO N, if v then xU N else (fun i => xU N i ^^ decide (i = l)), N.2.2)
def setM (N : NT) (m : Nat) (f : Nat → Nat) : NT := (xO N, xU N, xC N, xT N, xIk N, xB N, xVf N, m, f)
def goN (N : NT) (w l : Nat) : NT := setM (flN (ovN N (xM N)) l N) (xM N + 1) (fun k => if k = xM N then w else xD N k)
def bkN (N : NT) (l : Nat) : NT := setM (flN (ovN N (xM N - 1)) l N) (xM N - 1) (xD N)
/-! the reference's -/
section RTH
variable {D : DT} {N : NT} {P : PH}
theorem mo_isThere (hR : RN D N (P.1 88)) : Mo_isThere P = some (if xT N then 1 else 0) := by
  unfold Mo_isThere
  rw [show P.1 88 (2 : Int32).toNatClampNeg = nI (if xT N then 1 else 0) from hR.2.2.1, gd1, gd0, show gdI (2 : Int32) 512 = fun (o : Option Int32) => o from funext (fun o => z_gd (k := 2) (by decide) (by decide))]
  cases xT N <;> rfl
theorem mo_isOver (hR : RN D N (P.1 88)) (ht : xT N = true) {k : Nat} (hk : k < 1000) : Mo_isOver (nI k) P = some (if ovN N k then 1 else 0) := by
  unfold Mo_isOver Mo_isOver_15
  rw [show P.1 88 (5 : Int32).toNatClampNeg = nI (if xVf N then 1 else 0) from (hR.2.2.2 ht).2.2.1, show nI k - nI k / (2 : Int32) * (2 : Int32) = nI (k % 2) from pk_rem (d := 2) (by omega) (by decide) (by decide), gd1, gd0, show gdI (5 : Int32) 512 = fun (o : Option Int32) => o from funext (fun o => z_gd (k := 5) (by decide) (by decide))]
  unfold ovN
  rcases Nat.mod_two_eq_zero_or_one k with e | e
  · rw [e]
    cases xVf N <;> rfl
  · rw [e]
    cases xVf N <;> rfl
theorem mo_hb (hD : WD D) (hN : WN D N) (hR : RN D N (P.1 88)) (ht : xT N = true) {j : Nat} (hj : j ≤ xM N) : ∀ (m k n : Nat), k + m = j → m < n → Mo_holeBehind_9 (nI j) P n (nI (xH N k)) (nI k) = some (nI (xH N j)) := by
  have hM := (hN ht).2.2.1
  intro m
  induction m with
  | zero =>
    intro k n hk hn
    obtain ⟨n, rfl⟩ : ∃ q, n = q + 1 := ⟨n - 1, by omega⟩
    obtain rfl : k = j := by omega
    unfold Mo_holeBehind_9
    rw [if_pos (by rw [z_le (by omega) (by omega)]; exact Nat.le_refl _)]
  | succ m ih =>
    intro k n hk hn
    obtain ⟨n, rfl⟩ : ∃ q, n = q + 1 := ⟨n - 1, by omega⟩
    obtain ⟨a, l, b, -⟩ := (hN ht).2.2.2.1 k (by omega)
    have e := (lnA_stp b hD).1
    have r := (hR.2.2.2 ht).2.2.2.2 k (by omega)
    have e3 := xH_succ hD b
    have ih2 := ih (k + 1) n (by omega) (by omega)
    rw [e3] at ih2
    unfold Mo_holeBehind_9
    simp (disch := omega) only [z_lit, nI_add, z_gd, z_cl, r]
    rw [if_neg (by rw [z_le (by omega) (by omega)]; omega), mo_step (WN.hole hD hN ht k (by omega)) a, e]
    exact ih2
theorem mo_holeB (hD : WD D) (hN : WN D N) (hR : RN D N (P.1 88)) (ht : xT N = true) {j : Nat} (hj : j ≤ xM N) : Mo_holeBehind (nI j) P = some (nI (xH N j)) := by
  have hM := (hN ht).2.2.1
  unfold Mo_holeBehind
  rw [show P.1 88 (4 : Int32).toNatClampNeg = nI (xB N) from (hR.2.2.2 ht).2.1]
  simp only [Option.bind_some]
  rw [show gdI (4 : Int32) 512 = fun (o : Option Int32) => o from funext (fun o => z_gd (k := 4) (by decide) (by decide))]
  exact mo_hb hD hN hR ht hj j 0 bigN (by omega) (big_gt (by omega))
theorem mo_6 (hR : RN D N (P.1 88)) (ht : xT N = true) : P.1 88 (6 : Int32).toNatClampNeg = nI (xM N) := (hR.2.2.2 ht).2.2.2.1
theorem mo_hole (hD : WD D) (hN : WN D N) (hR : RN D N (P.1 88)) (ht : xT N = true) : Mo_hole P = some (nI (xH N (xM N))) := by
  unfold Mo_hole
  rw [mo_6 hR ht, mo_holeB hD hN hR ht (Nat.le_refl _), show gdI (6 : Int32) 512 = fun (o : Option Int32) => o from funext (fun o => z_gd (k := 6) (by decide) (by decide))]
  rfl
/-- a face's bit of what is worked -/
theorem wk_face (N : NT) (l : Nat) (v : Bool) : (nI (wkN N l) &&& (if v then (1 : Int32) else 2)) = 0 ↔ xWk N v l = false := by
  unfold wkN xWk
  cases v <;> cases xO N l <;> cases xU N l <;> decide
theorem mo_face (v : Bool) : Mo_face (if v then 1 else 0) P = some (if v then 1 else 2) := by cases v <;> rfl
theorem mo_whyNot_33 (hD : WD D) (hN : WN D N) (hRD : RD D (P.1 88)) (hR : RN D N (P.1 88)) (ht : xT N = true) (o : Option Nat) : Mo_whyNot_33 (enc (o.bind (lnA D (xH N (xM N))))) P = some (nI (rsn D N o)) := by
  have hM := (hN ht).2.2.1
  unfold rsn
  rw [if_pos ht]
  unfold rsAt
  cases e : o.bind (lnA D (xH N (xM N))) with
  | none => rfl
  | some l =>
    have hl : l < dN D := by
      cases o with
      | none => cases e
      | some w => exact (lnA_stp (show lnA D (xH N (xM N)) w = some l from e) hD).2.1
    have h60 := hD.1
    have hi := (hD.2.1 l hl).2.2.1
    unfold Mo_whyNot_33
    rw [show enc (some l) = nI l from rfl, if_neg (show ¬ nI l = (-1 : Int32) from nI_nm (by omega)), mo_ink hD hRD hl, mo_worked hD hR hl, mo_6 hR ht, mo_isOver hR ht (by omega), show P.1 88 (3 : Int32).toNatClampNeg = nI (xIk N) from (hR.2.2.2 ht).1, show gdI (6 : Int32) 512 = fun (o : Option Int32) => o from funext (fun o => z_gd (k := 6) (by decide) (by decide)), show gdI (3 : Int32) 512 = fun (o : Option Int32) => o from funext (fun o => z_gd (k := 3) (by decide) (by decide))]
    simp only [Option.bind_some, mo_face]
    have hxi := (hN ht).1
    by_cases c : dI D l = xIk N
    · rw [if_pos (by rw [c]), if_pos c]
      cases c2 : xWk N (ovN N (xM N)) l
      · rw [if_pos ((wk_face N l _).mpr c2)]
        rfl
      · rw [if_neg (fun q => by rw [(wk_face N l _).mp q] at c2; cases c2)]
        rfl
    · rw [if_neg (by rw [z_eq (by omega) (by omega)]; exact c), if_neg c]
      rfl
theorem mo_whyNot_way (hD : WD D) (hN : WN D N) (hRD : RD D (P.1 88)) (hR : RN D N (P.1 88)) {w : Nat} (hw : w < 8) : Mo_whyNot (nI w).toInt64 P = some (nI (rsn D N (some w))) := by
  unfold Mo_whyNot
  rw [mo_isThere hR]
  simp only [Option.bind_some]
  cases ht : xT N with
  | false => unfold rsn; rw [ht]; rfl
  | true =>
    rw [isWay_in hw, mo_hole hD hN hR ht, Int32.toInt32_toInt64, ]
    simp only [Option.bind_some, if_true, nz1, if_false]
    rw [mo_find hD hRD (WN.hole hD hN ht _ (Nat.le_refl _)) hw]
    exact mo_whyNot_33 hD hN hRD hR ht (some w)
theorem mo_whyNot_no (hD : WD D) (hN : WN D N) (hRD : RD D (P.1 88)) (hR : RN D N (P.1 88)) {x : Int64} (hx : Mo_isWay x P = some 0) : Mo_whyNot x P = some (nI (rsn D N none)) := by
  unfold Mo_whyNot
  rw [mo_isThere hR, hx]
  simp only [Option.bind_some]
  cases ht : xT N with
  | false => unfold rsn; rw [ht]; rfl
  | true =>
    simp only [if_true, nz1, if_false]
    exact mo_whyNot_33 hD hN hRD hR ht none
end RTH
/-! the class's -/
section CTH
variable {nd : Nat} {D : DT} {N : NT} {P : PH}
theorem ne_next (hC : CN nd D N P) (ht : xT N = true) (hM : xM N < 1000) : Ne_nextOver nd P = some (if ovN N (xM N) then 1 else 0) := by
  obtain ⟨-, -, -, e6, e8, -⟩ := hC.2.2.2.2.2 ht
  unfold Ne_nextOver
  rw [e6, e8, show nI (xM N) &&& (1 : Int32) = nI (xM N % 2 ^ 1) from fa_mask (xM N) 1, gd1, gd0]
  unfold ovN
  rcases Nat.mod_two_eq_zero_or_one (xM N) with e | e
  · rw [Nat.pow_one, e]
    cases xVf N <;> rfl
  · rw [Nat.pow_one, e]
    cases xVf N <;> rfl
theorem ne_hind (hD : WD D) (hCD : CD (ndD nd) D P) (hN : WN D N) (hC : CN nd D N P) (o : Option Nat) (v : Int32) (hv : ∀ h, h < 144 → Dr_lineBy (ndD nd) (nI h) v P = some (enc (o.bind (lnA D h)))) : Ne_hindrance nd v P = some (nI (rsn D N o)) := by
  unfold Ne_hindrance
  rw [hC.2.2.1]
  unfold rsn
  cases ht : xT N with
  | false => rfl
  | true =>
    have hM := (hN ht).2.2.1
    have hxi := (hN ht).1
    obtain ⟨e3, -, e5, e6, e8, -⟩ := hC.2.2.2.2.2 ht
    rw [e5, hv _ (WN.hole hD hN ht _ (Nat.le_refl _)), ne_next hC ht (by omega), e3]
    unfold rsAt
    simp only [if_true, Option.bind_some]
    rw [if_neg (show ¬ nI 1 = 0 by decide)]
    cases e : o.bind (lnA D (xH N (xM N))) with
    | none => rfl
    | some l =>
      have hl : l < dN D := by
        cases o with
        | none => cases e
        | some w => exact (lnA_stp (show lnA D (xH N (xM N)) w = some l from e) hD).2.1
      have h60 := hD.1
      have hi := (hD.2.1 l hl).2.2.1
      rw [show enc (some l) = nI l from rfl, if_neg (show ¬ nI l = (-1 : Int32) from nI_nm (by omega)), dr_ink hD hCD hl]
      simp only [Option.bind_some]
      by_cases c : dI D l = xIk N
      · rw [if_pos (by rw [c]), if_pos c]
        unfold Ne_hindrance_62 xWk
        have o1 := hC.1 l (by omega)
        have u1 := hC.2.1 l (by omega)
        simp only [hl, decide_true, Bool.true_and] at o1 u1
        simp only [lg_bit (P.2 nd 0) (show l < 64 by omega), lg_bit (P.2 nd 1) (show l < 64 by omega), o1, u1]
        cases ovN N (xM N) <;> cases xO N l <;> cases xU N l <;> rfl
      · rw [if_neg (by rw [z_eq (by omega) (by omega)]; exact c), if_neg c]
        rfl
theorem ne_hind_way (hD : WD D) (hCD : CD (ndD nd) D P) (hN : WN D N) (hC : CN nd D N P) {w : Nat} (hw : w < 8) : Ne_hindrance nd (nI w) P = some (nI (rsn D N (some w))) :=
  ne_hind hD hCD hN hC (some w) (nI w) (fun h hh => dr_lineBy hD hCD hh hw)
theorem ne_hind_no (hD : WD D) (hCD : CD (ndD nd) D P) (hN : WN D N) (hC : CN nd D N P) {v : Int32} (hv : v < 0 ∨ nI 8 ≤ v) : Ne_hindrance nd v P = some (nI (rsn D N none)) :=
  ne_hind hD hCD hN hC none v (fun h hh => dr_lineBy_no hv)
end CTH
