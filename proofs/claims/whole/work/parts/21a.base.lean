/-! NUMBERS AS THE METHODS SEE THEM -/
def m1 : Int32 := -1
theorem z_lit (n : Nat) : (OfNat.ofNat n : Int32) = nI (OfNat.ofNat n) := rfl
theorem z_neg1 : (-(nI 1) : Int32) = m1 := rfl
theorem z_le {a b : Nat} (ha : a < 2147483648) (hb : b < 2147483648) : (nI a ≤ nI b) = (a ≤ b) := propext (nI_leI ha hb)
theorem z_lt {a b : Nat} (ha : a < 2147483648) (hb : b < 2147483648) : (nI a < nI b) = (a < b) := propext (nI_ltI ha hb)
theorem z_eq {a b : Nat} (ha : a < 2147483648) (hb : b < 2147483648) : (nI a = nI b) = (a = b) := propext (nI_eq ha hb)
theorem z_cl {a : Nat} (ha : a < 2147483648) : (nI a).toNatClampNeg = a := nI_clamp ha
theorem z_gd {T : Type} {k N : Nat} {o : Option T} (h : k < N) (hN : N < 2147483648) : gdI (nI k) N o = o := gdI_in (vp_in_nI h hN)
theorem z_sub {a b : Nat} (h : b ≤ a) : nI a - nI b = nI (a - b) := pk_sub h
theorem z_addm {a : Nat} (h : 1 ≤ a) : nI a + m1 = nI (a - 1) := by
  obtain ⟨b, rfl⟩ : ∃ b, a = b + 1 := ⟨a - 1, by omega⟩
  exact pk_m1 b
theorem z_em {a : Nat} (ha : a < 2147483648) : (nI a = m1) = False := by
  apply propext
  constructor
  · intro h
    have h2 : (nI a).toInt = m1.toInt := by rw [h]
    rw [nI_toInt ha] at h2
    have h3 : m1.toInt = -1 := by decide
    omega
  · exact fun h => h.elim
theorem z_me {a : Nat} (ha : a < 2147483648) : (m1 = nI a) = False := by
  rw [← z_em ha]
  exact propext ⟨fun h => h.symm, fun h => h.symm⟩
theorem z_ml0 : (m1 < nI 0) = True := by decide
theorem z_gdT {T : Type} {i : Decidable True} {o : Option T} : @gdP T True i o = o := by unfold gdP; rw [if_pos trivial]
theorem gd1 {T : Type} {o : Option T} : gdP ((1 : Int32) = 0 ∨ (1 : Int32) = 1) o = o := if_pos (Or.inr rfl)
theorem gd0 {T : Type} {o : Option T} : gdP ((0 : Int32) = 0 ∨ (0 : Int32) = 1) o = o := if_pos (Or.inl rfl)
theorem gq1 {T : Type} {i : Decidable ((1 : Int32) = 0 ∨ True)} {o : Option T} : @gdP T _ i o = o := if_pos (Or.inr trivial)
theorem gq0 {T : Type} {i : Decidable (True ∨ (0 : Int32) = 1)} {o : Option T} : @gdP T _ i o = o := if_pos (Or.inl trivial)
theorem gdb {T : Type} {o : Option T} (b : Bool) : gdP ((if b then (1 : Int32) else 0) = 0 ∨ (if b then (1 : Int32) else 0) = 1) o = o := by
  cases b
  · exact if_pos (Or.inl rfl)
  · exact if_pos (Or.inr rfl)
theorem big_gt {m : Nat} (h : m < 1000000000000) : m < bigN := by unfold bigN; omega
theorem nz1 : ((1 : Int32) = 0) = False := by decide
/-- an int and the bounds 0, N -/
theorem i_cases (x : Int32) (N : Nat) (hN : N < 2147483648) : x < 0 ∨ nI N ≤ x ∨ ∃ j : Nat, j < N ∧ x = nI j := pk_ix x hN
theorem neg_not {x : Int32} (h : x < 0) (k : Nat) (hk : k < 2147483648) : ¬ nI k ≤ x ∧ ¬ x = nI k ∧ x < nI k := by
  rw [fa_lt] at h
  have h0 : (0 : Int32).toInt = 0 := by decide
  rw [fa_le, fa_lt, fa_eq, nI_toInt hk]
  omega
theorem big_not {x : Int32} {N : Nat} (hN : N < 2147483648) (h : nI N ≤ x) : ¬ x < 0 ∧ ¬ x < nI N ∧ ∀ k, k < N → ¬ x = nI k := by
  rw [fa_le, nI_toInt hN] at h
  have h0 : (0 : Int32).toInt = 0 := by decide
  refine ⟨?_, ?_, fun k hk => ?_⟩
  · rw [fa_lt]; omega
  · rw [fa_lt, nI_toInt hN]; omega
  · rw [fa_eq, nI_toInt (by omega)]; omega
/-! the first place -/
def fsp (p : Nat → Bool) : Nat → Option Nat
  | 0 => none
  | n + 1 => match fsp p n with
    | some i => some i
    | none => if p n then some n else none
theorem fsp_no {p : Nat → Bool} : ∀ {n : Nat}, (∀ j, j < n → p j = false) → fsp p n = none
  | 0, _ => rfl
  | n + 1, h => by
    unfold fsp
    rw [fsp_no (fun j hj => h j (by omega)), h n (by omega)]
    rfl
theorem fsp_is {p : Nat → Bool} {k : Nat} : ∀ {n : Nat}, k < n → p k = true → (∀ j, j < k → p j = false) → fsp p n = some k
  | 0, h, _, _ => absurd h (by omega)
  | n + 1, h, h1, h2 => by
    unfold fsp
    by_cases hk : k < n
    · rw [fsp_is hk h1 h2]
    · have e : k = n := by omega
      subst e
      rw [fsp_no h2, h1]
      rfl
theorem fsp_some {p : Nat → Bool} {k : Nat} {n : Nat} (h : fsp p n = some k) : k < n ∧ p k = true ∧ ∀ j, j < k → p j = false := by
  by_cases c : ∃ j, j < n ∧ p j = true
  · obtain ⟨i, h1, h2, h3⟩ := fb_first (p := fun j => p j = true) c
    rw [fsp_is h1 h2 (fun j hj => ts_nt (h3 j hj))] at h
    cases h
    exact ⟨h1, h2, fun j hj => ts_nt (h3 j hj)⟩
  · rw [fsp_no (fun j hj => ts_nt (fun q => c ⟨j, hj, q⟩))] at h
    cases h
theorem fsp_none {p : Nat → Bool} {n : Nat} (h : fsp p n = none) : ∀ j, j < n → p j = false := by
  intro j hj
  by_cases c : p j = true
  · obtain ⟨i, h1, h2, h3⟩ := fb_first (p := fun j => p j = true) ⟨j, hj, c⟩
    rw [fsp_is h1 h2 (fun j hj => ts_nt (h3 j hj))] at h
    cases h
  · exact ts_nt c
theorem fsp_cong {p q : Nat → Bool} : ∀ {n : Nat}, (∀ j, j < n → p j = q j) → fsp p n = fsp q n
  | 0, _ => rfl
  | n + 1, h => by unfold fsp; rw [fsp_cong (fun j hj => h j (by omega)), h n (by omega)]
/-! steps on the cloth -/
def enc : Option Nat → Int32
  | none => m1
  | some k => nI k
def dxw (w : Nat) : Int := if w = 0 ∨ w = 1 ∨ w = 7 then 1 else if w = 2 ∨ w = 6 then 0 else -1
def dyw (w : Nat) : Int := if w = 0 ∨ w = 4 then 0 else if w < 4 then 1 else -1
def hlA (x y : Int) : Option Nat := if 0 ≤ x ∧ x < 12 ∧ 0 ≤ y ∧ y < 12 then some (12 * y + x).toNat else none
def stp (h w : Nat) : Option Nat := hlA ((h % 12 : Nat) + dxw w) ((h / 12 : Nat) + dyw w)
def P00 : PH := (fun _ _ => 0, fun _ _ => 0)
theorem bs_step_dec : ∀ h, h < 144 → ∀ w, w < 8 → Bs_step (nI h) (nI w) P00 = some (enc (stp h w)) := by decide +kernel
theorem mo_step_dec : ∀ h, h < 144 → ∀ w, w < 8 → Mo_step (nI h) (nI w) P00 = some (enc (stp h w)) := by decide +kernel
theorem bs_step {h w : Nat} (hh : h < 144) (hw : w < 8) (P : PH) : Bs_step (nI h) (nI w) P = some (enc (stp h w)) := by
  rw [← bs_step_dec h hh w hw]
  rfl
theorem mo_step {h w : Nat} (hh : h < 144) (hw : w < 8) (P : PH) : Mo_step (nI h) (nI w) P = some (enc (stp h w)) := by
  rw [← mo_step_dec h hh w hw]
  rfl
def stpOK (h w : Nat) : Bool := match stp h w with
  | none => true
  | some t => decide (t < 144) && (decide (t ≠ h) && decide (stp t ((w + 4) % 8) = some h))
theorem stp_ok : ∀ h, h < 144 → ∀ w, w < 8 → stpOK h w = true := by decide +kernel
theorem stp_inj0 : ∀ h, h < 144 → ∀ w, w < 8 → ∀ v, v < 8 → stp h w = stp h v → stp h w = none ∨ w = v := by decide +kernel
theorem stp_some {h w t : Nat} (hh : h < 144) (hw : w < 8) (e : stp h w = some t) : t < 144 ∧ t ≠ h ∧ stp t ((w + 4) % 8) = some h := by
  have := stp_ok h hh w hw
  unfold stpOK at this
  rw [e] at this
  simpa using this
theorem stp_inj {h w v t : Nat} (hh : h < 144) (hw : w < 8) (hv : v < 8) (e : stp h w = some t) (e2 : stp h v = some t) : w = v := by
  rcases stp_inj0 h hh w hw v hv (e.trans e2.symm) with h1 | h1
  · rw [h1] at e; cases e
  · exact h1
/-! a drawing: how many lines, from, way, ink, knots -/
abbrev DT : Type := Nat × (Nat → Nat) × (Nat → Nat) × (Nat → Nat) × (Nat → Bool)
abbrev dN (D : DT) : Nat := D.1
abbrev dF (D : DT) : Nat → Nat := D.2.1
abbrev dW (D : DT) : Nat → Nat := D.2.2.1
abbrev dI (D : DT) : Nat → Nat := D.2.2.2.1
abbrev dK (D : DT) : Nat → Bool := D.2.2.2.2
def dT (D : DT) (l : Nat) : Nat := (stp (dF D l) (dW D l)).getD 0
def dat (D : DT) (h l : Nat) : Bool := decide (dF D l = h) || decide (dT D l = h)
def jn (D : DT) (h t l : Nat) : Bool := (decide (dF D l = h) && decide (dT D l = t)) || (decide (dF D l = t) && decide (dT D l = h))
def lnA (D : DT) (h w : Nat) : Option Nat := match stp h w with
  | none => none
  | some t => fsp (jn D h t) (dN D)
/-- a drawing that can be -/
def WD (D : DT) : Prop := dN D ≤ 60 ∧ (∀ l, l < dN D → dF D l < 144 ∧ dW D l < 8 ∧ dI D l < 4 ∧ stp (dF D l) (dW D l) = some (dT D l)) ∧ ∀ l m, l < dN D → m < dN D → jn D (dF D l) (dT D l) m = true → l = m
/-- the reference's row tells the drawing -/
def RD (D : DT) (T : Nat → Int32) : Prop := T 0 = nI (dN D) ∧ (∀ l, l < dN D → T (8 + 4 * l) = nI (dF D l) ∧ T (8 + 4 * l + 1) = nI (dW D l) ∧ T (8 + 4 * l + 2) = nI (dI D l)) ∧ ∀ h, h < 144 → T (248 + h) = nI (if dK D h then 1 else 0)
theorem WD.to {D : DT} (h : WD D) {l : Nat} (hl : l < dN D) : dT D l < 144 ∧ dT D l ≠ dF D l := by
  obtain ⟨a, b, -, e⟩ := h.2.1 l hl
  exact ⟨(stp_some a b e).1, (stp_some a b e).2.1⟩
theorem jn_iff {D : DT} {h t l : Nat} : jn D h t l = true ↔ (dF D l = h ∧ dT D l = t) ∨ (dF D l = t ∧ dT D l = h) := by
  unfold jn; simp
theorem dat_iff {D : DT} {h l : Nat} : dat D h l = true ↔ dF D l = h ∨ dT D l = h := by
  unfold dat; simp
theorem lnA_some {D : DT} {h w l : Nat} (e : lnA D h w = some l) : ∃ t, stp h w = some t ∧ l < dN D ∧ jn D h t l = true := by
  unfold lnA at e
  cases c : stp h w with
  | none => rw [c] at e; cases e
  | some t =>
    rw [c] at e
    obtain ⟨h1, h2, -⟩ := fsp_some e
    exact ⟨t, rfl, h1, h2⟩
theorem lnA_is {D : DT} (hD : WD D) {h w t l : Nat} (e : stp h w = some t) (hl : l < dN D) (hj : jn D h t l = true) : lnA D h w = some l := by
  unfold lnA
  rw [e]
  refine fsp_is hl hj (fun j hj2 => ts_nt (fun q => ?_))
  have : l = j := by
    refine hD.2.2 l j hl (by omega) ?_
    rw [jn_iff] at hj q ⊢
    omega
  omega
/-- from a line's end, by some way, that line -/
theorem lnA_at {D : DT} (hD : WD D) {h l : Nat} (hl : l < dN D) (ha : dat D h l = true) : ∃ w, w < 8 ∧ lnA D h w = some l ∧ stp h w = some (if dF D l = h then dT D l else dF D l) := by
  obtain ⟨a, b, -, e⟩ := hD.2.1 l hl
  rw [dat_iff] at ha
  rcases ha with ha | ha
  · subst ha
    exact ⟨dW D l, b, lnA_is hD e hl (jn_iff.mpr (Or.inl ⟨rfl, rfl⟩)), by rw [if_pos rfl]; exact e⟩
  · subst ha
    have h1 := stp_some a b e
    refine ⟨(dW D l + 4) % 8, by omega, lnA_is hD h1.2.2 hl (jn_iff.mpr (Or.inr ⟨rfl, rfl⟩)), ?_⟩
    rw [if_neg (fun q => h1.2.1 q.symm)]
    exact h1.2.2
section REF
variable {D : DT} {P : PH} {v0 : Nat}
theorem mo_endOf (hD : WD D) (hR : RD D (P.1 v0)) {l : Nat} (hl : l < dN D) : Mo_endOf v0 (nI l) P = some (nI (dT D l)) := by
  obtain ⟨a, b, c, e⟩ := hD.2.1 l hl
  obtain ⟨r1, r2, r3⟩ := hR.2.1 l hl
  have h60 := hD.1
  unfold Mo_endOf
  simp (disch := omega) only [z_lit, nI_add, pk_mul, z_gd, z_cl, Nat.add_zero, r1, r2]
  rw [mo_step a b, e]
  rfl
theorem mo_find_9 (hD : WD D) (hR : RD D (P.1 v0)) {h t : Nat} (hh : h < 144) (ht : t < 144) : ∀ (m k n : Nat), k + m = dN D → m < n → (∀ j, j < k → jn D h t j = false) → Mo_find_9 v0 (nI h) (nI t) P n (nI k) = some (enc (fsp (jn D h t) (dN D))) := by
  have h60 := hD.1
  intro m
  induction m with
  | zero =>
    intro k n hk hn hj
    obtain ⟨n, rfl⟩ : ∃ q, n = q + 1 := ⟨n - 1, by omega⟩
    unfold Mo_find_9
    simp (disch := omega) only [z_lit, z_gd, z_cl, hR.1, z_le]
    rw [if_pos (by omega), fsp_no (fun j hj2 => hj j (by omega))]
    rfl
  | succ m ih =>
    intro k n hk hn hj
    obtain ⟨n, rfl⟩ : ∃ q, n = q + 1 := ⟨n - 1, by omega⟩
    have hkD : k < dN D := by omega
    obtain ⟨a, b, c, e⟩ := hD.2.1 k hkD
    obtain ⟨t1, t2⟩ := hD.to hkD
    obtain ⟨r1, r2, r3⟩ := hR.2.1 k hkD
    have ih' : jn D h t k = false → Mo_find_9 v0 (nI h) (nI t) P n (nI (k + 1)) = some (enc (fsp (jn D h t) (dN D))) := fun q => ih (k + 1) n (by omega) (by omega) (fun j hj2 => by
      by_cases c2 : j = k
      · rw [c2]; exact q
      · exact hj j (by omega))
    unfold Mo_find_9
    rw [mo_endOf hD hR hkD]
    simp (disch := omega) only [z_lit, z_gd, z_cl, hR.1, z_le, nI_add, pk_mul, Nat.add_zero, r1, Option.bind_some, z_neg1, z_em, z_eq, Mo_find_55, if_false]
    rw [if_neg (by omega)]
    by_cases c1 : jn D h t k = true
    · rw [fsp_is hkD c1 hj]
      rw [jn_iff] at c1
      rcases c1 with ⟨c1, c2⟩ | ⟨c1, c2⟩
      · rw [if_pos c1, if_pos c2]; rfl
      · by_cases c3 : dF D k = h
        · rw [if_pos c3, if_neg (by omega), if_pos c1, if_pos c2]; rfl
        · rw [if_neg c3, if_pos c1, if_pos c2]; rfl
    · have c4 := ih' (ts_nt c1)
      rw [jn_iff] at c1
      by_cases c3 : dF D k = h
      · rw [if_pos c3, if_neg (by omega)]
        by_cases c5 : dF D k = t
        · rw [if_pos c5, if_neg (by omega)]; exact c4
        · rw [if_neg c5]; exact c4
      · rw [if_neg c3]
        by_cases c5 : dF D k = t
        · rw [if_pos c5, if_neg (by omega)]; exact c4
        · rw [if_neg c5]; exact c4
theorem mo_find (hD : WD D) (hR : RD D (P.1 v0)) {h w : Nat} (hh : h < 144) (hw : w < 8) : Mo_find v0 (nI h) (nI w) P = some (enc (lnA D h w)) := by
  unfold Mo_find
  rw [mo_step hh hw]
  simp only [Option.bind_some]
  cases e : stp h w with
  | none =>
    have e2 : lnA D h w = none := by unfold lnA; rw [e]
    rw [e2]
    obtain ⟨n, hn⟩ : ∃ n, bigN = n + 1 := ⟨1099511627775, rfl⟩
    rw [hn]
    unfold Mo_find_9
    have h60 := hD.1
    show gdI (0 : Int32) 512 (if (P.1 v0 (0 : Int32).toNatClampNeg) ≤ (0 : Int32) then some (-1 : Int32) else if m1 = (-1 : Int32) then some (-1 : Int32) else _) = some m1
    have : gdI (0 : Int32) 512 (if (P.1 v0 (0 : Int32).toNatClampNeg) ≤ (0 : Int32) then some (-1 : Int32) else some (-1 : Int32)) = some m1 := by
      rw [ite_self]
      exact z_gd (k := 0) (by decide) (by decide)
    rw [if_pos (show m1 = (-1 : Int32) from rfl)]
    exact this
  | some t =>
    have e2 : lnA D h w = fsp (jn D h t) (dN D) := by unfold lnA; rw [e]
    rw [e2]
    exact mo_find_9 hD hR hh (stp_some hh hw e).1 (dN D) 0 bigN (by omega) (big_gt (by have := hD.1; omega)) (fun j hj => absurd hj (by omega))
end REF
