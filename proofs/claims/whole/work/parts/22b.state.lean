/-! WHAT IS WORKED, THE THREAD: over, under, cuts, there, ink, began, over first, how many, ways -/
abbrev NT : Type := (Nat → Bool) × (Nat → Bool) × Int32 × Bool × Nat × Nat × Bool × Nat × (Nat → Nat)
abbrev xO (N : NT) : Nat → Bool := N.1
abbrev xU (N : NT) : Nat → Bool := N.2.1
abbrev xC (N : NT) : Int32 := N.2.2.1
abbrev xT (N : NT) : Bool := N.2.2.2.1
abbrev xIk (N : NT) : Nat := N.2.2.2.2.1
abbrev xB (N : NT) : Nat := N.2.2.2.2.2.1
abbrev xVf (N : NT) : Bool := N.2.2.2.2.2.2.1
abbrev xM (N : NT) : Nat := N.2.2.2.2.2.2.2.1
abbrev xD (N : NT) : Nat → Nat := N.2.2.2.2.2.2.2.2
def wkN (N : NT) (l : Nat) : Nat := (if xO N l then 1 else 0) + (if xU N l then 2 else 0)
def hbN (b : Nat) (dn : Nat → Nat) : Nat → Nat
  | 0 => b
  | k + 1 => (stp (hbN b dn k) (dn k)).getD 0
abbrev xH (N : NT) (k : Nat) : Nat := hbN (xB N) (xD N) k
/-- is stitch k over? -/
def ovN (N : NT) (k : Nat) : Bool := xVf N == decide (k % 2 = 0)
def xWk (N : NT) (v : Bool) (l : Nat) : Bool := if v then xO N l else xU N l
def WN (D : DT) (N : NT) : Prop := xT N = true → xIk N < 4 ∧ xB N < 144 ∧ xM N ≤ 120 ∧
  (∀ k, k < xM N → xD N k < 8 ∧ ∃ l, lnA D (xH N k) (xD N k) = some l ∧ dI D l = xIk N ∧ xWk N (ovN N k) l = true) ∧
  (∀ j k, j < k → k < xM N → ovN N j = ovN N k → lnA D (xH N j) (xD N j) ≠ lnA D (xH N k) (xD N k)) ∧
  xM N ≤ fb_ct (xO N) (dN D) + fb_ct (xU N) (dN D)
def RN (D : DT) (N : NT) (T : Nat → Int32) : Prop := (∀ l, l < dN D → T (8 + 4 * l + 3) = nI (wkN N l)) ∧ T 1 = xC N ∧ T 2 = nI (if xT N then 1 else 0) ∧
  (xT N = true → T 3 = nI (xIk N) ∧ T 4 = nI (xB N) ∧ T 5 = nI (if xVf N then 1 else 0) ∧ T 6 = nI (xM N) ∧ ∀ k, k < xM N → T (392 + k) = nI (xD N k))
def CN (nd : Nat) (D : DT) (N : NT) (P : PH) : Prop := (∀ i, i < 64 → bL (P.2 nd 0) i = (decide (i < dN D) && xO N i)) ∧ (∀ i, i < 64 → bL (P.2 nd 1) i = (decide (i < dN D) && xU N i)) ∧
  P.1 nd 2 = nI (if xT N then 1 else 0) ∧ P.1 nd 7 = xC N ∧ (P.1 nd 8 = 0 ∨ P.1 nd 8 = 1) ∧
  (xT N = true → P.1 nd 3 = nI (xIk N) ∧ P.1 nd 4 = nI (xB N) ∧ P.1 nd 5 = nI (xH N (xM N)) ∧ P.1 nd 6 = nI (xM N) ∧ P.1 nd 8 = nI (if xVf N then 1 else 0) ∧ ∀ k, k < xM N → P.1 (nd + 1) k = nI (xD N k))
def TR (P : PH) (i : Nat) : Prop := (P.1 108 i = m1 ∧ P.1 (53 + 2 * i) 0 = nI 0) ∨ ∃ s m : Nat, s < 4 ∧ m ≤ 40 ∧ P.1 108 i = nI s ∧ P.1 (53 + 2 * i) 0 = nI 1 ∧ P.1 109 i = nI m ∧ P.1 (53 + 2 * i) 1 = nI m ∧ P.1 (53 + 2 * i) 2 = nI s ∧ ∀ k, k < 40 → P.2 (54 + 2 * i) k = P.2 110 (40 * i + k)
def imT (P : PH) (i : Nat) : Nat → Int32 := fun k => P.1 90 (512 * i + k)
def IM (P : PH) (i : Nat) : Prop := (P.1 92 i = nI 0 ∧ P.1 (61 + i) 0 = nI 0) ∨ (P.1 92 i = nI 1 ∧ P.1 (61 + i) 0 = nI 1 ∧ ∃ (D : DT) (N : NT), WD D ∧ WN D N ∧ RD D (imT P i) ∧ RN D N (imT P i) ∧ CD (19 + 8 * i) D P ∧ CN (47 + 2 * i) D N P)
def TP (P : PH) : Prop := ∃ f : Nat, f ≤ 700 ∧ P.1 71 0 = nI f ∧ P.1 1 7 = nI f ∧ ∀ k, k < f → ∃ b : Nat, b < 256 ∧ P.1 93 k = nI b ∧ P.1 72 k &&& 255 = nI b
def INVx (D : DT) (N : NT) (P : PH) : Prop := WD D ∧ WN D N ∧ RD D (P.1 88) ∧ RN D N (P.1 88) ∧ CD 3 D P ∧ CN 43 D N P ∧ (∀ i, i < 4 → TR P i) ∧ (∀ i, i < 3 → IM P i) ∧ TP P ∧ P.1 0 0 = P.1 1 16 ∧ P.1 0 1 = P.1 1 17
def INV (P : PH) : Prop := ∃ D N, INVx D N P
/-- the ints that count between calls -/
def iR (n k : Nat) : Bool := if n = 0 then decide (k < 2) else if n = 1 then decide (k = 7) || (decide (k = 16) || decide (k = 17)) else if n = 71 then decide (k = 0) else (decide (3 ≤ n) && decide (n ≤ 10)) || ((decide (19 ≤ n) && decide (n ≤ 44)) || ((decide (47 ≤ n) && decide (n ≤ 63)) || (decide (n = 72) || (decide (n = 88) || (decide (n = 90) || (decide (n = 92) || (decide (n = 93) || (decide (n = 108) || decide (n = 109)))))))))
def iL (n : Nat) : Bool := (decide (3 ≤ n) && decide (n ≤ 10)) || ((decide (19 ≤ n) && decide (n ≤ 44)) || ((decide (47 ≤ n) && decide (n ≤ 60)) || decide (n = 110)))
/-- no more than scratch has changed -/
def scr (P Q : PH) : Prop := (∀ n k, iR n k = true → Q.1 n k = P.1 n k) ∧ ∀ n k, iL n = true → Q.2 n k = P.2 n k
theorem scr.rf (P : PH) : scr P P := ⟨fun _ _ _ => rfl, fun _ _ _ => rfl⟩
theorem scr.tr {P Q R : PH} (h : scr P Q) (h2 : scr Q R) : scr P R := ⟨fun n k q => (h2.1 n k q).trans (h.1 n k q), fun n k q => (h2.2 n k q).trans (h.2 n k q)⟩
theorem scr.sI {P Q : PH} (h : scr P Q) {a b : Nat} (v : Int32) (hn : iR a b = false) : scr P (sI Q a b v) := by
  refine ⟨fun n k q => ?_, h.2⟩
  rw [← h.1 n k q]
  exact u2_n _ _ (fun z => by rw [z.1, z.2, hn] at q; cases q)
theorem scr.sL {P Q : PH} (h : scr P Q) {a b : Nat} (v : Int64) (hn : iL a = false) : scr P (sL Q a b v) := by
  refine ⟨h.1, fun n k q => ?_⟩
  rw [← h.2 n k q]
  exact u2_n _ _ (fun z => by rw [z.1, hn] at q; cases q)
theorem scr.rI {P Q : PH} (h : scr P Q) {a : Nat} (f : Nat → Int32) (hn : ∀ k, iR a k = false) : scr P (rI Q a f) := by
  refine ⟨fun n k q => ?_, h.2⟩
  rw [← h.1 n k q]
  have : n ≠ a := fun z => by rw [z, hn] at q; cases q
  show (if n = a then f else Q.1 n) k = Q.1 n k
  rw [if_neg this]
theorem scr.rL {P Q : PH} (h : scr P Q) {a : Nat} (f : Nat → Int64) (hn : iL a = false) : scr P (rL Q a f) := by
  refine ⟨h.1, fun n k q => ?_⟩
  rw [← h.2 n k q]
  have : n ≠ a := fun z => by rw [z, hn] at q; cases q
  show (if n = a then f else Q.2 n) k = Q.2 n k
  rw [if_neg this]
theorem scr.row {P Q : PH} (h : scr P Q) {n : Nat} (hn : ∀ k, iR n k = true) : Q.1 n = P.1 n := funext (fun k => h.1 n k (hn k))
theorem scr.rowL {P Q : PH} (h : scr P Q) {n : Nat} (hn : iL n = true) : Q.2 n = P.2 n := funext (fun k => h.2 n k hn)
theorem CD.scr {d : Nat} {D : DT} {P Q : PH} (h : CD d D P) (s : scr P Q) (h1 : ∀ j, j < 8 → ∀ k, iR (d + j) k = true) (h2 : ∀ j, j < 8 → iL (d + j) = true) : CD d D Q :=
  h.keep (s.row (h1 0 (by omega))) (s.row (h1 1 (by omega))) (s.row (h1 2 (by omega))) (s.row (h1 3 (by omega))) (s.row (h1 4 (by omega))) (s.rowL (h2 5 (by omega))) (s.rowL (h2 6 (by omega))) (s.row (h1 7 (by omega)))
theorem CN.scr {nd : Nat} {D : DT} {N : NT} {P Q : PH} (h : CN nd D N P) (s : scr P Q) (h1 : ∀ k, iR nd k = true) (h2 : ∀ k, iR (nd + 1) k = true) (h3 : iL nd = true) : CN nd D N Q := by
  unfold CN
  rw [s.row h1, s.row h2, s.rowL h3]
  exact h
theorem iR_rg {n : Nat} (h : (3 ≤ n ∧ n ≤ 10) ∨ (19 ≤ n ∧ n ≤ 44) ∨ (47 ≤ n ∧ n ≤ 63) ∨ n = 72 ∨ n = 88 ∨ n = 90 ∨ n = 92 ∨ n = 93 ∨ n = 108 ∨ n = 109) (k : Nat) : iR n k = true := by
  unfold iR
  rw [if_neg (by omega), if_neg (by omega), if_neg (by omega)]
  simp only [Bool.or_eq_true, Bool.and_eq_true, decide_eq_true_eq]
  omega
theorem iL_rg {n : Nat} (h : (3 ≤ n ∧ n ≤ 10) ∨ (19 ≤ n ∧ n ≤ 44) ∨ (47 ≤ n ∧ n ≤ 60) ∨ n = 110) : iL n = true := by
  unfold iL
  simp only [Bool.or_eq_true, Bool.and_eq_true, decide_eq_true_eq]
  omega
theorem INVx.scr {D : DT} {N : NT} {P Q : PH} (h : INVx D N P) (s : scr P Q) : INVx D N Q := by
  obtain ⟨h1, h2, h3, h4, h5, h6, h7, h8, ⟨f, g1, g2, g3, g4⟩, h10, h11⟩ := h
  have e88 := s.row (n := 88) (iR_rg (by omega))
  have e90 := s.row (n := 90) (iR_rg (by omega))
  have e92 := s.row (n := 92) (iR_rg (by omega))
  have e93 := s.row (n := 93) (iR_rg (by omega))
  have e72 := s.row (n := 72) (iR_rg (by omega))
  have e108 := s.row (n := 108) (iR_rg (by omega))
  have e109 := s.row (n := 109) (iR_rg (by omega))
  refine ⟨h1, h2, by rw [e88]; exact h3, by rw [e88]; exact h4, h5.scr s (fun j hj => iR_rg (by omega)) (fun j hj => iL_rg (by omega)), h6.scr s (iR_rg (by omega)) (iR_rg (by omega)) (iL_rg (by omega)), fun i hi => ?_, fun i hi => ?_, ⟨f, g1, ?_, ?_, ?_⟩, ?_, ?_⟩
  · have q := h7 i hi
    unfold TR at q ⊢
    rw [e108, e109, s.row (n := 53 + 2 * i) (iR_rg (by omega)), s.rowL (n := 54 + 2 * i) (iL_rg (by omega)), s.rowL (n := 110) (iL_rg (by omega))]
    exact q
  · have q := h8 i hi
    unfold IM imT at q ⊢
    rw [e92, s.row (n := 61 + i) (iR_rg (by omega)), e90]
    rcases q with q | ⟨q1, q2, D', N', q3, q4, q5, q6, q7, q8⟩
    · exact Or.inl q
    · exact Or.inr ⟨q1, q2, D', N', q3, q4, q5, q6, q7.scr s (fun j hj => iR_rg (by omega)) (fun j hj => iL_rg (by omega)), q8.scr s (iR_rg (by omega)) (iR_rg (by omega)) (iL_rg (by omega))⟩
  · rw [s.1 71 0 rfl]; exact g2
  · rw [s.1 1 7 rfl]; exact g3
  · rw [e93, e72]; exact g4
  · rw [s.1 0 0 rfl, s.1 1 16 rfl]; exact h10
  · rw [s.1 0 1 rfl, s.1 1 17 rfl]; exact h11
/-! the reference's getters -/
section RGET
variable {D : DT} {N : NT} {P : PH}
theorem mo_from (hD : WD D) (hR : RD D (P.1 88)) {l : Nat} (hl : l < dN D) : Mo_from (nI l) P = some (nI (dF D l)) := by
  have h60 := hD.1
  obtain ⟨r1, r2, r3⟩ := hR.2.1 l hl
  unfold Mo_from
  simp (disch := omega) only [z_lit, nI_add, pk_mul, z_gd, z_cl, Nat.add_zero, r1]
theorem mo_to (hD : WD D) (hR : RD D (P.1 88)) {l : Nat} (hl : l < dN D) : Mo_to (nI l) P = some (nI (dT D l)) := by
  unfold Mo_to
  rw [mo_endOf hD hR hl]
  rfl
theorem mo_ink (hD : WD D) (hR : RD D (P.1 88)) {l : Nat} (hl : l < dN D) : Mo_inkOf (nI l) P = some (nI (dI D l)) := by
  have h60 := hD.1
  obtain ⟨r1, r2, r3⟩ := hR.2.1 l hl
  unfold Mo_inkOf
  simp (disch := omega) only [z_lit, nI_add, pk_mul, z_gd, z_cl, r3]
theorem mo_worked (hD : WD D) (hR : RN D N (P.1 88)) {l : Nat} (hl : l < dN D) : Mo_worked (nI l) P = some (nI (wkN N l)) := by
  have h60 := hD.1
  have r1 := hR.1 l hl
  unfold Mo_worked
  simp (disch := omega) only [z_lit, nI_add, pk_mul, z_gd, z_cl, r1]
theorem b1i (b : Bool) {T : Type} (f : Int32 → Option T) : (if b then f 1 else f 0) = f (if b then 1 else 0) := by cases b <;> rfl
theorem mo_isAt (hD : WD D) (hR : RD D (P.1 88)) {l h : Nat} (hl : l < dN D) (hh : h < 144) : Mo_isAt (nI l) (nI h) P = some (if dat D h l then 1 else 0) := by
  have a := (hD.2.1 l hl).1
  have b := (hD.to hl).1
  unfold Mo_isAt
  rw [mo_from hD hR hl, mo_to hD hR hl]
  simp (disch := omega) only [Option.bind_some, z_eq, gd1, gq1, gd0, gq0]
  by_cases c : dF D l = h
  · rw [if_pos c, dat_iff.mpr (Or.inl c), if_pos rfl]
  · rw [if_neg c]
    by_cases c2 : dT D l = h
    · rw [if_pos c2, dat_iff.mpr (Or.inr c2), if_pos rfl]
    · rw [if_neg c2, if_neg (fun q => by rcases dat_iff.mp q with q | q; exact c q; exact c2 q)]
/-- of an ink, or of any -/
def ofI (D : DT) (o : Option Nat) (l : Nat) : Bool := match o with
  | none => true
  | some k => decide (dI D l = k)
theorem mo_isOf (hD : WD D) (hR : RD D (P.1 88)) {l : Nat} (hl : l < dN D) {o : Option Nat} (ho : ∀ k, o = some k → k < 4) : Mo_isOf (nI l) (enc o) P = some (if ofI D o l then 1 else 0) := by
  have a := (hD.2.1 l hl).2.2.1
  unfold Mo_isOf
  cases o with
  | none =>
    rw [if_pos (show enc none = (-1 : Int32) from rfl), gd1]
    rfl
  | some k =>
    have hk := ho k rfl
    show (if nI k = (-1 : Int32) then _ else _) = _
    rw [if_neg (show ¬ nI k = (-1 : Int32) from fun q => by have := (z_em (a := k) (by omega)) ▸ (show nI k = m1 from q); exact this), mo_ink hD hR hl]
    simp only [Option.bind_some, gd1, gq1, gd0, gq0]
    show (if nI (dI D l) = nI k then some (1 : Int32) else some 0) = some (if decide (dI D l = k) then 1 else 0)
    simp (disch := omega) only [z_eq, decide_eq_true_eq]
    by_cases c : dI D l = k
    · rw [if_pos c, if_pos c]
    · rw [if_neg c, if_neg c]
theorem mo_0 (hR : RD D (P.1 88)) : P.1 88 (0 : Int32).toNatClampNeg = nI (dN D) := hR.1
end RGET
