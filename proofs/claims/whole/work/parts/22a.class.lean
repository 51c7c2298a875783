/-! THE CLASS'S CELLS OF A DRAWING (d: its first cell) -/
def inc : Option Nat → Nat
  | none => 0
  | some l => l + 1
theorem enc_inc (o : Option Nat) : nI (inc o) - 1 = enc o := by
  cases o with
  | none => exact (show nI 0 - 1 = m1 by decide)
  | some l => exact nI_pred l
def CD (d : Nat) (D : DT) (P : PH) : Prop :=
  P.1 d 0 = nI (dN D) ∧ P.1 d 1 = nI (fb_ct (dK D) 144) ∧
  (∀ l, l < dN D → P.1 (d + 1) l = nI (dF D l) ∧ P.1 (d + 2) l = nI (dT D l) ∧ P.1 (d + 3) l = nI (dI D l)) ∧
  (∀ h, h < 144 → ∀ w, w < 8 → P.1 (d + 4) (h * 8 + w) = nI (inc (lnA D h w))) ∧
  (∀ h, h < 144 → ∀ i, i < 64 → bL (P.2 (d + 5) h) i = (decide (i < dN D) && dat D h i)) ∧
  (∀ k, k < 4 → ∀ i, i < 64 → bL (P.2 (d + 6) k) i = (decide (i < dN D) && decide (dI D i = k))) ∧
  ∀ h, h < 144 → P.1 (d + 7) h = nI (if dK D h then 1 else 0)
/-- the same cells, the same drawing -/
theorem CD.keep {d : Nat} {D : DT} {P Q : PH} (h : CD d D P) (h0 : Q.1 d = P.1 d) (h1 : Q.1 (d + 1) = P.1 (d + 1)) (h2 : Q.1 (d + 2) = P.1 (d + 2)) (h3 : Q.1 (d + 3) = P.1 (d + 3)) (h4 : Q.1 (d + 4) = P.1 (d + 4)) (h5 : Q.2 (d + 5) = P.2 (d + 5)) (h6 : Q.2 (d + 6) = P.2 (d + 6)) (h7 : Q.1 (d + 7) = P.1 (d + 7)) : CD d D Q := by
  unfold CD
  rw [h0, h1, h2, h3, h4, h5, h6, h7]
  exact h
section CLS
variable {d : Nat} {D : DT} {P : PH}
theorem dr_from (hD : WD D) (hC : CD d D P) {l : Nat} (hl : l < dN D) : Dr_fromOf d (nI l) P = some (nI (dF D l)) := by
  have h60 := hD.1
  obtain ⟨r1, r2, r3⟩ := hC.2.2.1 l hl
  unfold Dr_fromOf
  simp (disch := omega) only [z_lit, z_lt, z_le, z_gd, z_cl, Nat.not_lt_zero, if_false, r1]
  rw [if_neg (by omega)]
theorem dr_to (hD : WD D) (hC : CD d D P) {l : Nat} (hl : l < dN D) : Dr_toOf d (nI l) P = some (nI (dT D l)) := by
  have h60 := hD.1
  obtain ⟨r1, r2, r3⟩ := hC.2.2.1 l hl
  unfold Dr_toOf
  simp (disch := omega) only [z_lit, z_lt, z_le, z_gd, z_cl, Nat.not_lt_zero, if_false, r2]
  rw [if_neg (by omega)]
theorem dr_ink (hD : WD D) (hC : CD d D P) {l : Nat} (hl : l < dN D) : Dr_inkOf d (nI l) P = some (nI (dI D l)) := by
  have h60 := hD.1
  obtain ⟨r1, r2, r3⟩ := hC.2.2.1 l hl
  unfold Dr_inkOf
  simp (disch := omega) only [z_lit, z_lt, z_le, z_gd, z_cl, Nat.not_lt_zero, if_false, r3]
  rw [if_neg (by omega)]
def oth (D : DT) (l h : Nat) : Nat := if dF D l = h then dT D l else dF D l
theorem dr_other (hD : WD D) (hC : CD d D P) {l h : Nat} (hl : l < dN D) (hh : h < 144) : Dr_otherEnd d (nI l) (nI h) P = some (nI (oth D l h)) := by
  have a := (hD.2.1 l hl).1
  unfold Dr_otherEnd oth
  rw [dr_from hD hC hl, dr_to hD hC hl]
  simp (disch := omega) only [Option.bind_some, z_eq]
  by_cases c : dF D l = h
  · rw [if_pos c, if_pos c]
  · rw [if_neg c, if_neg c]
theorem dr_lineBy (hD : WD D) (hC : CD d D P) {h w : Nat} (hh : h < 144) (hw : w < 8) : Dr_lineBy d (nI h) (nI w) P = some (enc (lnA D h w)) := by
  have r := hC.2.2.2.1 h hh w hw
  unfold Dr_lineBy
  rw [← enc_inc, ← r]
  simp (disch := omega) only [z_lit, z_lt, z_le, Nat.not_lt_zero, if_false, pk_mul, nI_add, z_gd, z_cl]
  rw [if_neg (by omega), if_pos hw]
theorem dr_lineBy_no {v w : Int32} (h : w < 0 ∨ nI 8 ≤ w) : Dr_lineBy d v w P = some m1 := by
  unfold Dr_lineBy
  have e : ∀ o : Option Int32, (if w < 0 then some (-1 : Int32) else if w < (8 : Int32) then o else some (-1 : Int32)) = some m1 := by
    intro o
    rcases h with h | h
    · rw [if_pos h]; rfl
    · have h2 := big_not (by decide) h
      rw [if_neg h2.1, if_neg (show ¬ w < (8 : Int32) from h2.2.1)]
      rfl
  rw [e]
  split
  · rfl
  · split <;> rfl
theorem dr_lineBy_m1 {w : Int32} : Dr_lineBy d m1 w P = some m1 := by
  unfold Dr_lineBy
  rw [if_pos (by decide)]
  rfl
theorem dr_linesAt {h : Nat} (hh : h < 144) : Dr_linesAt d (nI h) P = some (P.2 (d + 5) h) := by
  unfold Dr_linesAt
  simp (disch := omega) only [z_lit, z_lt, z_le, z_gd, z_cl, Nat.not_lt_zero, if_false]
  rw [if_neg (by omega)]
theorem dr_linesOf {k : Nat} (hk : k < 4) : Dr_linesOf d (nI k) P = some (P.2 (d + 6) k) := by
  unfold Dr_linesOf
  simp (disch := omega) only [z_lit, z_neg1, z_em, z_lt, z_le, z_gd, z_cl, Nat.not_lt_zero, if_false]
  rw [if_neg (by omega)]
theorem dr_linesAll (hD : WD D) (hC : CD d D P) : ∃ x, Dr_linesOf d (-1) P = some x ∧ ∀ i, bL x i = decide (i < dN D) := by
  have h60 := hD.1
  refine ⟨((1 : Int64) <<< ((P.1 d 0).toInt64 &&& 63)) - 1, ?_, fun i => ?_⟩
  · unfold Dr_linesOf
    rw [if_pos rfl]
  · rw [hC.1]
    exact bL_ones (by omega) i
end CLS
/-! how often -/
theorem ct_and {n m : Nat} (h : n ≤ m) (p : Nat → Bool) : fb_ct (fun i => decide (i < n) && p i) m = fb_ct p n := by
  obtain ⟨d, rfl⟩ : ∃ d, m = n + d := ⟨m - n, by omega⟩
  have z : fb_ct (fun k => decide (n + k < n) && p (n + k)) d = 0 := fb_ct_zero.mpr (fun k hk => by
    have : ¬ n + k < n := by omega
    simp [this])
  rw [fb_ct_split, z, Nat.add_zero]
  exact fb_ct_cong (fun k hk => by simp [hk])
/-- a set of lines has as many as there are -/
theorem pop_is {x : Int64} {n : Nat} {p : Nat → Bool} (hn : n ≤ 64) (h : ∀ i, i < 64 → bL x i = (decide (i < n) && p i)) (P : PH) : Jl_bitCount x P = some (nI (fb_ct p n)) := by
  rw [pop, fb_ct_cong (q := fun i => decide (i < n) && p i) (fun k hk => h k hk), ct_and hn]
