/-! WHAT CALLS LOOK AT FIRST -/
theorem lg_lt (x y : Int64) : lg_cmp x y < 0 ↔ x < y := by
  unfold lg_cmp
  by_cases h : x > y
  · rw [if_pos h]
    refine ⟨fun q => absurd q (by decide), fun q => ?_⟩
    rw [gt_iff_lt, Int64.lt_iff_toInt_lt] at h
    rw [Int64.lt_iff_toInt_lt] at q
    omega
  · rw [if_neg h]
    by_cases h2 : x = y
    · rw [if_pos h2, h2]
      refine ⟨fun q => absurd q (by decide), fun q => ?_⟩
      rw [Int64.lt_iff_toInt_lt] at q
      omega
    · rw [if_neg h2]
      refine ⟨fun _ => ?_, fun _ => by decide⟩
      rw [gt_iff_lt, Int64.lt_iff_toInt_lt] at h
      rw [← Int64.toInt_inj] at h2
      rw [Int64.lt_iff_toInt_lt]
      omega
theorem lg_gt (x y : Int64) : 0 < lg_cmp x y ↔ y < x := by
  unfold lg_cmp
  by_cases h : x > y
  · rw [if_pos h]
    exact ⟨fun _ => h, fun _ => by decide⟩
  · rw [if_neg h]
    refine ⟨fun q => ?_, fun q => absurd q h⟩
    by_cases h2 : x = y
    · rw [if_pos h2] at q; exact absurd q (by decide)
    · rw [if_neg h2] at q; exact absurd q (by decide)
theorem mo_within (x y z : Int64) (P : PH) : Mo_within x y z P = some (if y ≤ x ∧ x ≤ z then 1 else 0) := by
  unfold Mo_within
  simp only [lg_lt, lg_gt, gd0, gq0, gd1, gq1]
  have e1 : x < y ↔ ¬ y ≤ x := by rw [Int64.lt_iff_toInt_lt, Int64.le_iff_toInt_le]; omega
  have e2 : z < x ↔ ¬ x ≤ z := by rw [Int64.lt_iff_toInt_lt, Int64.le_iff_toInt_le]; omega
  by_cases c1 : y ≤ x
  · rw [if_neg (fun q => e1.mp q c1)]
    by_cases c2 : x ≤ z
    · rw [if_neg (fun q => e2.mp q c2), if_pos ⟨c1, c2⟩]
    · rw [if_pos (e2.mpr c2), if_neg (fun q => c2 q.2)]
  · rw [if_pos (e1.mpr c1), if_neg (fun q => c1 q.1)]
theorem mo_win (v a b : Int32) (P : PH) : Mo_within v.toInt64 a.toInt64 b.toInt64 P = some (if a ≤ v ∧ v ≤ b then 1 else 0) := by
  rw [mo_within]
  simp only [fa_wide_le]
theorem win_out {v : Int32} {N : Nat} (hN : N < 2147483648) (h : v < 0 ∨ nI N ≤ v) (M : Nat) (hM : M + 1 = N) : ¬ ((0 : Int32) ≤ v ∧ v ≤ nI M) := by
  have h0 : (0 : Int32).toInt = 0 := by decide
  rw [fa_le, fa_le, nI_toInt (by omega)]
  rcases h with h | h
  · rw [fa_lt] at h; omega
  · rw [fa_le, nI_toInt hN] at h; omega
theorem win_in {j N : Nat} (hN : N < 2147483648) (h : j < N) (M : Nat) (hM : M + 1 = N) : (0 : Int32) ≤ nI j ∧ nI j ≤ nI M := ⟨(z_le (a := 0) (b := j) (by omega) (by omega)) ▸ (Nat.zero_le j), (z_le (a := j) (b := M) (by omega) (by omega)) ▸ (by omega)⟩
theorem win0 (v : Int32) (M : Nat) (L : Int64) (hL : L = (nI M).toInt64) (P : PH) : Mo_within v.toInt64 (0 : Int64) L P = some (if (0 : Int32) ≤ v ∧ v ≤ nI M then 1 else 0) := by
  rw [hL]
  exact mo_win v 0 (nI M) P
section CHK
variable {v : Int32} {P : PH}
theorem w_out {N : Nat} (L : Int64) (M : Nat) (hL : L = (nI M).toInt64) (hM : M + 1 = N) (hN : N < 2147483648) (h : v < 0 ∨ nI N ≤ v) : Mo_within v.toInt64 (0 : Int64) L P = some 0 := by
  rw [win0 v M L hL, if_neg (win_out hN h M hM)]
theorem w_in {N j : Nat} (L : Int64) (M : Nat) (hL : L = (nI M).toInt64) (hM : M + 1 = N) (hN : N < 2147483648) (h : j < N) : Mo_within (nI j).toInt64 (0 : Int64) L P = some 1 := by
  rw [win0 _ M L hL, if_pos (win_in hN h M hM)]
theorem isHole_out (h : v < 0 ∨ nI 144 ≤ v) : Mo_isHole v P = some 0 := by
  unfold Mo_isHole
  rw [w_out 143 143 (by decide) rfl (by decide) h]
  exact gd0
theorem isHole_in {j : Nat} (h : j < 144) : Mo_isHole (nI j) P = some 1 := by
  unfold Mo_isHole
  rw [w_in 143 143 (by decide) rfl (by decide) h]
  exact gd1
theorem isWay_out (h : v < 0 ∨ nI 8 ≤ v) : Mo_isWay v.toInt64 P = some 0 := by
  unfold Mo_isWay
  rw [w_out 7 7 (by decide) rfl (by decide) h]
  exact gd0
theorem isWay_in {j : Nat} (h : j < 8) : Mo_isWay (nI j).toInt64 P = some 1 := by
  unfold Mo_isWay
  rw [w_in 7 7 (by decide) rfl (by decide) h]
  exact gd1
theorem isInk_out (h : v < 0 ∨ nI 4 ≤ v) : Mo_isInk v P = some 0 := by
  unfold Mo_isInk
  rw [w_out 3 3 (by decide) rfl (by decide) h]
  exact gd0
theorem isInk_in {j : Nat} (h : j < 4) : Mo_isInk (nI j) P = some 1 := by
  unfold Mo_isInk
  rw [w_in 3 3 (by decide) rfl (by decide) h]
  exact gd1
theorem win_n (n : Nat) (hn : n < 2147483648) : Mo_within v.toInt64 (0 : Int64) ((nI n - 1).toInt64) P = some (if (0 : Int32) ≤ v ∧ v < nI n then 1 else 0) := by
  have e : Mo_within v.toInt64 (0 : Int64) ((nI n - 1).toInt64) P = some (if (0 : Int32) ≤ v ∧ v ≤ nI n - 1 then 1 else 0) := mo_win v 0 (nI n - 1) P
  have e2 : (v ≤ nI n - 1) ↔ v < nI n := by
    have h1 : (1 : Int32).toInt = 1 := by decide
    rw [fa_le, fa_lt, fb_subI (by rw [nI_toInt hn, h1]; omega) (by rw [nI_toInt hn, h1]; omega), h1, nI_toInt hn]
    omega
  rw [e]
  simp only [e2]
theorem isLine_out {D : DT} (hD : WD D) (hR : RD D (P.1 88)) (h : v < 0 ∨ nI (dN D) ≤ v) : Mo_isLine v P = some 0 := by
  have h60 := hD.1
  unfold Mo_isLine
  rw [mo_0 hR, win_n _ (by omega), if_neg (fun q => by
    rcases h with h | h
    · rw [fa_lt] at h; rw [fa_le] at q; omega
    · rw [fa_le] at h; rw [fa_lt] at q; omega)]
  simp only [Option.bind_some, gd0, gq0]
  exact z_gd (k := 0) (by decide) (by decide)
theorem isLine_in {D : DT} (hD : WD D) (hR : RD D (P.1 88)) {l : Nat} (hl : l < dN D) : Mo_isLine (nI l) P = some 1 := by
  have h60 := hD.1
  unfold Mo_isLine
  rw [mo_0 hR, win_n _ (by omega), if_pos ⟨nI_pos' (by omega), nI_lt hl (by omega)⟩]
  simp only [Option.bind_some, gd1, gq1]
  exact z_gd (k := 0) (by decide) (by decide)
abbrev NSE : String := "java/util/NoSuchElementException"
abbrev IAE : String := "java/lang/IllegalArgumentException"
abbrev ISE : String := "java/lang/IllegalStateException"
abbrev IOB : String := "java/lang/IndexOutOfBoundsException"
theorem ck_gen {N : Nat} (hN : N < 2147483648) (h : v < 0 ∨ nI N ≤ v) {T : Type} (a b : T) : (if v < 0 then a else if v < nI N then b else a) = a := by
  rcases h with h | h
  · rw [if_pos h]
  · have q := big_not hN h
    rw [if_neg q.1, if_neg q.2.1]
theorem ck_in {N j : Nat} (hN : N < 2147483648) (h : j < N) {T : Type} (a b : T) : (if nI j < 0 then a else if nI j < nI N then b else a) = b := by
  rw [if_neg (nI_pos (by omega)), if_pos (nI_lt h hN)]
theorem ckHole_out (h : v < 0 ∨ nI 144 ≤ v) : Bs_checkHole v P = some (.inl NSE) := by
  unfold Bs_checkHole
  exact ck_gen (by decide) h _ _
theorem ckHole_in {j : Nat} (h : j < 144) : Bs_checkHole (nI j) P = some (.inr ()) := by
  unfold Bs_checkHole
  exact ck_in (by decide) h _ _
theorem ckWay_out (h : v < 0 ∨ nI 8 ≤ v) : Bs_checkWay v P = some (.inl NSE) := by
  unfold Bs_checkWay
  exact ck_gen (by decide) h _ _
theorem ckWay_in {j : Nat} (h : j < 8) : Bs_checkWay (nI j) P = some (.inr ()) := by
  unfold Bs_checkWay
  exact ck_in (by decide) h _ _
theorem ckInk_out (h : v < 0 ∨ nI 4 ≤ v) : Bs_checkInk v P = some (.inl IAE) := by
  unfold Bs_checkInk
  exact ck_gen (by decide) h _ _
theorem ckInk_in {j : Nat} (h : j < 4) : Bs_checkInk (nI j) P = some (.inr ()) := by
  unfold Bs_checkInk
  exact ck_in (by decide) h _ _
theorem ckLine_out {D : DT} (hD : WD D) (hC : CD 3 D P) (h : v < 0 ∨ nI (dN D) ≤ v) : Bs_checkLine v P = some (.inl NSE) := by
  have h60 := hD.1
  unfold Bs_checkLine
  rw [hC.1]
  exact ck_gen (by omega) h _ _
theorem ckLine_in {D : DT} (hD : WD D) (hC : CD 3 D P) {l : Nat} (hl : l < dN D) : Bs_checkLine (nI l) P = some (.inr ()) := by
  have h60 := hD.1
  unfold Bs_checkLine
  rw [hC.1]
  exact ck_in (by omega) hl _ _
theorem three (v : Int32) (N : Nat) (hN : N < 2147483648) : (v < 0 ∨ nI N ≤ v) ∨ ∃ j, j < N ∧ v = nI j := by
  rcases i_cases v N hN with h | h | h
  · exact Or.inl (Or.inl h)
  · exact Or.inl (Or.inr h)
  · exact Or.inr h
/-- an ink, none, or neither -/
theorem ink_cases (v : Int32) : v = m1 ∨ (¬ v = m1 ∧ (v < 0 ∨ nI 4 ≤ v)) ∨ ∃ k, k < 4 ∧ v = nI k := by
  by_cases c : v = m1
  · exact Or.inl c
  · rcases three v 4 (by decide) with h | h
    · exact Or.inr (Or.inl ⟨c, h⟩)
    · exact Or.inr (Or.inr h)
theorem ckAll_m1 : Bs_checkInkOrAll m1 P = some (.inr ()) := by
  unfold Bs_checkInkOrAll
  rw [if_pos (show m1 = (-1 : Int32) from rfl)]
theorem ckAll_out (h1 : ¬ v = m1) (h : v < 0 ∨ nI 4 ≤ v) : Bs_checkInkOrAll v P = some (.inl IAE) := by
  unfold Bs_checkInkOrAll
  rw [if_neg (show ¬ v = (-1 : Int32) from h1), ckInk_out h]
  rfl
theorem nI_nm {k : Nat} (h : k < 2147483648) : ¬ nI k = m1 := fun q => (z_em h) ▸ q
theorem ckAll_in {j : Nat} (h : j < 4) : Bs_checkInkOrAll (nI j) P = some (.inr ()) := by
  unfold Bs_checkInkOrAll
  rw [if_neg (show ¬ nI j = (-1 : Int32) from nI_nm (by omega)), ckInk_in h]
  rfl
end CHK
/-! CALLS THAT CHANGE NOTHING: the class's answer, and the reference's over any heap of the same state -/
def clsI (l : List String) (r : Nat × Int32) : String ⊕ Int32 := if r.1 = 0 then .inr r.2 else .inl (l.getD (r.1 - 1) "")
/-- the reference throws as told, and answers as told where it doesn't; only scratch changes -/
def moI (D : DT) (N : NT) (m : PH → Option (Int32 × PH)) (r : Nat × Int32) : Prop := ∀ Q, INVx D N Q → ∃ b Q', m Q = some (b, Q') ∧ Q'.1 1 5 = nI r.1 ∧ scr Q Q' ∧ Q'.2 2 = Q.2 2 ∧ (r.1 = 0 → b = r.2)
theorem at5 (Q : PH) (v : Int32) : (sI Q 1 5 v).1 1 5 = v := u2_s Q.1 1 5 v
theorem moI.thr {D : DT} {N : NT} {m : PH → Option (Int32 × PH)} {r : Nat × Int32} (f : PH → Int32) (h : ∀ Q, INVx D N Q → m Q = some (f Q, sI Q 1 5 (nI r.1))) (h2 : r.1 = 0 → ∀ Q, INVx D N Q → f Q = r.2) : moI D N m r := by
  intro Q hQ
  exact ⟨f Q, _, h Q hQ, at5 _ _, (scr.rf Q).sI _ rfl, rfl, fun q => h2 q Q hQ⟩
theorem off5 (Q : PH) (v : Int32) {n : Nat} (h : n ≠ 1) : (sI Q 1 5 v).1 n = Q.1 n := u2_off _ _ h
theorem off5i (Q : PH) (v : Int32) {k : Nat} (h : k ≠ 5) : (sI Q 1 5 v).1 1 k = Q.1 1 k := u2_n _ _ (fun z => h z.2)
theorem INVx.s5 {D : DT} {N : NT} {Q : PH} (h : INVx D N Q) (v : Int32) : INVx D N (sI Q 1 5 v) := h.scr ((scr.rf Q).sI _ rfl)
theorem le00 : ((0 : Int32) ≤ 0) = True := by decide
theorem le10 : ((1 : Int32) ≤ 0) = False := by decide
theorem le20 : ((2 : Int32) ≤ 0) = False := by decide
theorem le30 : ((3 : Int32) ≤ 0) = False := by decide
