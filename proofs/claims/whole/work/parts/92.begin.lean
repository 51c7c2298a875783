/-! THE LAW'S START HOLDS, so every script is walked to its end -/
theorem P0_row {n : Nat} (h0 : n ≠ 0) (h1 : n ≠ 1) (h2 : n ≠ 108) : P0.1 n = fun _ => 0 := by
  unfold P0
  show (if n = 0 then _ else if n = 1 then _ else if n = 108 then _ else fun _ => (0 : Int32)) = _
  rw [if_neg h0, if_neg h1, if_neg h2]
theorem inv_P0 : INV P0 := by
  have r : ∀ n k, n ≠ 0 → n ≠ 1 → n ≠ 108 → P0.1 n k = 0 := fun n k a b c => by rw [P0_row a b c]
  have z : ∀ i : Nat, (decide (i < dN D00)) = false := fun i => decide_eq_false (Nat.not_lt_zero i)
  refine ⟨D00, N00, WD00, fun q => (by cases q), ⟨r 88 _ (by decide) (by decide) (by decide), fun l hl => absurd hl (Nat.not_lt_zero l), fun h _ => r 88 _ (by decide) (by decide) (by decide)⟩, ⟨fun l hl => absurd hl (Nat.not_lt_zero l), r 88 _ (by decide) (by decide) (by decide), r 88 _ (by decide) (by decide) (by decide), fun q => (by cases q)⟩, ⟨r 3 _ (by decide) (by decide) (by decide), ?_, fun l hl => absurd hl (Nat.not_lt_zero l), fun h _ w _ => ?_, fun h _ i _ => ?_, fun k _ i _ => ?_, fun h _ => r (3 + 7) _ (by decide) (by decide) (by decide)⟩, ⟨fun i _ => ?_, fun i _ => ?_, r 43 _ (by decide) (by decide) (by decide), r 43 _ (by decide) (by decide) (by decide), Or.inl (r 43 _ (by decide) (by decide) (by decide)), fun q => (by cases q)⟩, fun i hi => ?_, fun i hi => ?_, ⟨0, by decide, r 71 _ (by decide) (by decide) (by decide), rfl, fun k hk => absurd hk (Nat.not_lt_zero k)⟩, rfl, rfl⟩
  · rw [r 3 _ (by decide) (by decide) (by decide)]
    show (0 : Int32) = nI (fb_ct (fun _ => false) 144)
    rw [ct00]
    rfl
  · rw [r (3 + 4) _ (by decide) (by decide) (by decide), lnA00]
    rfl
  · show bL (0 : Int64) i = _
    rw [bL_0, z, Bool.false_and]
  · show bL (0 : Int64) i = _
    rw [bL_0, z, Bool.false_and]
  · show bL (0 : Int64) i = _
    rw [bL_0, z, Bool.false_and]
  · show bL (0 : Int64) i = _
    rw [bL_0, z, Bool.false_and]
  · refine Or.inl ⟨?_, r _ _ (by omega) (by omega) (by omega)⟩
    rcases (show i = 0 ∨ i = 1 ∨ i = 2 ∨ i = 3 by omega) with rfl | rfl | rfl | rfl <;> rfl
  · exact Or.inl ⟨r 92 _ (by decide) (by decide) (by decide), r _ _ (by omega) (by omega) (by omega)⟩
theorem law_all (L : Nat) (xs : Nat → Int32) (hL : L ≤ 3072) : ∃ P', Lw_law_23 L xs 513 0 P0 = some ((1 : Int32), P') := by
  rw [show (0 : Int32) = nI 0 from rfl]
  exact law_lp L xs hL 513 0 P0 inv_P0 (Nat.zero_le _) (by omega)
