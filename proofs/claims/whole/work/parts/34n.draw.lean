/-! DRAWING: the pen from the first statement to the last -/
def D00 : DT := (0, fun _ => 0, fun _ => 0, fun _ => 0, fun _ => false)
def oMx (P Q : PH) : Prop := (∀ n, n ≠ 1 → n ≠ 89 → n ≠ 95 → n ≠ 96 → n ≠ 97 → n ≠ 98 → Q.1 n = P.1 n) ∧ (∀ k, k < 14 ∨ (15 < k ∧ k < 24) ∨ 26 < k → Q.1 1 k = P.1 1 k) ∧ Q.2 = P.2
section DRW
variable {P Q : PH}
theorem WD00 : WD D00 := ⟨by decide, fun l hl => absurd hl (Nat.not_lt_zero l), fun l m hl => absurd hl (Nat.not_lt_zero l)⟩
theorem lnA00 (h w : Nat) : lnA D00 h w = none := by
  unfold lnA
  cases stp h w <;> rfl
theorem ct00 : ∀ n, fb_ct (fun _ => false) n = 0
  | 0 => rfl
  | n + 1 => by rw [fb_ct_succ, ct00 n]; rfl
theorem dr_clear00 : ∃ Q, Dr_clear 11 P = some Q ∧ CD 11 D00 Q ∧ oDr 11 P Q := by
  refine ⟨rI (rL (rL (rI (sI (sI P 11 0 0) 11 1 0) (11 + 4) (fun _ => 0)) (11 + 5) (fun _ => 0)) (11 + 6) (fun _ => 0)) (11 + 7) (fun _ => 0), rfl, ⟨?_, ?_, fun l hl => absurd hl (Nat.not_lt_zero l), fun h _ w _ => ?_, fun h _ i _ => ?_, fun k _ i _ => ?_, fun h _ => ?_⟩, fun n hn => ⟨?_, ?_⟩⟩
  · rw [rI_o _ _ (by decide)]
    show (rI (sI (sI P 11 0 0) 11 1 0) (11 + 4) (fun _ => 0)).1 11 0 = _
    rw [rI_o _ _ (by decide), rowI_s, pk_un (by decide), rowI_s, pk_us]
    rfl
  · rw [rI_o _ _ (by decide)]
    show (rI (sI (sI P 11 0 0) 11 1 0) (11 + 4) (fun _ => 0)).1 11 1 = nI (fb_ct (fun _ => false) 144)
    rw [rI_o _ _ (by decide), rowI_s, pk_us, ct00]
    rfl
  · rw [rI_o _ _ (by decide), lnA00]
    show (rI (sI (sI P 11 0 0) 11 1 0) (11 + 4) (fun _ => 0)).1 (11 + 4) (h * 8 + w) = _
    rw [rI_s]
    rfl
  · show bL ((rL (rL (rI (sI (sI P 11 0 0) 11 1 0) (11 + 4) (fun _ => 0)) (11 + 5) (fun _ => 0)) (11 + 6) (fun _ => 0)).2 (11 + 5) h) i = _
    rw [rL_o _ _ (by decide), rL_s, bL_0, decide_eq_false (show ¬ i < dN D00 from Nat.not_lt_zero i), Bool.false_and]
  · show bL ((rL (rL (rI (sI (sI P 11 0 0) 11 1 0) (11 + 4) (fun _ => 0)) (11 + 5) (fun _ => 0)) (11 + 6) (fun _ => 0)).2 (11 + 6) k) i = _
    rw [rL_s, bL_0, decide_eq_false (show ¬ i < dN D00 from Nat.not_lt_zero i), Bool.false_and]
  · rw [rI_s]
    rfl
  · rw [rI_o _ _ (by omega)]
    show (rI (sI (sI P 11 0 0) 11 1 0) (11 + 4) (fun _ => 0)).1 n = _
    rw [rI_o _ _ (by omega), rowI_o _ _ _ (by omega), rowI_o _ _ _ (by omega)]
  · show (rL (rL (rI (sI (sI P 11 0 0) 11 1 0) (11 + 4) (fun _ => 0)) (11 + 5) (fun _ => 0)) (11 + 6) (fun _ => 0)).2 n = _
    rw [rL_o _ _ (by omega), rL_o _ _ (by omega)]
    rfl
theorem oMr.mx {d : Nat} (h : oMr d P Q) : oMx P Q := ⟨h.1, h.2.1, h.2.2.2.2⟩
theorem oMx.tr {P Q R : PH} (h : oMx P Q) (h2 : oMx Q R) : oMx P R := ⟨fun n a b c e f g => (h2.1 n a b c e f g).trans (h.1 n a b c e f g), fun k a => (h2.2.1 k a).trans (h.2.1 k a), h2.2.2.trans h.2.2⟩
theorem draw_run {g sz mz : Nat} (hSG : SG P.1 (Q.1 94) g 0 0 sz 0 mz) (h66 : P.1 66 0 = nI sz) (hs : sz ≤ 200) (h14 : Q.1 1 14 = 0) (h19 : Q.1 1 19 = nI mz) (hm : mz ≤ 400) (h89 : ∀ k, k < 512 → Q.1 89 k = 0) :
    (∃ (s : ST) (P' Q' : PH), SV s ∧ Pe_draw P = some P' ∧ CPn s P' ∧ oCp P P' ∧ Mo_goesThrough Q = some Q' ∧ MPn s Q' ∧ oMx Q Q') ∨
    (∃ (f b : Nat) (P' Q' : PH), 5 ≤ f ∧ f ≤ 7 ∧ Pe_draw P = some P' ∧ P'.1 74 0 = nI f ∧ P'.1 74 1 = nI b ∧ oCp P P' ∧ Mo_goesThrough Q = some Q' ∧ Q'.1 1 14 = nI f ∧ Q'.1 1 15 = nI b ∧ oMx Q Q') := by
  obtain ⟨F, hc, hmo, hsv, -, -⟩ := run_sg g 0 0 sz 0 mz hSG hs (by decide)
  -- the class begins
  obtain ⟨A, hA⟩ : ∃ A, A = sI (sI (sI (sI (sI P 74 0 (0 : Int32)) 74 1 (-1 : Int32)) 74 4 (0 : Int32)) 74 5 (0 : Int32)) 74 6 (0 : Int32) := ⟨_, rfl⟩
  have oA : oCp P A := by rw [hA]; exact (((((oCp.rf P).si _ _).si _ _).si _ _).si _ _).si _ _
  obtain ⟨B, b1, b2, b3⟩ := dr_clear00 (P := A)
  have oB' : oCp P B := oA.tr b3.cp
  have k74 : B.1 74 = A.1 74 := (b3 74 (by omega)).1
  have hsv0 : SV (0, 0, 0, D00) := ⟨by decide, by decide, by decide, WD00⟩
  have hCP : CPn (0, 0, 0, D00) B := by
    refine ⟨?_, ?_, ?_, ?_, ?_, b2⟩
    · rw [k74, hA, rowI_s, pk_un (by decide), rowI_s, pk_un (by decide), rowI_s, pk_un (by decide), rowI_s, pk_un (by decide), rowI_s, pk_us]
    · rw [k74, hA, rowI_s, pk_un (by decide), rowI_s, pk_un (by decide), rowI_s, pk_un (by decide), rowI_s, pk_us]; rfl
    · rw [k74, hA, rowI_s, pk_un (by decide), rowI_s, pk_un (by decide), rowI_s, pk_us]; rfl
    · rw [k74, hA, rowI_s, pk_un (by decide), rowI_s, pk_us]; rfl
    · rw [k74, hA, rowI_s, pk_us]; rfl
  have hB66 : B.1 66 0 = nI sz := by rw [oB'.1 66 (by decide) (by decide)]; exact h66
  have st : Pe_draw P = flw 0 sz 10 true bigN 0 0 B := by
    have e : Pe_draw P = (Dr_clear 11 A).bind fun (x29 : PH) => (Pe_follow 7 (0 : Int32) (x29.1 66 0) (0 : Int32) (0 : Int32) (1 : Int32) x29).bind fun (x44 : PH) => some x44 := by
      unfold Pe_draw
      rw [Option.bind_some, Option.bind_some, Option.bind_some, Option.bind_some, Option.bind_some, ← hA]
    rw [e, b1, Option.bind_some, hB66]
    have e2 : Pe_follow 7 (0 : Int32) (nI sz) (0 : Int32) (0 : Int32) (1 : Int32) B = flw 0 sz 10 true bigN 0 0 B := rfl
    rw [e2]
    cases flw 0 sz 10 true bigN 0 0 B <;> rfl
  obtain ⟨f0, hf0⟩ : ∃ f0, bigN = (f0 + 1) + (sz - 0) := ⟨bigN - sz - 1, by unfold bigN; omega⟩
  have cl := hc true 10 (0, 0, 0, D00) B sz (f0 + 1) 0 (by unfold orE; decide) hsv0 hCP (fun r r1 r2 => oB'.1 r (by omega) (by omega)) (Nat.le_refl _) hs (Nat.le_refl _)
  rw [← hf0] at cl
  -- the reference begins
  obtain ⟨C, hC⟩ : ∃ C, C = sI (sI (sI (sI (sI Q 97 0 (0 : Int32)) 98 0 (1 : Int32)) 1 24 (0 : Int32)) 1 25 (0 : Int32)) 1 26 (0 : Int32) := ⟨_, rfl⟩
  have stm : Mo_goesThrough Q = Mo_goesThrough_33 bigN (nI 0) (nI 0) C := by
    unfold Mo_goesThrough
    rw [show (gdI (0 : Int32) 7 : Option PH → Option PH) = fun o => o from gdf 0 7 (by decide) (by decide)]
    show (some _).bind _ = _
    rw [Option.bind_some, Option.bind_some, Option.bind_some, Option.bind_some, Option.bind_some]
    rw [hC]
    rfl
  have c89 : C.1 89 = Q.1 89 := by rw [hC, rowI_o _ _ _ (by decide), rowI_o _ _ _ (by decide), rowI_o _ _ _ (by decide), rowI_o _ _ _ (by decide), rowI_o _ _ _ (by decide)]
  have c94 : C.1 94 = Q.1 94 := by rw [hC, rowI_o _ _ _ (by decide), rowI_o _ _ _ (by decide), rowI_o _ _ _ (by decide), rowI_o _ _ _ (by decide), rowI_o _ _ _ (by decide)]
  have ck : ∀ k, k < 24 ∨ 26 < k → C.1 1 k = Q.1 1 k := fun k hk => by rw [hC, rowI_s, pk_un (by omega), rowI_s, pk_un (by omega), rowI_s, pk_un (by omega), rowI_o _ _ _ (by decide), rowI_o _ _ _ (by decide)]
  have oC : oMx Q C := ⟨fun n x1 x2 x3 x4 x5 x6 => by rw [hC, rowI_o _ _ _ x1, rowI_o _ _ _ x1, rowI_o _ _ _ x1, rowI_o _ _ _ x6, rowI_o _ _ _ x5], fun k hk => ck k (by omega), by rw [hC]; rfl⟩
  have hMP : MPn (0, 0, 0, D00) C := by
    refine ⟨(ck 14 (by omega)).trans h14, ?_, ?_, ?_, ?_, ?_⟩
    · rw [hC, rowI_s, pk_un (by decide), rowI_s, pk_un (by decide), rowI_s, pk_us]; rfl
    · rw [hC, rowI_s, pk_un (by decide), rowI_s, pk_us]; rfl
    · rw [hC, rowI_s, pk_us]; rfl
    · rw [c89]
      exact ⟨h89 0 (by decide), fun l hl => absurd hl (Nat.not_lt_zero l), fun h hh => h89 _ (by omega)⟩
    · rw [c89]
      exact ⟨fun l hl => absurd hl (Nat.not_lt_zero l), h89 1 (by decide), h89 2 (by decide), fun q => by cases q⟩
  have mo := hmo true 10 (0, 0, 0, D00) C mz (by unfold orE; decide) hsv0 hMP c94 ((ck 19 (by omega)).trans h19) (Nat.le_refl _) hm (by rw [hC, rowI_o _ _ _ (by decide), rowI_o _ _ _ (by decide), rowI_o _ _ _ (by decide), rowI_o _ _ _ (by decide), rowI_s, pk_us]; rfl) (by rw [hC, rowI_o _ _ _ (by decide), rowI_o _ _ _ (by decide), rowI_o _ _ _ (by decide), rowI_s, pk_us]; rfl)
  have bnd : ∀ N, N ≤ (mz - 0) * 12 ^ (5 - 0) → ∃ f, bigN = (f + 1) + N := fun N hN => ⟨bigN - N - 1, by
    have e : (12 : Nat) ^ (5 - 0) = 248832 := by decide
    rw [e] at hN
    unfold bigN
    omega⟩
  cases e : F true 10 (0, 0, 0, D00) with
  | inl s =>
    obtain ⟨P', v6, a1, a2, a3, a4⟩ := cl.1 s e
    obtain ⟨N, Q', d1, d2, d3, d4⟩ := mo.1 s e
    obtain ⟨f, hf⟩ := bnd N d1
    refine Or.inl ⟨s, P', Q', (hsv true 10 _ hsv0).1 s e, ?_, a3, oB'.tr a4, ?_, d3, oC.tr d4.mx⟩
    · rw [st, a2, fl_end hs]
    · rw [stm, hf, d2, gt_eq, d4.2.1 19 (by omega), ck 19 (by omega), h19, if_pos (show nI mz ≤ nI mz by rw [z_le (by omega) (by omega)]; omega)]
  | inr x =>
    obtain ⟨P', a2, a3, a4, a5⟩ := cl.2 x e (by omega)
    obtain ⟨N, Q', d1, d2, d3, d4, d5⟩ := mo.2 x e
    obtain ⟨f, hf⟩ := bnd N d1
    have x5 := (hsv true 10 _ hsv0).2 x e
    refine Or.inr ⟨x.1, x.2, P', Q', x5.1, x5.2, ?_, a3, a4, oB'.tr a5, ?_, d3, d4, oC.tr d5.mx⟩
    · rw [st, a2]
    · rw [stm, hf, d2]
end DRW
