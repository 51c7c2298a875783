/-! BARRED, ENDING -/
def only75 (P Q : PH) : Prop := ∀ n, n ≠ 75 → Q.1 n = P.1 n ∧ Q.2 n = P.2 n
theorem only75.rf (P : PH) : only75 P P := fun _ _ => ⟨rfl, rfl⟩
theorem only75.tr {P Q R : PH} (h : only75 P Q) (h2 : only75 Q R) : only75 P R := fun n a => ⟨(h2 n a).1.trans (h n a).1, (h2 n a).2.trans (h n a).2⟩
theorem onlyR.o {P Q : PH} (h : onlyR P Q) : only75 P Q := fun n a => ⟨h.2.1 n a, by rw [h.1]⟩
theorem only75.scr {P Q : PH} (h : only75 P Q) : scr P Q := ⟨fun n k q => by rw [(h n (fun z => by rw [z] at q; cases q)).1], fun n k q => by rw [(h n (fun z => by rw [z] at q; cases q)).2]⟩
section BRC
variable {D : DT} {N : NT} {P : PH}
theorem CD.keep75 {Q : PH} (c : CD 3 D P) (o : only75 P Q) : CD 3 D Q := c.keep (o _ (by decide)).1 (o _ (by decide)).1 (o _ (by decide)).1 (o _ (by decide)).1 (o _ (by decide)).1 (o _ (by decide)).2 (o _ (by decide)).2 (o _ (by decide)).1
theorem CN.keep75 {Q : PH} (c : CN 43 D N P) (o : only75 P Q) : CN 43 D N Q := c.rows (o _ (by decide)).1 (o _ (by decide)).1 (o _ (by decide)).2
theorem rs_put {x y : Int64} {O U : Nat → Bool} (hx : ∀ i, i < 64 → bL x i = (decide (i < dN D) && O i)) (hy : ∀ i, i < 64 → bL y i = (decide (i < dN D) && U i)) (h : Nat) (b : Bool) : ∃ Q, Rs_put x y (nI h) (if b then 1 else 0) P = some Q ∧ RSt D O U h b Q ∧ only75 P Q := by
  refine ⟨sI (sI (sL (sL P 75 4 x) 75 5 y) 75 6 (nI h)) 75 7 (if b then 1 else 0), ?_, ⟨?_, ?_, ?_, ?_⟩, fun n a => ⟨?_, ?_⟩⟩
  · unfold Rs_put
    rw [Option.bind_some, Option.bind_some, Option.bind_some, gdb, Option.bind_some]
  · show ∀ i, i < 64 → bL ((sL (sL P 75 4 x) 75 5 y).2 75 4) i = _
    rw [rowL_s, pk_uLn (by decide), rowL_s, pk_uLs]
    exact hx
  · show ∀ i, i < 64 → bL ((sL (sL P 75 4 x) 75 5 y).2 75 5) i = _
    rw [rowL_s, pk_uLs]
    exact hy
  · rw [rowI_s, pk_un (by decide), rowI_s, pk_us]
  · rw [rowI_s, pk_us]; cases b <;> rfl
  · rw [rowI_o _ _ _ a, rowI_o _ _ _ a]; rfl
  · show (sL (sL P 75 4 x) 75 5 y).2 n = P.2 n
    rw [rowL_o _ _ _ a, rowL_o _ _ _ a]
theorem rs_behind (hD : WD D) (hN : WN D N) (hC : CD 3 D P) (hCN : CN 43 D N P) (ht : xT N = true) : ∃ Q, Rs_behind 43 P = some Q ∧ RSt D (lO D N (xIk N)) (lU D N (xIk N)) (xH N (xM N)) (ovN N (xM N)) Q ∧ only75 P Q := by
  obtain ⟨e3, -, e5, e6, e8, -⟩ := hCN.2.2.2.2.2 ht
  obtain ⟨⟨x, x1, x2⟩, y, y1, y2⟩ := open_bits (nd := 43) hC hCN (hN ht).1
  obtain ⟨Q, q1, q2, q3⟩ := rs_put (P := P) (O := lO D N (xIk N)) (U := lU D N (xIk N)) x2 y2 (xH N (xM N)) (ovN N (xM N))
  refine ⟨Q, ?_, q2, q3⟩
  have := (hN ht).2.2.1
  unfold Rs_behind
  rw [e3, x1, Option.bind_some, y1, Option.bind_some, ne_next hCN ht (by omega), Option.bind_some, e5, q1, Option.bind_some]
theorem mo_barsNow (hD : WD D) (hN : WN D N) (hR : RD D (P.1 88)) (hRN : RN D N (P.1 88)) (ht : xT N = true) : ∃ Q, Mo_barsNow P = some (nI (barsS D (lO D N (xIk N)) (lU D N (xIk N)) (xH N (xM N)) (ovN N (xM N))).1, Q) ∧ onlyB P Q ∧ Q.1 1 29 = enc (barsS D (lO D N (xIk N)) (lU D N (xIk N)) (xH N (xM N)) (ovN N (xM N))).2.1 ∧ Q.1 1 30 = enc (barsS D (lO D N (xIk N)) (lU D N (xIk N)) (xH N (xM N)) (ovN N (xM N))).2.2 := by
  obtain ⟨n1, n2, n3, -⟩ := hN ht
  obtain ⟨Q, e1, e2⟩ := mo_bars (N := N) hD hR hRN (WN.hole hD hN ht (xM N) (Nat.le_refl _)) n1 (ovN N (xM N))
  refine ⟨Q, ?_, e2⟩
  have r3 : P.1 88 (3 : Int32).toNatClampNeg = nI (xIk N) := (hRN.2.2.2 ht).1
  unfold Mo_barsNow
  rw [gd3, gd6, mo_hole hD hN hRN ht, Option.bind_some, mo_6 hRN ht, mo_isOver hRN ht (by omega), Option.bind_some, r3, e1, Option.bind_some]
theorem bars_last {O U : Nat → Bool} {h : Nat} {b : Bool} (q : (barsS D O U h b).1 ≠ 0) : (barsS D O U h b).2.2 = none := by
  unfold barsS at q ⊢
  cases ef : fsp (fun l => (O l || U l) && !cP (Cl D (fun l => O l || U l) h l)) (dN D) with
  | some l => rfl
  | none =>
    rw [ef] at q
    cases es : scn (fM D O U h b) 144 0 none with
    | mk bad last =>
      rw [es] at q
      cases bad with
      | none => exact absurd rfl q
      | some a => rfl
theorem bars_le (D : DT) (O U : Nat → Bool) (h : Nat) (b : Bool) : (barsS D O U h b).1 ≤ 2 := by
  unfold barsS
  cases ef : fsp (fun l => (O l || U l) && !cP (Cl D (fun l => O l || U l) h l)) (dN D) with
  | some l => show 1 ≤ 2; decide
  | none =>
    cases es : scn (fM D O U h b) 144 0 none with
    | mk bad last =>
      cases bad with
      | none => show 0 ≤ 2; decide
      | some a => show 2 ≤ 2; decide
theorem call_barred (h : INVx D N P) (v : Int32) : callQ (Bs_barred v P) (Mo_barred v) [ISE, IAE] P := by
  obtain ⟨hD, hN, hR, hRN, hC, hCN, hRest⟩ := id h
  have thr : ∀ t : Nat, 0 < t → t ≤ 2 → (∀ Q, INVx D N Q → Mo_barred v Q = Mo_barred_27 v (nI t) Q) → moI D N (Mo_barred v) (t, 0) := fun t t0 t2 hm => moI.thr (fun _ => 0) (fun Q hQ => by
    rw [hm Q hQ]
    unfold Mo_barred_27
    rw [Option.bind_some, at5, if_neg (show ¬ nI t ≤ (0 : Int32) from (show ¬ nI t ≤ nI 0 by rw [z_le (by omega) (by omega)]; omega))]) (fun q => absurd q (by omega))
  cases ht : xT N with
  | false =>
    refine ⟨(1, 0), P, by decide, ?_, moI.aft h (thr 1 (by decide) (by decide) (fun Q hQ => ?_))⟩
    · unfold Bs_barred; rw [ckThread hCN, ht]; rfl
    · unfold Mo_barred
      rw [mo_isThere hQ.2.2.2.1, ht, Option.bind_some, if_pos (by decide)]
      rfl
  | true =>
    rcases three v 2 (by decide) with o | ⟨j, hj, rfl⟩
    · refine ⟨(2, 0), P, by decide, ?_, moI.aft h (thr 2 (by decide) (by decide) (fun Q hQ => ?_))⟩
      · have a := ne_out (by decide) o
        unfold Bs_barred
        rw [ckThread hCN, ht]
        show (if v = 0 then Bs_barred_24 v P else if v = (1 : Int32) then Bs_barred_24 v P else some ((Sum.inl IAE, P))) = _
        rw [if_neg (show ¬ v = 0 from a 0 (by decide)), if_neg (show ¬ v = (1 : Int32) from a 1 (by decide))]
        rfl
      · unfold Mo_barred
        rw [mo_isThere hQ.2.2.2.1, ht, Option.bind_some, if_neg (by decide), w_out 1 1 (by decide) rfl (by decide) o, Option.bind_some, if_pos rfl]
        rfl
    · obtain ⟨Pa, a1, a2, a3⟩ := rs_behind hD hN hC hCN ht
      obtain ⟨P1, b1, b2, b3, b4, b5⟩ := rs_look hD (hC.keep75 a3) a2 (WN.hole hD hN ht (xM N) (Nat.le_refl _))
      have h1 : INVx D N P1 := h.scr (a3.tr b2.o).scr
      generalize hS : barsS D (lO D N (xIk N)) (lU D N (xIk N)) (xH N (xM N)) (ovN N (xM N)) = S at b3 b4 b5
      refine ⟨(0, if j = 0 then nI S.1 else enc S.2.1), P1, Nat.zero_le _, ?_, moI.aft h1 (fun Q hQ => ?_)⟩
      · unfold Bs_barred Bs_barred_24
        rw [ckThread hCN, ht]
        show (if nI j = 0 then (Rs_behind 43 P).bind _ else if nI j = (1 : Int32) then (Rs_behind 43 P).bind _ else some ((Sum.inl IAE, P))) = _
        rcases (show j = 0 ∨ j = 1 by omega) with rfl | rfl
        · rw [if_pos (by decide), a1, Option.bind_some, b1, Option.bind_some, b3]
          rfl
        · rw [if_neg (by decide), if_pos (by decide), a1, Option.bind_some, b1, Option.bind_some, b4]
          rfl
      · have q := hQ.s5 (nI 0)
        obtain ⟨Q', c1, c2, c3, c4⟩ := mo_barsNow (P := sI Q 1 5 (nI 0)) hD hN q.2.2.1 q.2.2.2.1 ht
        rw [hS] at c1 c3 c4
        refine ⟨if j = 0 then nI S.1 else enc S.2.1, Q', ?_, ?_, ((scr.rf Q).sI _ rfl).tr c2.scr, by rw [c2.2.2]; rfl, fun _ => rfl⟩
        · unfold Mo_barred Mo_barred_27
          rw [mo_isThere hQ.2.2.2.1, ht, Option.bind_some, if_neg (by decide), w_in 1 1 (by decide) rfl (by decide) hj, Option.bind_some, if_neg (by decide), Option.bind_some, if_pos (by rw [at5]; decide), show sI Q 1 5 (0 : Int32) = sI Q 1 5 (nI 0) from rfl, c1, Option.bind_some]
          rcases (show j = 0 ∨ j = 1 by omega) with rfl | rfl
          · rfl
          · rw [if_neg (by decide), c3]; rfl
        · rw [c2.2.1 5 (by decide) (by decide)]; exact at5 _ _
theorem call_ending (h : INVx D N P) : callQ (Bs_ending P) Mo_ending [ISE] P := by
  obtain ⟨hD, hN, hR, hRN, hC, hCN, hRest⟩ := id h
  cases ht : xT N with
  | false =>
    refine ⟨(1, 0), P, by decide, ?_, moI.aft h (moI.thr (fun _ => 0) (fun Q hQ => ?_) (fun q => absurd q (by decide)))⟩
    · unfold Bs_ending; rw [ckThread hCN, ht]; rfl
    · unfold Mo_ending Mo_ending_13
      rw [mo_isThere hQ.2.2.2.1, ht, Option.bind_some, if_pos (by decide), Option.bind_some, at5, if_neg (by decide)]
      rfl
  | true =>
    obtain ⟨Pa, a1, a2, a3⟩ := rs_behind hD hN hC hCN ht
    obtain ⟨P1, b1, b2, b3, b4, b5⟩ := rs_look hD (hC.keep75 a3) a2 (WN.hole hD hN ht (xM N) (Nat.le_refl _))
    have h1 : INVx D N P1 := h.scr (a3.tr b2.o).scr
    have hl := bars_last (D := D) (O := lO D N (xIk N)) (U := lU D N (xIk N)) (h := xH N (xM N)) (b := ovN N (xM N))
    have hle := bars_le D (lO D N (xIk N)) (lU D N (xIk N)) (xH N (xM N)) (ovN N (xM N))
    generalize hS : barsS D (lO D N (xIk N)) (lU D N (xIk N)) (xH N (xM N)) (ovN N (xM N)) = S at b3 b4 b5 hl hle
    refine ⟨(0, enc S.2.2), P1, Nat.zero_le _, ?_, moI.aft h1 (fun Q hQ => ?_)⟩
    · unfold Bs_ending
      rw [ckThread hCN, ht]
      show (Rs_behind 43 P).bind _ = _
      rw [a1, Option.bind_some, b1, Option.bind_some, b5]
      rfl
    · have q := hQ.s5 (nI 0)
      obtain ⟨Q', c1, c2, c3, c4⟩ := mo_barsNow (P := sI Q 1 5 (nI 0)) hD hN q.2.2.1 q.2.2.2.1 ht
      rw [hS] at c1 c3 c4
      refine ⟨enc S.2.2, Q', ?_, ?_, ((scr.rf Q).sI _ rfl).tr c2.scr, by rw [c2.2.2]; rfl, fun _ => rfl⟩
      · unfold Mo_ending Mo_ending_13
        rw [mo_isThere hQ.2.2.2.1, ht, Option.bind_some, if_neg (by decide), Option.bind_some, if_pos (by rw [at5]; decide), show sI Q 1 5 (0 : Int32) = sI Q 1 5 (nI 0) from rfl, c1, Option.bind_some]
        by_cases z : S.1 = 0
        · rw [if_pos (show nI S.1 = 0 by rw [z]; rfl), c4]
        · rw [if_neg (nI_ne0 (by omega) (by omega)), hl z]
          rfl
      · rw [c2.2.1 5 (by decide) (by decide)]; exact at5 _ _
end BRC
