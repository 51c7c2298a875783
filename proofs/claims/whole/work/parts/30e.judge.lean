/-! PERFORM AND JUDGE -/
section JDG
variable {D : DT} {N : NT} {P : PH}
theorem tf_out {v : Int32} (h : v < 0 ∨ nI 4 ≤ v) : Mo_trayFault v P = some (nI 1) := by
  unfold Mo_trayFault
  rw [isTray_out h, Option.bind_some, if_pos rfl]
  rfl
theorem tf_in {i : Nat} (hi : i < 4) (hRN : RN D N (P.1 88)) : Mo_trayFault (nI i) P = some (if xT N = true then (if P.1 108 i = m1 then nI 2 else nI 0) else nI 2) := by
  unfold Mo_trayFault
  rw [isTray_in hi, Option.bind_some, if_neg (by decide), mo_isThere hRN, Option.bind_some]
  cases xT N
  · rw [if_pos (by decide), if_neg (by decide)]
    rfl
  · rw [if_neg (by decide), if_pos rfl, z_gd hi (by decide), z_cl (by omega)]
    by_cases c : P.1 108 i = m1
    · rw [if_pos c, if_pos (show P.1 108 i = (-1 : Int32) from c)]; rfl
    · rw [if_neg c, if_neg (show ¬ P.1 108 i = (-1 : Int32) from c)]; rfl
theorem gkd {T : Type} {i : Nat} (hi : i < 4) (o : Option T) : gdP (kd (53 + 2 * i) = 8) o = o := if_pos (kd_tray i hi)
theorem call_perform (h : INVx D N P) (v : Int32) : callQ (Bs_perform v P) (Mo_perform v) [NSE, ISE] P := by
  obtain ⟨hD, hN, hR, hRN, hC, hCN, hT, hI, hTP, hA0, hA1⟩ := id h
  have h2 : ∀ (t : Nat), 0 < t → t ≤ 2 → (∀ Q, INVx D N Q → Mo_trayFault v Q = some (nI t)) → moI D N (Mo_perform v) (t, 0) := fun t t0 t2 hf => moI.thr (fun _ => 0) (fun Q hQ => by
    unfold Mo_perform
    rw [hf Q hQ, Option.bind_some, Option.bind_some, at5, if_neg (show ¬ nI t ≤ (0 : Int32) from (show ¬ nI t ≤ nI 0 by rw [z_le (by omega) (by omega)]; omega))]) (fun q => absurd q (by omega))
  rcases three v 4 (by decide) with o | ⟨i, hi, rfl⟩
  · refine ⟨(1, 0), P, by decide, ?_, moI.aft h (h2 1 (by decide) (by decide) (fun Q _ => tf_out o))⟩
    unfold Bs_perform; rw [ckTray_out o]; rfl
  · cases ht : xT N with
    | false =>
      refine ⟨(2, 0), P, by decide, ?_, moI.aft h (h2 2 (by decide) (by decide) (fun Q hQ => by rw [tf_in hi hQ.2.2.2.1, ht]; rfl))⟩
      unfold Bs_perform
      rw [ckTray_in hi, Option.bind_some]
      show gdP (kd (53 + 2 * i) = 8) _ = _
      rw [gkd hi, ckThread hCN, ht]
      rfl
    | true =>
      rcases hT i hi with ⟨t1, t2⟩ | ⟨s, M, hs, hM, t1, t2, t3, t4, t5, t6⟩
      · refine ⟨(2, 0), P, by decide, ?_, fun P2 hP2 => ?_⟩
        · unfold Bs_perform Bs_checkThere
          rw [ckTray_in hi, Option.bind_some]
          show gdP (kd (53 + 2 * i) = 8) _ = _
          rw [gkd hi, ckThread hCN, ht]
          show (if P.1 (53 + 2 * i) 0 = 0 then some (Sum.inl ISE) else some (Sum.inr ())).bind _ = _
          rw [if_pos (by rw [t2]; rfl)]
          rfl
        · refine ⟨0, sI P2 1 5 (nI 2), ?_, at5 _ _, rfl, fun q => absurd q (by decide), D, N, h.scr (hP2.scr.sI _ rfl)⟩
          unfold Mo_perform
          rw [tf_in hi (by rw [hP2.1]; exact hRN), if_pos ht, if_pos (by rw [hP2.1]; exact t1), Option.bind_some, Option.bind_some, at5, if_neg (by decide)]
      · obtain ⟨P1, e1, e2, e3⟩ := cls_run (cd := fun k => wyO (P.2 (53 + 2 * i + 1) k)) apt43 (by decide) rfl hi hM hD M 0 bigN N P (by omega) (big_gt (by omega)) hN hC hCN ht t4 (fun _ _ => rfl)
        obtain ⟨w1, w2, w3, w4⟩ := run_ok hD (cd := fun k => wyO (P.2 (53 + 2 * i + 1) k)) (fun k w q => wyO_lt w q) M 0 N hN ht
        refine ⟨(0, nI (runW D (fun k => wyO (P.2 (53 + 2 * i + 1) k)) M 0 N).1), P1, Nat.zero_le _, ?_, fun P2 hP2 => ?_⟩
        · unfold Bs_perform Bs_checkThere
          rw [ckTray_in hi, Option.bind_some]
          show gdP (kd (53 + 2 * i) = 8) _ = _
          rw [gkd hi, ckThread hCN, ht]
          show (if P.1 (53 + 2 * i) 0 = 0 then some (Sum.inl ISE) else some (Sum.inr ())).bind _ = _
          rw [if_neg (by rw [t2]; decide)]
          show (Bs_goBy 43 (53 + 2 * i) P).bind _ = _
          unfold Bs_goBy
          rw [show (0 : Int32) = nI 0 from rfl, e1]
          rfl
        · have p109 : (sI P2 1 5 (nI 0)).1 109 i = nI M := by rw [off5 _ _ (by decide), hP2.1, e3.1 109 (by decide) (by decide)]; exact t3
          have p110 : ∀ k, k < 40 → wyO ((sI P2 1 5 (nI 0)).2 110 (40 * i + k)) = wyO (P.2 (53 + 2 * i + 1) k) := fun k hk => by
            show wyO (P2.2 110 (40 * i + k)) = _
            rw [hP2.2 110 (by decide), e3.2 110 (by decide), ← t6 k hk, show 54 + 2 * i = 53 + 2 * i + 1 by omega]
          have x88 : (sI P2 1 5 (nI 0)).1 88 = P.1 88 := row88 e3 hP2
          obtain ⟨Q, f1, f2, f3, f4⟩ := mo_run hi hM hD M 0 bigN N (sI P2 1 5 (nI 0)) (by omega) (big_gt (by omega)) hN (by rw [x88]; exact hR) (by rw [x88]; exact hRN) ht p109 p110
          obtain ⟨i1, i2, i3⟩ := two_steps h w1 e2 e3 hP2 f2 f3 f4
          refine ⟨_, Q, ?_, i2, i3, fun _ => rfl, i1⟩
          unfold Mo_perform
          rw [tf_in hi (by rw [hP2.1, e3.1 88 (by decide) (by decide)]; exact hRN), if_pos ht, if_neg (by rw [hP2.1, e3.1 108 (by decide) (by decide), t1]; exact nI_nm (by omega)), Option.bind_some, Option.bind_some, at5, if_pos (by decide)]
          unfold Mo_goesBy
          rw [show (0 : Int32) = nI 0 from rfl, f1]
          rfl
theorem mo_copies {a b : Nat} (hab : a ≠ b) : ∀ (m k n : Nat) (P : PH), k + m = 512 → m < n → (∀ j, j < k → P.1 b j = P.1 a j) → ∃ Q, Mo_copies_2 a b n (nI k) P = some Q ∧ Q.2 = P.2 ∧ (∀ c, c ≠ b → Q.1 c = P.1 c) ∧ ∀ j, j < 512 → Q.1 b j = P.1 a j := by
  intro m
  induction m with
  | zero =>
    intro k n P hk hn h
    obtain ⟨n, rfl⟩ : ∃ q, n = q + 1 := ⟨n - 1, by omega⟩
    obtain rfl : k = 512 := by omega
    refine ⟨P, ?_, rfl, fun _ _ => rfl, h⟩
    unfold Mo_copies_2
    rw [if_pos (by decide)]
  | succ m ih =>
    intro k n P hk hn h
    obtain ⟨n, rfl⟩ : ∃ q, n = q + 1 := ⟨n - 1, by omega⟩
    have hk5 : k < 512 := by omega
    obtain ⟨Q, e1, e2, e3, e4⟩ := ih (k + 1) n (sI P b k (P.1 a k)) (by omega) (by omega) (fun j hj => by
      rw [rowI_s, rowI_o _ _ _ hab]
      by_cases q : j = k
      · rw [q, pk_us]
      · rw [pk_un q]; exact h j (by omega))
    refine ⟨Q, ?_, e2, fun c hc => by rw [e3 c hc, rowI_o _ _ _ hc], fun j hj => by rw [e4 j hj, rowI_o _ _ _ hab]⟩
    unfold Mo_copies_2
    rw [if_neg (show ¬ (512 : Int32) ≤ nI k from (show ¬ nI 512 ≤ nI k from nI_ge hk5 (by decide))), z_gd hk5 (by decide), z_gd hk5 (by decide), z_cl (by omega), Option.bind_some, show nI k + 1 = nI (k + 1) from nI_1 _]
    exact e1
theorem apt45 : apt 45 := fun j hj => by show 3 + j ≠ 45 ∧ 3 + j ≠ 46; omega
theorem iR45 (k : Nat) : iR 45 k = false ∧ iR 46 k = false := ⟨rfl, rfl⟩
theorem onlyN.s45 {P Q : PH} (h : onlyN 45 P Q) : scr P Q := ⟨fun n k q => by rw [h.1 n (fun z => by rw [z] at q; cases q) (fun z => by rw [z] at q; cases q)], fun n k q => by rw [h.2 n (fun z => by rw [z] at q; cases q)]⟩
theorem ans_100 {r hl lf : Nat} {j s0 : Nat} {b : Bool} {Q Q' : PH} (h1 : Mo_hole Q = some (nI hl)) (h2 : (gdI (3 : Int32) 512 : Option (Int32 × PH) → Option (Int32 × PH)) = fun o => o) (h3 : Mo_leftOf (Q.1 88 (3 : Int32).toNatClampNeg) Q = some (nI lf)) (h4 : Mo_copies 91 88 Q = some Q') (hj : j < 4) :
    Mo_judge_100 (nI j) (nI r) (if b then 1 else 0) (nI s0) Q = some (if j = 0 then (if b then m1 else nI r) else if j = 1 then nI s0 else if j = 2 then nI hl else nI lf, Q') := by
  unfold Mo_judge_100
  rw [h1, Option.bind_some, h2]
  show (Mo_leftOf (Q.1 88 (3 : Int32).toNatClampNeg) Q).bind _ = _
  rw [h3, Option.bind_some, h4, Option.bind_some]
  rcases (show j = 0 ∨ j = 1 ∨ j = 2 ∨ j = 3 by omega) with rfl | rfl | rfl | rfl
  · cases b <;> rfl
  · rfl
  · rfl
  · rfl
theorem call_judge (h : INVx D N P) (v v2 : Int32) : callQ (Bs_judge v v2 P) (Mo_judge v v2) [NSE, ISE, IAE] P := by
  obtain ⟨hD, hN, hR, hRN, hC, hCN, hT, hI, hTP, hA0, hA1⟩ := id h
  have h60 := hD.1
  have h33 : ∀ (t : Nat) (Q : PH), 0 < t → t ≤ 3 → Mo_judge_33 v v2 (sI Q 1 5 (nI t)) = some ((0 : Int32), sI Q 1 5 (nI t)) := fun t Q t0 t2 => by
    unfold Mo_judge_33
    rw [at5, if_neg (show ¬ nI t ≤ (0 : Int32) from (show ¬ nI t ≤ nI 0 by rw [z_le (by omega) (by omega)]; omega))]
  have bad : ∀ (t : Nat) (P2 : PH), 0 < t → t ≤ 2 → Mo_trayFault v P2 = some (nI t) → Mo_judge v v2 P2 = some ((0 : Int32), sI P2 1 5 (nI t)) := fun t P2 t0 t2 hf => by
    unfold Mo_judge
    rw [hf, Option.bind_some, Option.bind_some, at5, if_neg (nI_ne0 (by omega) (by omega)), h33 t P2 t0 (by omega)]
  have out : ∀ (t : Nat) (P2 : PH), out2 P P2 → INV (sI P2 1 5 (nI t)) := fun t P2 hP2 => ⟨D, N, h.scr (hP2.scr.sI _ rfl)⟩
  rcases three v 4 (by decide) with o | ⟨i, hi, rfl⟩
  · refine ⟨(1, 0), P, by decide, ?_, fun P2 hP2 => ⟨0, _, bad 1 P2 (by decide) (by decide) (tf_out o), at5 _ _, rfl, fun q => absurd q (by decide), out 1 P2 hP2⟩⟩
    unfold Bs_judge; rw [ckTray_out o]; rfl
  · cases ht : xT N with
    | false =>
      refine ⟨(2, 0), P, by decide, ?_, fun P2 hP2 => ⟨0, _, bad 2 P2 (by decide) (by decide) (by rw [tf_in hi (by rw [hP2.1]; exact hRN), ht]; rfl), at5 _ _, rfl, fun q => absurd q (by decide), out 2 P2 hP2⟩⟩
      unfold Bs_judge
      rw [ckTray_in hi, Option.bind_some]
      show gdP (kd (53 + 2 * i) = 8) _ = _
      rw [gkd hi, ckThread hCN, ht]
      rfl
    | true =>
      rcases hT i hi with ⟨t1, t2⟩ | ⟨s, M, hs, hM, t1, t2, t3, t4, t5, t6⟩
      · refine ⟨(2, 0), P, by decide, ?_, fun P2 hP2 => ⟨0, _, bad 2 P2 (by decide) (by decide) (by rw [tf_in hi (by rw [hP2.1]; exact hRN), if_pos ht, if_pos (by rw [hP2.1]; exact t1)]), at5 _ _, rfl, fun q => absurd q (by decide), out 2 P2 hP2⟩⟩
        unfold Bs_judge Bs_checkThere
        rw [ckTray_in hi, Option.bind_some]
        show gdP (kd (53 + 2 * i) = 8) _ = _
        rw [gkd hi, ckThread hCN, ht]
        show (if P.1 (53 + 2 * i) 0 = 0 then some (Sum.inl ISE) else some (Sum.inr ())).bind _ = _
        rw [if_pos (by rw [t2]; rfl)]
        rfl
      · have tf0 : ∀ P2 : PH, P2.1 88 = P.1 88 → P2.1 108 = P.1 108 → Mo_trayFault (nI i) P2 = some (nI 0) := fun P2 a b => by
          rw [tf_in hi (by rw [a]; exact hRN), if_pos ht, if_neg (by rw [b, t1]; exact nI_nm (by omega))]
        have up : ∀ Z, (if v2 < 0 then Bs_judge_23 P else if v2 ≤ (3 : Int32) then (Ne_copy 45 43 P).bind fun (x41 : PH) => (Bs_goBy 45 (53 + 2 * i) x41).bind fun (x49 : Int32 × PH) =>
              if v2 = 0 then (if (x49.2.1 (53 + 2 * i) 1) ≤ x49.1 then some (Sum.inr (-1 : Int32), x49.2) else some (Sum.inr (x49.1), x49.2))
              else if v2 = 1 then (if (x49.2.1 (53 + 2 * i) 1) ≤ x49.1 then some (Sum.inr (0 : Int32), x49.2) else (Tr_wayAt (53 + 2 * i) x49.1 x49.2).bind fun (x112 : Int32) => (Ne_hindrance 45 x112 x49.2).bind fun (x115 : Int32) => some (Sum.inr x115, x49.2))
              else if v2 = 2 then some (Sum.inr (x49.2.1 45 5), x49.2) else (Ne_stillOpen 45 x49.2).bind fun (x135 : Int32) => some (Sum.inr x135, x49.2)
            else Bs_judge_23 P) = Z → Bs_judge (nI i) v2 P = Z := by
          intro Z hZ
          unfold Bs_judge Bs_checkThere
          rw [ckTray_in hi, Option.bind_some]
          show gdP (kd (53 + 2 * i) = 8) _ = _
          rw [gkd hi, ckThread hCN, ht]
          show (if P.1 (53 + 2 * i) 0 = 0 then some (Sum.inl ISE) else some (Sum.inr ())).bind _ = _
          rw [if_neg (by rw [t2]; decide)]
          exact hZ
        rcases three v2 4 (by decide) with o2 | ⟨j, hj, rfl⟩
        · refine ⟨(3, 0), P, by decide, up _ ?_, fun P2 hP2 => ⟨0, sI P2 1 5 (nI 3), ?_, at5 _ _, rfl, fun q => absurd q (by decide), out 3 P2 hP2⟩⟩
          · unfold Bs_judge_23
            rcases o2 with o | o
            · rw [if_pos o]; rfl
            · rw [if_neg (big_not (by decide) o).1, if_neg (show ¬ v2 ≤ (3 : Int32) from fun q => by
                rw [fa_le] at o q
                rw [nI_toInt (by decide)] at o
                rw [show (3 : Int32).toInt = 3 by decide] at q
                omega)]
              rfl
          · unfold Mo_judge
            rw [tf0 P2 (by rw [hP2.1]) (by rw [hP2.1]), Option.bind_some, Option.bind_some, at5, if_pos (by decide), w_out 3 3 (by decide) rfl (by decide) o2, Option.bind_some, if_pos rfl, Option.bind_some, sI2, show (3 : Int32) = nI 3 from rfl, h33 3 P2 (by decide) (by decide)]
        · obtain ⟨Pa, a1, a2, a3⟩ := ne_copy (t := 45) (v := 43) (by omega) hN hCN
          have hCa : CD 3 D Pa := hC.only (nd := 45) apt45 a3
          have hcd : ∀ k, k < 40 → wyO (Pa.2 (53 + 2 * i + 1) k) = wyO (P.2 (53 + 2 * i + 1) k) := fun k _ => by rw [a3.2 _ (by omega)]
          obtain ⟨P1, e1, e2, e3⟩ := cls_run (cd := fun k => wyO (P.2 (53 + 2 * i + 1) k)) apt45 (by decide) rfl hi hM hD M 0 bigN N Pa (by omega) (big_gt (by omega)) hN hCa a2 ht (by rw [a3.1 _ (by omega) (by omega)]; exact t4) hcd
          obtain ⟨w1, w2, w3, w4⟩ := run_ok hD (cd := fun k => wyO (P.2 (53 + 2 * i + 1) k)) (fun k w q => wyO_lt w q) M 0 N hN ht
          have hC1 : CD 3 D P1 := hCa.only (nd := 45) apt45 e3
          have o1 : onlyN 45 P P1 := a3.tr e3
          have m1' : P1.1 (53 + 2 * i) 1 = nI M := by rw [o1.1 _ (by omega) (by omega)]; exact t4
          have cd1 : ∀ k, wyO (P1.2 (53 + 2 * i + 1) k) = wyO (P.2 (53 + 2 * i + 1) k) := fun k => by rw [o1.2 _ (by omega)]
          have eh := (e2.2.2.2.2.2 w2).2.2.1
          have es := ne_still (nd := 45) hD w1 hC1 e2 w2
          generalize hrun : runW D (fun k => wyO (P.2 (53 + 2 * i + 1) k)) M 0 N = rr at *
          obtain ⟨r, N'⟩ := rr
          have w1 : WN D N' := w1
          have w2 : xT N' = true := w2
          have w3 : r ≤ 0 + M := w3
          have w4 : r < 0 + M → rsn D N' (wyO (P.2 (53 + 2 * i + 1) r)) ≠ 0 := w4
          have e2 : CN 45 D N' P1 := e2
          refine ⟨(0, if j = 0 then (if decide (M ≤ r) then m1 else nI r) else if j = 1 then (if decide (M ≤ r) then nI 0 else nI (rsn D N' (wyO (P.2 (53 + 2 * i + 1) r)))) else if j = 2 then nI (xH N' (xM N')) else nI (lft D N' (xIk N') (dN D))), P1, Nat.zero_le _, up _ ?_, fun P2 hP2 => ?_⟩
          · rw [if_neg (nI_pos (by omega)), if_pos (show nI j ≤ (3 : Int32) from (show nI j ≤ nI 3 by rw [z_le (by omega) (by omega)]; omega)), a1, Option.bind_some]
            unfold Bs_goBy
            rw [show Bs_goBy_2 45 (53 + 2 * i) bigN (0 : Int32) Pa = some (nI r, P1) from e1, Option.bind_some, m1']
            by_cases c : M ≤ r
            · have cI : nI M ≤ nI r := by rw [z_le (by omega) (by omega)]; exact c
              rw [if_pos cI, if_pos cI, decide_eq_true c]
              rcases (show j = 0 ∨ j = 1 ∨ j = 2 ∨ j = 3 by omega) with rfl | rfl | rfl | rfl
              · rfl
              · rfl
              · rw [if_neg (by decide), if_neg (by decide), if_pos (by decide), eh]; rfl
              · rw [if_neg (by decide), if_neg (by decide), if_neg (by decide), es]; rfl
            · have cI : ¬ nI M ≤ nI r := by rw [z_le (by omega) (by omega)]; exact c
              have nh : Ne_hindrance 45 (enc (wyO (P.2 (53 + 2 * i + 1) r))) P1 = some (nI (rsn D N' (wyO (P.2 (53 + 2 * i + 1) r)))) := ne_hind (nd := 45) hD hC1 w1 e2 _ _ (lineBy_o hD hC1 (fun w q => wyO_lt w q))
              rw [if_neg cI, if_neg cI, decide_eq_false c, wayAt (show r < 40 by omega), cd1, Option.bind_some, nh, Option.bind_some]
              rcases (show j = 0 ∨ j = 1 ∨ j = 2 ∨ j = 3 by omega) with rfl | rfl | rfl | rfl
              · rfl
              · rfl
              · rw [if_neg (by decide), if_neg (by decide), if_pos (by decide), eh]; rfl
              · rw [if_neg (by decide), if_neg (by decide), if_neg (by decide), es]; rfl
          · have sA : scr P P1 := o1.s45
            have sB : scr P1 (sI P2 1 5 (nI 0)) := hP2.scr.sI _ rfl
            have hQ0 := (h.scr sA).scr sB
            obtain ⟨Q1, b1, b2, b3, b4⟩ := mo_copies (a := 88) (b := 91) (by decide) 512 0 bigN (sI P2 1 5 (nI 0)) rfl (big_gt (by omega)) (fun j hj => by omega)
            have x88 : Q1.1 88 = (sI P2 1 5 (nI 0)).1 88 := b3 88 (by decide)
            have p109 : Q1.1 109 i = nI M := by rw [b3 109 (by decide), off5 _ _ (by decide), hP2.1, o1.1 109 (by decide) (by decide)]; exact t3
            have p110 : ∀ k, k < 40 → wyO (Q1.2 110 (40 * i + k)) = wyO (P.2 (53 + 2 * i + 1) k) := fun k hk => by
              rw [b2]
              show wyO (P2.2 110 (40 * i + k)) = _
              rw [hP2.2 110 (by decide), o1.2 110 (by decide), ← t6 k hk, show 54 + 2 * i = 53 + 2 * i + 1 by omega]
            obtain ⟨Q2, f1, f2, f3, f4⟩ := mo_run hi hM hD M 0 bigN N Q1 (by omega) (big_gt (by omega)) hN (by rw [x88]; exact hQ0.2.2.1) (by rw [x88]; exact hQ0.2.2.2.1) ht p109 p110
            rw [hrun] at f1 f3
            have f1 : Mo_goesBy_2 (nI i) bigN (nI 0) Q1 = some (nI r, Q2) := f1
            have f3 : RN D N' (Q2.1 88) := f3
            obtain ⟨Q3, g1, g2, g3, g4⟩ := mo_copies (a := 91) (b := 88) (by decide) 512 0 bigN Q2 rfl (big_gt (by omega)) (fun j hj => by omega)
            have ei : ∀ k, k < 512 → Q3.1 88 k = (sI P2 1 5 (nI 0)).1 88 k := fun k hk => by rw [g4 k hk, f4.1 91 (by decide), b4 k hk]
            have q1 : ∀ n, n ≠ 88 → n ≠ 91 → Q3.1 n = (sI P2 1 5 (nI 0)).1 n := fun n a b => by rw [g3 n a, f4.1 n a, b3 n b]
            have q2 : Q3.2 = (sI P2 1 5 (nI 0)).2 := by rw [g2, f4.2, b2]
            have sQ : scrW (sI P2 1 5 (nI 0)) Q3 := ⟨fun n k q => by
              rw [q1 n (fun z => by rw [z] at q; unfold wR at q; simp at q) (fun z => by rw [z] at q; cases q)], fun n k q => by rw [q2]⟩
            have hh := mo_hole hD w1 f3 w2
            have hlf : Mo_leftOf (Q2.1 88 (3 : Int32).toNatClampNeg) Q2 = some (nI (lft D N' (xIk N') (dN D))) := by
              rw [show Q2.1 88 (3 : Int32).toNatClampNeg = nI (xIk N') from (f3.2.2.2 w2).1]
              exact mo_leftOf hD f2 f3 (w1 w2).1
            have hcp : Mo_copies 91 88 Q2 = some Q3 := g1
            refine ⟨_, Q3, ?_, ?_, ?_, fun _ => rfl, D, N, INVx.of hD hN (hQ0.2.2.1.cp hD ei) (hQ0.2.2.2.1.cp hD hN ei) ?_ ?_ (hQ0.rest.keep sQ)⟩
            · unfold Mo_judge
              rw [tf0 P2 (by rw [hP2.1, o1.1 88 (by decide) (by decide)]) (by rw [hP2.1, o1.1 108 (by decide) (by decide)]), Option.bind_some, Option.bind_some, at5, if_pos (by decide), w_in 3 3 (by decide) rfl (by decide) hj, Option.bind_some, if_neg (by decide)]
              unfold Mo_judge_33 Mo_goesBy
              rw [at5, if_pos (by decide), show Mo_copies 88 91 (sI P2 1 5 (nI 0)) = some Q1 from b1, Option.bind_some, show Mo_goesBy_2 (nI i) bigN (0 : Int32) Q1 = some (nI r, Q2) from f1, Option.bind_some, z_gd hi (by decide), z_cl (show i < 2147483648 by omega), show Q2.1 109 i = nI M from by rw [f4.1 109 (by decide)]; exact p109]
              unfold Mo_judge_74
              by_cases c : M ≤ r
              · rw [if_pos (show nI r = nI M by rw [show r = M by omega]), if_neg (by decide), decide_eq_true c]
                have := ans_100 (r := r) (j := j) (s0 := 0) (b := true) hh gd3 hlf hcp hj
                exact this
              · have e40 : ((40 : Int32) * nI i) + nI r = nI (40 * i + r) := by rw [show (40 : Int32) = nI 40 from rfl, pk_mul, nI_add]
                have hw := mo_whyNot_c (P := Q2) hD w1 f2 f3 (Q2.2 110 (40 * i + r))
                rw [show wyO (Q2.2 110 (40 * i + r)) = wyO (P.2 (53 + 2 * i + 1) r) from by rw [f4.2]; exact p110 r (by omega)] at hw
                rw [if_neg (show ¬ nI r = nI M by rw [z_eq (by omega) (by omega)]; omega), if_pos (by decide), e40, z_gd (show 40 * i + r < 160 by omega) (by decide), z_cl (show 40 * i + r < 2147483648 by omega), hw, Option.bind_some, decide_eq_false c]
                have := ans_100 (r := r) (j := j) (s0 := rsn D N' (wyO (P.2 (53 + 2 * i + 1) r))) (b := false) hh gd3 hlf hcp hj
                exact this
            · rw [q1 1 (by decide) (by decide)]; exact at5 _ _
            · rw [q2]; rfl
            · exact hQ0.2.2.2.2.1.keep (q1 _ (by decide) (by decide)) (q1 _ (by decide) (by decide)) (q1 _ (by decide) (by decide)) (q1 _ (by decide) (by decide)) (q1 _ (by decide) (by decide)) (by rw [q2]) (by rw [q2]) (q1 _ (by decide) (by decide))
            · exact hQ0.2.2.2.2.2.1.rows (q1 _ (by decide) (by decide)) (q1 _ (by decide) (by decide)) (by rw [q2])
end JDG
