/-! CUT, UNPICK, THREAD, DONE, LEFT -/
section TC3
variable {D : DT} {N : NT} {P : PH}
theorem gd6 {T : Type} : (gdI (6 : Int32) 512 : Option T → Option T) = fun o => o := gdf 6 512 (by decide) (by decide)
theorem gd3 {T : Type} : (gdI (3 : Int32) 512 : Option T → Option T) = fun o => o := gdf 3 512 (by decide) (by decide)
theorem gd4 {T : Type} : (gdI (4 : Int32) 512 : Option T → Option T) = fun o => o := gdf 4 512 (by decide) (by decide)
theorem gd2 {T : Type} : (gdI (2 : Int32) 512 : Option T → Option T) = fun o => o := gdf 2 512 (by decide) (by decide)
theorem gd_1 {T : Type} : (gdI (1 : Int32) 512 : Option T → Option T) = fun o => o := gdf 1 512 (by decide) (by decide)
theorem gd_0 {T : Type} : (gdI (0 : Int32) 512 : Option T → Option T) = fun o => o := gdf 0 512 (by decide) (by decide)
theorem call_cut (h : INVx D N P) : callQ (Bs_cut P) Mo_cut [ISE] P := by
  obtain ⟨hD, hN, hR, hRN, hC, hCN, hRest⟩ := id h
  cases ht : xT N with
  | false =>
    refine ⟨(1, 0), P, by decide, ?_, moI.aft h (moI.thr (fun _ => 0) (fun Q hQ => ?_) (fun q => absurd q (by decide)))⟩
    · unfold Bs_cut; rw [ckThread hCN, ht]; rfl
    · unfold Mo_cut Mo_cut_13
      rw [mo_isThere hQ.2.2.2.1, ht]
      simp only [Option.bind_some, Bool.false_eq_true, if_false, if_true, at5, le10]
      rfl
  | true =>
    have h60 := hD.1
    obtain ⟨e3, e4, e5, e6, e8, e9⟩ := hCN.2.2.2.2.2 ht
    obtain ⟨P1, hP1⟩ : ∃ P1, P1 = sI (sI P 43 2 0) 43 7 (P.1 43 7 + 1) := ⟨_, rfl⟩
    have g3 : onlyN 43 P P1 := by rw [hP1]; exact ((onlyN.rf 43 P).i0 _ _).i0 _ _
    have hN' : WN D (ctN N) := fun q => absurd q (by simp [ctN])
    have hC' : CN 43 D (ctN N) P1 := by
      obtain ⟨c1, c2, c3, c4, c5, -⟩ := hCN
      rw [hP1]
      refine ⟨c1, c2, ?_, ?_, ?_, fun q => absurd q (by simp [ctN])⟩
      · rw [rowI_s, pk_un (by decide), rowI_s, pk_us]; rfl
      · rw [rowI_s, pk_us, c4]; rfl
      · rw [rowI_s, pk_un (by decide), rowI_s, pk_un (by decide)]; exact c5
    refine ⟨(0, nI (xM N)), P1, Nat.zero_le _, ?_, fun P2 hP2 => ?_⟩
    · unfold Bs_cut Ne_snip
      rw [ckThread hCN, ht]
      simp only [Option.bind_some, if_true, Sum.elim_inr, gd0, gq0, rowI_s]
      rw [pk_un (show (7 : Nat) ≠ 2 by decide), pk_un (show (6 : Nat) ≠ 7 by decide), pk_un (show (6 : Nat) ≠ 2 by decide), e6, hP1]
      rfl
    · have e88 := row88 (v := 0) g3 hP2
      obtain ⟨Q, hQ⟩ : ∃ Q, Q = sI (sI (sI P2 1 5 0) 88 1 (xC N + 1)) 88 2 0 := ⟨_, rfl⟩
      have f4 : only88 (sI P2 1 5 0) Q := by rw [hQ]; exact ((only88.rf _).s _ _).s _ _
      have e9' : Q.1 88 = upd (upd (P.1 88) 1 (xC N + 1)) 2 0 := by rw [hQ]; simp only [s88, e88]
      have f2 : RD D (Q.1 88) := by
        rw [e9']
        exact (hR.upd h60 (Or.inl (by omega))).upd h60 (Or.inl (by omega))
      have f3 : RN D (ctN N) (Q.1 88) := by
        rw [e9']
        refine ⟨fun i hi => ?_, ?_, ?_, fun q => absurd q (by simp [ctN])⟩
        · rw [pk_un (by omega), pk_un (by omega)]; exact hRN.1 i hi
        · rw [pk_un (by decide), pk_us]; rfl
        · rw [pk_us]; rfl
      obtain ⟨q1, q2, q3⟩ := two_steps h hN' hC' g3 hP2 f2 f3 f4
      refine ⟨nI (xM N), Q, ?_, q2, q3, fun _ => rfl, q1⟩
      unfold Mo_cut Mo_cut_13
      have rr : RN D N (P2.1 88) := by rw [hP2.1, g3.1 88 (by decide) (by decide)]; exact hRN
      rw [mo_isThere rr, ht]
      simp only [Option.bind_some, if_true, nz1, if_false, at5, le00, gd_1, gd2, gd6]
      have r1 : (sI P2 1 5 0).1 88 (1 : Int32).toNatClampNeg = xC N := by rw [e88]; exact hRN.2.1
      rw [r1]
      have r6 : Q.1 88 6 = nI (xM N) := by
        rw [e9', pk_un (by decide), pk_un (by decide)]
        exact (hRN.2.2.2 ht).2.2.2.1
      rw [← r6, hQ]
      rfl
theorem bk1_M (hN : WN D N) (ht : xT N = true) (h0 : 0 < xM N) : ∃ l, lnA D (xH N (xM N - 1)) (xD N (xM N - 1)) = some l ∧ bk1 D N = bkN N l := by
  obtain ⟨a, l, b, -⟩ := (hN ht).2.2.2.1 (xM N - 1) (by omega)
  exact ⟨l, b, by unfold bk1; rw [b]⟩
theorem ne_backs (hD : WD D) : ∀ (m : Nat) (N : NT) (P : PH) (k t n : Nat), k + m = t → t < 1000 → m < n → m ≤ xM N → WN D N → xT N = true → CD 3 D P → CN 43 D N P → ∃ Q, Bs_unpick_31 (nI t) n (nI k) P = some (.inr (nI (xM (bkIt D m N))), Q) ∧ CN 43 D (bkIt D m N) Q ∧ onlyN 43 P Q ∧ WN D (bkIt D m N) ∧ xT (bkIt D m N) = true
  | 0, N, P, k, t, n, hk, h9, hn, hm, hN, ht, hC, hCN => by
    obtain ⟨n, rfl⟩ : ∃ q, n = q + 1 := ⟨n - 1, by omega⟩
    obtain rfl : k = t := by omega
    refine ⟨P, ?_, hCN, onlyN.rf 43 P, hN, ht⟩
    unfold Bs_unpick_31
    rw [if_pos (by rw [z_le (by omega) (by omega)]; exact Nat.le_refl _), (hCN.2.2.2.2.2 ht).2.2.2.1]
    rfl
  | m + 1, N, P, k, t, n, hk, h9, hn, hm, hN, ht, hC, hCN => by
    obtain ⟨n, rfl⟩ : ∃ q, n = q + 1 := ⟨n - 1, by omega⟩
    obtain ⟨l, e, eb⟩ := bk1_M hN ht (by omega)
    obtain ⟨P1, g1, g2, g3⟩ := ne_back (nd := 43) apt43 hD hC hN hCN ht (by omega) e
    have hC1 : CD 3 D P1 := hC.only (nd := 43) apt43 g3
    obtain ⟨Q, f1, f2, f3, f4, f5⟩ := ne_backs hD m (bkN N l) P1 (k + 1) t n (by omega) h9 (by omega) (by show m ≤ xM N - 1; omega) (WN.bk hD hN ht (by omega) e) ht hC1 g2
    refine ⟨Q, ?_, ?_, g3.tr f3, ?_, ?_⟩
    · unfold Bs_unpick_31
      rw [if_neg (by rw [z_le (by omega) (by omega)]; omega), g1]
      simp only [Option.bind_some]
      rw [show nI k + 1 = nI (k + 1) from nI_1 _, f1]
      rw [show bkIt D (m + 1) N = bkIt D m (bk1 D N) from rfl, eb]
    · show CN 43 D (bkIt D m (bk1 D N)) Q
      rw [eb]; exact f2
    · show WN D (bkIt D m (bk1 D N))
      rw [eb]; exact f4
    · show xT (bkIt D m (bk1 D N)) = true
      rw [eb]; exact f5
theorem mo_backsL (hD : WD D) : ∀ (m : Nat) (N : NT) (P : PH) (k t n : Nat), k + m = t → t < 1000 → m < n → m ≤ xM N → WN D N → xT N = true → RD D (P.1 88) → RN D N (P.1 88) → ∃ Q, Mo_unpick_48 (nI t) n (nI k) P = some (nI (xM (bkIt D m N)), Q) ∧ RD D (Q.1 88) ∧ RN D (bkIt D m N) (Q.1 88) ∧ only88 P Q
  | 0, N, P, k, t, n, hk, h9, hn, hm, hN, ht, hR, hRN => by
    obtain ⟨n, rfl⟩ : ∃ q, n = q + 1 := ⟨n - 1, by omega⟩
    obtain rfl : k = t := by omega
    refine ⟨P, ?_, hR, hRN, only88.rf P⟩
    unfold Mo_unpick_48
    rw [if_pos (by rw [z_le (by omega) (by omega)]; exact Nat.le_refl _), gd6, mo_6 hRN ht]
    rfl
  | m + 1, N, P, k, t, n, hk, h9, hn, hm, hN, ht, hR, hRN => by
    obtain ⟨n, rfl⟩ : ∃ q, n = q + 1 := ⟨n - 1, by omega⟩
    obtain ⟨l, e, eb⟩ := bk1_M hN ht (by omega)
    obtain ⟨P1, g1, g2, g3, g4⟩ := mo_backs hD hN hR hRN ht (by omega) e
    obtain ⟨Q, f1, f2, f3, f4⟩ := mo_backsL hD m (bkN N l) P1 (k + 1) t n (by omega) h9 (by omega) (by show m ≤ xM N - 1; omega) (WN.bk hD hN ht (by omega) e) ht g2 g3
    refine ⟨Q, ?_, f2, ?_, g4.tr f4⟩
    · unfold Mo_unpick_48
      rw [if_neg (by rw [z_le (by omega) (by omega)]; omega), g1]
      simp only [Option.bind_some]
      rw [show nI k + 1 = nI (k + 1) from nI_1 _, f1]
      show _ = some (nI (xM (bkIt D m (bk1 D N))), Q)
      rw [eb]
    · show RN D (bkIt D m (bk1 D N)) (Q.1 88)
      rw [eb]; exact f3
theorem call_unpick (h : INVx D N P) (v : Int32) : callQ (Bs_unpick v P) (Mo_unpick v) [ISE, IAE] P := by
  obtain ⟨hD, hN, hR, hRN, hC, hCN, hRest⟩ := id h
  cases ht : xT N with
  | false =>
    refine ⟨(1, 0), P, by decide, ?_, moI.aft h (moI.thr (fun _ => 0) (fun Q hQ => ?_) (fun q => absurd q (by decide)))⟩
    · unfold Bs_unpick; rw [ckThread hCN, ht]; rfl
    · unfold Mo_unpick Mo_unpick_34
      rw [mo_isThere hQ.2.2.2.1, ht]
      simp only [Option.bind_some, Bool.false_eq_true, if_false, if_true, at5, le10]
      rfl
  | true =>
    have hM := (hN ht).2.2.1
    have e6 := (hCN.2.2.2.2.2 ht).2.2.2.1
    rcases three v (xM N + 1) (by omega) with o | ⟨t, htl, rfl⟩
    · refine ⟨(2, 0), P, by decide, ?_, moI.aft h (moI.thr (fun _ => 0) (fun Q hQ => ?_) (fun q => absurd q (by decide)))⟩
      · unfold Bs_unpick Bs_unpick_19
        rw [ckThread hCN, ht, e6]
        simp only [Option.bind_some, if_true, Sum.elim_inr]
        rcases o with o | o
        · rw [if_pos o]; rfl
        · rw [if_neg (big_not (by omega) o).1, if_neg (fun q => by
            rw [fa_le, nI_toInt (by omega)] at o q
            omega)]
          rfl
      · unfold Mo_unpick Mo_unpick_34
        rw [mo_isThere hQ.2.2.2.1, ht, mo_6 hQ.2.2.2.1 ht]
        simp only [Option.bind_some, if_true, nz1, if_false, gd6]
        rw [w_out (nI (xM N)).toInt64 (xM N) rfl rfl (by omega) o]
        simp only [Option.bind_some, if_true, at5, le20, if_false]
        rfl
    · obtain ⟨P1, g1, g2, g3, g4, g5⟩ := ne_backs hD t N P 0 t bigN (by omega) (by omega) (big_gt (by omega)) (by omega) hN ht hC hCN
      refine ⟨(0, nI (xM (bkIt D t N))), P1, Nat.zero_le _, ?_, fun P2 hP2 => ?_⟩
      · unfold Bs_unpick
        rw [ckThread hCN, ht, e6]
        simp only [Option.bind_some, if_true, Sum.elim_inr]
        rw [if_neg (nI_pos (by omega)), if_pos (by rw [z_le (by omega) (by omega)]; omega)]
        exact g1
      · have e88 := row88 (v := 0) g3 hP2
        obtain ⟨Q, f1, f2, f3, f4⟩ := mo_backsL hD t N (sI P2 1 5 0) 0 t bigN (by omega) (by omega) (big_gt (by omega)) (by omega) hN ht (by rw [e88]; exact hR) (by rw [e88]; exact hRN)
        obtain ⟨q1, q2, q3⟩ := two_steps h g4 g2 g3 hP2 f2 f3 f4
        refine ⟨_, Q, ?_, q2, q3, fun _ => rfl, q1⟩
        have rr : RN D N (P2.1 88) := by rw [hP2.1, g3.1 88 (by decide) (by decide)]; exact hRN
        unfold Mo_unpick Mo_unpick_34
        rw [mo_isThere rr, ht, mo_6 rr ht]
        simp only [Option.bind_some, if_true, nz1, if_false, gd6]
        rw [w_in (nI (xM N)).toInt64 (xM N) rfl rfl (by omega) htl]
        simp only [Option.bind_some, nz1, if_false, at5, le00, if_true]
        exact f1
theorem call_thread (h : INVx D N P) (v : Int32) : callP (Bs_thread v P) (Mo_thread v) [ISE, IAE] P := by
  obtain ⟨hD, hN, hR, hRN, hC, hCN, hRest⟩ := id h
  cases ht : xT N with
  | false =>
    refine ⟨(1, 0), by decide, ?_, moI.aft h (moI.thr (fun _ => 0) (fun Q hQ => ?_) (fun q => absurd q (by decide)))⟩
    · unfold Bs_thread; rw [ckThread hCN, ht]; rfl
    · unfold Mo_thread Mo_thread_29
      rw [mo_isThere hQ.2.2.2.1, ht]
      simp only [Option.bind_some, Bool.false_eq_true, if_false, if_true, at5, le10]
      rfl
  | true =>
    have hM := (hN ht).2.2.1
    obtain ⟨e3, e4, e5, e6, e8, e9⟩ := hCN.2.2.2.2.2 ht
    rcases three v 5 (by decide) with o | ⟨j, hj, rfl⟩
    · have a := ne_out (by decide) o
      refine ⟨(2, 0), by decide, ?_, moI.aft h (moI.thr (fun _ => 0) (fun Q hQ => ?_) (fun q => absurd q (by decide)))⟩
      · unfold Bs_thread
        rw [ckThread hCN, ht]
        simp only [Option.bind_some, if_true, Sum.elim_inr]
        rw [if_neg (show ¬ v = 0 from a 0 (by decide)), if_neg (show ¬ v = 1 from a 1 (by decide)), if_neg (show ¬ v = 2 from a 2 (by decide)), if_neg (show ¬ v = 3 from a 3 (by decide)), if_neg (show ¬ v = 4 from a 4 (by decide))]
        rfl
      · unfold Mo_thread Mo_thread_29
        rw [mo_isThere hQ.2.2.2.1, ht]
        simp only [Option.bind_some, if_true, nz1, if_false]
        rw [w_out 4 4 (by decide) rfl (by decide) o]
        simp only [Option.bind_some, if_true, at5, le20, if_false]
        rfl
    · have en := ne_next hCN ht (by omega)
      refine ⟨(0, if j = 0 then nI (xH N (xM N)) else if j = 1 then (if ovN N (xM N) then 1 else 0) else if j = 2 then nI (xM N) else if j = 3 then nI (xIk N) else nI (xB N)), Nat.zero_le _, ?_, moI.aft h (moI.thr (fun _ => _) (fun Q hQ => ?_) (fun _ _ _ => rfl))⟩
      · unfold Bs_thread
        rw [ckThread hCN, ht, en, e3, e4, e5, e6]
        rcases (show j = 0 ∨ j = 1 ∨ j = 2 ∨ j = 3 ∨ j = 4 by omega) with rfl | rfl | rfl | rfl | rfl
        · rfl
        · cases ovN N (xM N) <;> rfl
        · rfl
        · rfl
        · rfl
      · have q := (hQ.s5 0).2.2.2.1
        have qo : Mo_isOver (nI (xM N)) (sI Q 1 5 0) = some (if ovN N (xM N) then 1 else 0) := mo_isOver q ht (by omega)
        unfold Mo_thread Mo_thread_29
        rw [mo_isThere hQ.2.2.2.1, ht]
        simp only [Option.bind_some, if_true, nz1, if_false]
        rw [w_in 4 4 (by decide) rfl (by decide) hj]
        simp only [Option.bind_some, nz1, if_false, at5, le00, if_true, gd6, gd3, gd4]
        rw [mo_6 q ht, mo_hole hD hN q ht, qo, show (sI Q 1 5 0).1 88 (3 : Int32).toNatClampNeg = nI (xIk N) from (q.2.2.2 ht).1, show (sI Q 1 5 0).1 88 (4 : Int32).toNatClampNeg = nI (xB N) from (q.2.2.2 ht).2.1]
        rcases (show j = 0 ∨ j = 1 ∨ j = 2 ∨ j = 3 ∨ j = 4 by omega) with rfl | rfl | rfl | rfl | rfl
        · rfl
        · cases ovN N (xM N) <;> rfl
        · rfl
        · rfl
        · rfl
theorem call_done (h : INVx D N P) (v : Int32) : callP (Bs_done v P) (Mo_done v) [ISE] P := by
  obtain ⟨hD, hN, hR, hRN, hC, hCN, hRest⟩ := id h
  cases ht : xT N with
  | false =>
    refine ⟨(1, 0), by decide, ?_, moI.aft h (moI.thr (fun _ => 0) (fun Q hQ => ?_) (fun q => absurd q (by decide)))⟩
    · unfold Bs_done; rw [ckThread hCN, ht]; rfl
    · unfold Mo_done Mo_done_13
      rw [mo_isThere hQ.2.2.2.1, ht]
      simp only [Option.bind_some, Bool.false_eq_true, if_false, if_true, at5, le10]
      rfl
  | true =>
    have hM := (hN ht).2.2.1
    obtain ⟨e3, e4, e5, e6, e8, e9⟩ := hCN.2.2.2.2.2 ht
    rcases three v (xM N) (by omega) with o | ⟨j, hj, rfl⟩
    · refine ⟨(0, m1), Nat.zero_le _, ?_, moI.aft h (moI.thr (fun _ => m1) (fun Q hQ => ?_) (fun _ _ _ => rfl))⟩
      · unfold Bs_done Ne_wayOf
        rw [ckThread hCN, ht, e6]
        simp only [Option.bind_some, if_true, Sum.elim_inr]
        rcases o with o | o
        · rw [if_pos o]; rfl
        · rw [if_neg (big_not (by omega) o).1, if_pos o]; rfl
      · have q := (hQ.s5 0).2.2.2.1
        unfold Mo_done Mo_done_13
        rw [mo_isThere hQ.2.2.2.1, ht]
        simp only [Option.bind_some, if_true, nz1, if_false, at5, le00, gd6]
        rw [mo_6 q ht, win_n _ (by omega), if_neg (fun q => by
          rcases o with o | o
          · rw [fa_lt] at o; rw [fa_le] at q; omega
          · rw [fa_le] at o; rw [fa_lt] at q; omega)]
        rfl
    · refine ⟨(0, nI (xD N j)), Nat.zero_le _, ?_, moI.aft h (moI.thr (fun _ => nI (xD N j)) (fun Q hQ => ?_) (fun _ _ _ => rfl))⟩
      · unfold Bs_done Ne_wayOf
        rw [ckThread hCN, ht, e6]
        simp only [Option.bind_some, if_true, Sum.elim_inr]
        rw [if_neg (nI_pos (by omega)), if_neg (nI_ge hj (by omega)), if_neg (show ¬ (120 : Int32) ≤ nI j from (show ¬ nI 120 ≤ nI j from nI_ge (by omega) (by decide))), z_cl (by omega), z_gd (by omega) (by decide), e9 j hj]
        rfl
      · have q := (hQ.s5 0).2.2.2.1
        unfold Mo_done Mo_done_13
        rw [mo_isThere hQ.2.2.2.1, ht]
        simp only [Option.bind_some, if_true, nz1, if_false, at5, le00, gd6]
        rw [mo_6 q ht, win_n _ (by omega), if_pos ⟨nI_pos' (by omega), nI_lt hj (by omega)⟩]
        simp only [Option.bind_some, nz1, if_false]
        rw [show (392 : Int32) + nI j = nI (392 + j) from by rw [show (392 : Int32) = nI 392 from rfl, nI_add], z_cl (by omega), z_gd (by omega) (by omega), (q.2.2.2 ht).2.2.2.2 j hj]
        rfl
/-- how many stitches are left -/
def lft (D : DT) (N : NT) (k n : Nat) : Nat := fb_ct (fun l => decide (dI D l = k) && !xO N l) n + fb_ct (fun l => decide (dI D l = k) && !xU N l) n
theorem mo_left_lp {Q : PH} (hD : WD D) (hR : RD D (Q.1 88)) (hRN : RN D N (Q.1 88)) {c : Nat} (hc : c < 4) : ∀ (m k n : Nat), k + m = dN D → m < n → Mo_leftOf_4 (nI c) Q n (nI (lft D N c k)) (nI k) = some (nI (lft D N c (dN D))) := by
  have h60 := hD.1
  intro m
  induction m with
  | zero =>
    intro k n hk hn
    obtain ⟨n, rfl⟩ : ∃ q, n = q + 1 := ⟨n - 1, by omega⟩
    obtain rfl : k = dN D := by omega
    unfold Mo_leftOf_4
    rw [gd_0, mo_0 hR, if_pos (by rw [z_le (by omega) (by omega)]; exact Nat.le_refl _)]
  | succ m ih =>
    intro k n hk hn
    obtain ⟨n, rfl⟩ : ∃ q, n = q + 1 := ⟨n - 1, by omega⟩
    have hkD : k < dN D := by omega
    have e := ih (k + 1) n (by omega) (by omega)
    have hi := (hD.2.1 k hkD).2.2.1
    have es : lft D N c (k + 1) = lft D N c k + ((if decide (dI D k = c) && !xO N k then 1 else 0) + (if decide (dI D k = c) && !xU N k then 1 else 0)) := by
      unfold lft
      rw [fb_ct_succ, fb_ct_succ]
      omega
    rw [es] at e
    unfold Mo_leftOf_4
    rw [gd_0, mo_0 hR, if_neg (nI_ge hkD (by omega)), mo_ink hD hR hkD, mo_worked hD hRN hkD]
    simp only [Option.bind_some]
    rw [show nI k + 1 = nI (k + 1) from nI_1 _]
    by_cases c1 : dI D k = c
    · rw [if_pos (by rw [c1])]
      cases c2 : xO N k <;> cases c3 : xU N k
      · have hw : wkN N k = 0 := by unfold wkN; rw [c2, c3]; rfl
        simp only [c1, c2, c3, decide_true, Bool.true_and, Bool.not_true, Bool.not_false, Bool.false_eq_true, if_true, if_false, Nat.add_zero, Nat.zero_add, Nat.reduceAdd] at e
        rw [hw]
        simp (disch := omega) only [z_lit, nI_add, z_eq, if_true, if_false, Nat.add_zero]
        exact e
      · have hw : wkN N k = 2 := by unfold wkN; rw [c2, c3]; rfl
        simp only [c1, c2, c3, decide_true, Bool.true_and, Bool.not_true, Bool.not_false, Bool.false_eq_true, if_true, if_false, Nat.add_zero, Nat.zero_add, Nat.reduceAdd] at e
        rw [hw]
        simp (disch := omega) only [z_lit, nI_add, z_eq, if_true, if_false, Nat.add_zero, Nat.reduceEqDiff]
        exact e
      · have hw : wkN N k = 1 := by unfold wkN; rw [c2, c3]; rfl
        simp only [c1, c2, c3, decide_true, Bool.true_and, Bool.not_true, Bool.not_false, Bool.false_eq_true, if_true, if_false, Nat.add_zero, Nat.zero_add, Nat.reduceAdd] at e
        rw [hw]
        simp (disch := omega) only [z_lit, nI_add, z_eq, if_true, if_false, Nat.add_zero, Nat.reduceEqDiff, Nat.one_ne_zero]
        exact e
      · have hw : wkN N k = 3 := by unfold wkN; rw [c2, c3]; rfl
        simp only [c1, c2, c3, decide_true, Bool.true_and, Bool.not_true, Bool.not_false, Bool.false_eq_true, if_true, if_false, Nat.add_zero, Nat.zero_add, Nat.reduceAdd] at e
        rw [hw]
        simp (disch := omega) only [z_lit, nI_add, z_eq, if_true, if_false, Nat.add_zero, Nat.reduceEqDiff]
        exact e
    · rw [if_neg (by rw [z_eq (by omega) (by omega)]; exact c1)]
      simp only [c1, decide_false, Bool.false_and, Bool.false_eq_true, if_false, Nat.add_zero] at e
      exact e
theorem mo_leftOf {Q : PH} (hD : WD D) (hR : RD D (Q.1 88)) (hRN : RN D N (Q.1 88)) {c : Nat} (hc : c < 4) : Mo_leftOf (nI c) Q = some (nI (lft D N c (dN D))) := by
  have h60 := hD.1
  exact mo_left_lp hD hR hRN hc (dN D) 0 bigN (by omega) (big_gt (by omega))
theorem open_bits {nd : Nat} (hC : CD (ndD nd) D P) (hCN : CN nd D N P) {k : Nat} (hk : k < 4) : (∃ x, Ne_openOver nd (nI k) P = some x ∧ ∀ i, i < 64 → bL x i = (decide (i < dN D) && (decide (dI D i = k) && !xO N i))) ∧ ∃ x, Ne_openUnder nd (nI k) P = some x ∧ ∀ i, i < 64 → bL x i = (decide (i < dN D) && (decide (dI D i = k) && !xU N i)) := by
  refine ⟨⟨P.2 (ndD nd + 6) k &&& (P.2 nd 0 ^^^ (-1)), ?_, fun i hi => ?_⟩, P.2 (ndD nd + 6) k &&& (P.2 nd 1 ^^^ (-1)), ?_, fun i hi => ?_⟩
  · unfold Ne_openOver; rw [dr_linesOf hk]; rfl
  · rw [bL_and, bL_not _ hi, hC.2.2.2.2.2.1 k hk i hi, hCN.1 i hi]
    cases decide (i < dN D) <;> cases decide (dI D i = k) <;> cases xO N i <;> rfl
  · unfold Ne_openUnder; rw [dr_linesOf hk]; rfl
  · rw [bL_and, bL_not _ hi, hC.2.2.2.2.2.1 k hk i hi, hCN.2.1 i hi]
    cases decide (i < dN D) <;> cases decide (dI D i = k) <;> cases xU N i <;> rfl
theorem ne_still {nd : Nat} (hD : WD D) (hN : WN D N) (hC : CD (ndD nd) D P) (hCN : CN nd D N P) (ht : xT N = true) : Ne_stillOpen nd P = some (nI (lft D N (xIk N) (dN D))) := by
  have h60 := hD.1
  obtain ⟨⟨x, e1, e2⟩, y, e3, e4⟩ := open_bits hC hCN (hN ht).1
  unfold Ne_stillOpen
  rw [(hCN.2.2.2.2.2 ht).1, e1, e3]
  simp only [Option.bind_some]
  rw [pop_is (by omega) e2, pop_is (by omega) e4]
  simp only [Option.bind_some]
  rw [nI_add]
  rfl
theorem call_left (h : INVx D N P) : callP (Bs_left P) Mo_left [ISE] P := by
  obtain ⟨hD, hN, hR, hRN, hC, hCN, hRest⟩ := id h
  cases ht : xT N with
  | false =>
    refine ⟨(1, 0), by decide, ?_, moI.aft h (moI.thr (fun _ => 0) (fun Q hQ => ?_) (fun q => absurd q (by decide)))⟩
    · unfold Bs_left; rw [ckThread hCN, ht]; rfl
    · unfold Mo_left Mo_left_13
      rw [mo_isThere hQ.2.2.2.1, ht]
      simp only [Option.bind_some, Bool.false_eq_true, if_false, if_true, at5, le10]
      rfl
  | true =>
    refine ⟨(0, nI (lft D N (xIk N) (dN D))), Nat.zero_le _, ?_, moI.aft h (moI.thr (fun _ => nI (lft D N (xIk N) (dN D))) (fun Q hQ => ?_) (fun _ _ _ => rfl))⟩
    · unfold Bs_left; rw [ckThread hCN, ht, ne_still (nd := 43) hD hN hC hCN ht]; rfl
    · have q := hQ.s5 0
      unfold Mo_left Mo_left_13
      rw [mo_isThere hQ.2.2.2.1, ht]
      simp only [Option.bind_some, if_true, nz1, if_false, at5, le00, gd3]
      rw [show (sI Q 1 5 0).1 88 (3 : Int32).toNatClampNeg = nI (xIk N) from (q.2.2.2.1.2.2.2 ht).1, mo_leftOf hD q.2.2.1 q.2.2.2.1 (hN ht).1]
      rfl
end TC3
