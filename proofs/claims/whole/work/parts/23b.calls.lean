/-! CALLS OF THE DRAWING THAT ONLY LOOK -/
theorem sI2 (P : PH) (n k : Nat) (a b : Int32) : sI (sI P n k a) n k b = sI P n k b := by
  unfold sI u2
  congr 1
  funext x y
  by_cases c : x = n ∧ y = k
  · simp [c]
  · simp [c]
theorem ne_out {v : Int32} {N : Nat} (hN : N < 2147483648) (h : v < 0 ∨ nI N ≤ v) (k : Nat) (hk : k < N) : ¬ v = nI k := by
  rcases h with h | h
  · exact (neg_not h k (by omega)).2.1
  · exact (big_not hN h).2.2 k hk
section CALLS1
variable {D : DT} {N : NT} {P : PH}
theorem call_fault (h : INVx D N P) (v : Int32) : ∃ b, Bs_fault v P = some b ∧ ∃ b' Q', Mo_fault v P = some (b', Q') ∧ scr P Q' ∧ b' = b := by
  obtain ⟨-, -, -, -, -, -, -, -, -, e1, e2⟩ := id h
  unfold Bs_fault Mo_fault
  simp only [Option.bind_some]
  rw [off5i P 0 (k := 16) (by decide), off5i P 0 (k := 17) (by decide), e1, e2]
  by_cases c1 : v = 0
  · rw [if_pos c1, if_pos c1]
    exact ⟨_, rfl, _, _, rfl, (scr.rf P).sI _ rfl, rfl⟩
  · rw [if_neg c1, if_neg c1]
    by_cases c2 : v = 1
    · rw [if_pos c2, if_pos c2]
      exact ⟨_, rfl, _, _, rfl, (scr.rf P).sI _ rfl, rfl⟩
    · rw [if_neg c2, if_neg c2]
      exact ⟨_, rfl, _, _, rfl, (scr.rf P).sI _ rfl, rfl⟩
theorem ne_faces {nd : Nat} (hD : WD D) (hC : CN nd D N P) {l : Nat} (hl : l < dN D) : Ne_facesOf nd (nI l) P = some (nI (wkN N l)) := by
  have h60 := hD.1
  have o := hC.1 l (by omega)
  have u := hC.2.1 l (by omega)
  unfold Ne_facesOf Ne_facesOf_18 wkN
  simp only [lg_bit (P.2 nd 0) (show l < 64 by omega), lg_bit (P.2 nd 1) (show l < 64 by omega), o, u, hl, decide_true, Bool.true_and]
  cases xO N l <;> cases xU N l <;> rfl
theorem call_line (h : INVx D N P) (v1 v2 : Int32) : ∃ r : Nat × Int32, r.1 ≤ 2 ∧ Bs_line v1 v2 P = some (clsI [NSE, IAE] r) ∧ moI D N (Mo_line v1 v2) r := by
  obtain ⟨hD, hN, hR, hRN, hC, hCN, -⟩ := id h
  rcases three v1 (dN D) (by have := hD.1; omega) with o1 | ⟨l, hl, rfl⟩
  · refine ⟨(1, 0), by decide, ?_, moI.thr (fun _ => 0) (fun Q hQ => ?_) (fun q => absurd q (by decide))⟩
    · unfold Bs_line; rw [ckLine_out hD hC o1]; rfl
    · unfold Mo_line Mo_fails
      simp only [Option.bind_some]
      rw [isLine_out hD (hQ.s5 0).2.2.1 o1]
      simp only [Option.bind_some, if_true, sI2]
      rfl
  · rcases three v2 4 (by decide) with o2 | ⟨j, hj, rfl⟩
    · refine ⟨(2, 0), by decide, ?_, moI.thr (fun _ => 0) (fun Q hQ => ?_) (fun q => absurd q (by decide))⟩
      · have a := ne_out (by decide) o2
        unfold Bs_line
        rw [ckLine_in hD hC hl]
        simp only [Option.bind_some, Sum.elim_inr]
        rw [if_neg (show ¬ v2 = 0 from a 0 (by decide)), if_neg (show ¬ v2 = 1 from a 1 (by decide)), if_neg (show ¬ v2 = 2 from a 2 (by decide)), if_neg (show ¬ v2 = 3 from a 3 (by decide))]
        rfl
      · unfold Mo_line Mo_fails
        simp only [Option.bind_some]
        rw [isLine_in hD (hQ.s5 0).2.2.1 hl]
        simp only [Option.bind_some, nz1, if_false]
        rw [w_out 3 3 (by decide) rfl (by decide) o2]
        simp only [Option.bind_some, if_true, sI2]
        rfl
    · have e1 := dr_from hD hC hl
      have e2 := dr_to hD hC hl
      have e3 := dr_ink hD hC hl
      have e4 := ne_faces hD hCN hl
      have g : ∀ Q, INVx D N Q → Mo_line (nI l) (nI j) Q = some (if j = 0 then nI (dF D l) else if j = 1 then nI (dT D l) else if j = 2 then nI (dI D l) else nI (wkN N l), sI Q 1 5 (nI 0)) := by
        intro Q hQ
        have q := hQ.s5 0
        unfold Mo_line
        simp only [Option.bind_some]
        rw [isLine_in hD q.2.2.1 hl]
        simp only [Option.bind_some, nz1, if_false]
        rw [w_in 3 3 (by decide) rfl (by decide) hj]
        simp only [Option.bind_some, nz1, if_false]
        rw [mo_from hD q.2.2.1 hl, mo_to hD q.2.2.1 hl, mo_ink hD q.2.2.1 hl, mo_worked hD q.2.2.2.1 hl]
        rcases (show j = 0 ∨ j = 1 ∨ j = 2 ∨ j = 3 by omega) with rfl | rfl | rfl | rfl <;> rfl
      refine ⟨(0, if j = 0 then nI (dF D l) else if j = 1 then nI (dT D l) else if j = 2 then nI (dI D l) else nI (wkN N l)), Nat.zero_le _, ?_, moI.thr (fun _ => _) (fun Q hQ => g Q hQ) (fun _ _ _ => rfl)⟩
      unfold Bs_line
      rw [ckLine_in hD hC hl, e1, e2, e3, e4]
      rcases (show j = 0 ∨ j = 1 ∨ j = 2 ∨ j = 3 by omega) with rfl | rfl | rfl | rfl <;> rfl
theorem call_lineAt (h : INVx D N P) (v1 v2 : Int32) : ∃ r : Nat × Int32, r.1 ≤ 1 ∧ Bs_lineAt v1 v2 P = some (clsI [NSE] r) ∧ moI D N (Mo_lineAt v1 v2) r := by
  obtain ⟨hD, hN, hR, hRN, hC, hCN, -⟩ := id h
  rcases three v1 144 (by decide) with o1 | ⟨j, hj, rfl⟩
  · refine ⟨(1, 0), by decide, ?_, moI.thr (fun _ => 0) (fun Q hQ => ?_) (fun q => absurd q (by decide))⟩
    · unfold Bs_lineAt; rw [ckHole_out o1]; rfl
    · unfold Mo_lineAt Mo_lineAt_32 Mo_fails
      simp only [Option.bind_some]
      rw [isHole_out o1]
      simp only [Option.bind_some, if_true, sI2]
      rfl
  · rcases three v2 8 (by decide) with o2 | ⟨w, hw, rfl⟩
    · refine ⟨(1, 0), by decide, ?_, moI.thr (fun _ => 0) (fun Q hQ => ?_) (fun q => absurd q (by decide))⟩
      · unfold Bs_lineAt; rw [ckHole_in hj, ckWay_out o2]; rfl
      · unfold Mo_lineAt Mo_lineAt_32 Mo_fails
        simp only [Option.bind_some]
        rw [isHole_in hj, isWay_out o2]
        simp only [Option.bind_some, nz1, if_false, if_true, sI2]
        rfl
    · refine ⟨(0, enc (lnA D j w)), Nat.zero_le _, ?_, moI.thr (fun _ => enc (lnA D j w)) (fun Q hQ => ?_) (fun _ _ _ => rfl)⟩
      · unfold Bs_lineAt; rw [ckHole_in hj, ckWay_in hw, dr_lineBy hD hC hj hw]; rfl
      · unfold Mo_lineAt
        simp only [Option.bind_some]
        rw [isHole_in hj, isWay_in hw, mo_find hD (hQ.s5 0).2.2.1 hj hw]
        simp only [Option.bind_some, nz1, if_false]
        rfl
theorem mo_ends_lp (hD : WD D) {Q : PH} (hR : RD D (Q.1 88)) {h : Nat} (hh : h < 144) {o : Option Nat} (ho : ∀ k, o = some k → k < 4) : ∀ (m k n : Nat), k + m = dN D → m < n → Mo_ends_46 (nI h) (enc o) n (nI (fb_ct (fun l => ofI D o l && dat D h l) k)) (nI k) Q = some (nI (fb_ct (fun l => ofI D o l && dat D h l) (dN D)), Q) := by
  have h60 := hD.1
  intro m
  induction m with
  | zero =>
    intro k n hk hn
    obtain ⟨n, rfl⟩ : ∃ q, n = q + 1 := ⟨n - 1, by omega⟩
    obtain rfl : k = dN D := by omega
    unfold Mo_ends_46
    simp (disch := omega) only [z_lit, z_gd, z_cl, hR.1, z_le, Nat.le_refl, if_true]
  | succ m ih =>
    intro k n hk hn
    obtain ⟨n, rfl⟩ : ∃ q, n = q + 1 := ⟨n - 1, by omega⟩
    have hkD : k < dN D := by omega
    have e := ih (k + 1) n (by omega) (by omega)
    rw [fb_ct_succ] at e
    unfold Mo_ends_46
    rw [mo_0 hR, mo_isOf hD hR hkD ho, mo_isAt hD hR hkD hh, show gdI (0 : Int32) 512 = fun (o : Option (Int32 × PH)) => o from funext (fun o => z_gd (k := 0) (by decide) (by decide)), if_neg (nI_ge hkD (by omega))]
    cases c1 : ofI D o k
    · simp only [c1, Bool.false_and, Bool.false_eq_true, if_false, Nat.add_zero] at e
      simp (disch := omega) only [Option.bind_some, Bool.false_eq_true, if_false, if_true, z_lit, nI_add, z_eq, Nat.add_zero]
      exact e
    · cases c2 : dat D h k
      · simp only [c1, c2, Bool.true_and, Bool.false_eq_true, if_false, Nat.add_zero] at e
        simp (disch := omega) only [Option.bind_some, Bool.false_eq_true, if_false, if_true, z_lit, nI_add, z_eq, Nat.add_zero, nz1]
        exact e
      · simp only [c1, c2, Bool.true_and, if_true] at e
        simp (disch := omega) only [Option.bind_some, if_false, if_true, z_lit, nI_add, z_eq, nz1]
        exact e
theorem call_ends (h : INVx D N P) (v1 v2 : Int32) : ∃ r : Nat × Int32, r.1 ≤ 2 ∧ Bs_ends v1 v2 P = some (clsI [NSE, IAE] r) ∧ moI D N (Mo_ends v1 v2) r := by
  obtain ⟨hD, hN, hR, hRN, hC, hCN, -⟩ := id h
  have h60 := hD.1
  rcases three v1 144 (by decide) with o1 | ⟨j, hj, rfl⟩
  · refine ⟨(1, 0), by decide, ?_, moI.thr (fun _ => 0) (fun Q hQ => ?_) (fun q => absurd q (by decide))⟩
    · unfold Bs_ends; rw [ckHole_out o1]; rfl
    · unfold Mo_ends Mo_ends_29
      rw [isHole_out o1]
      simp only [Option.bind_some, if_true, at5, le10, if_false]
      rfl
  · have g : ∀ o : Option Nat, (∀ k, o = some k → k < 4) → ∀ Q, INVx D N Q → Mo_ends_29 (nI j) (enc o) (0 : Int32) Q = some (nI (fb_ct (fun l => ofI D o l && dat D j l) (dN D)), sI Q 1 5 (nI 0)) := by
      intro o ho Q hQ
      unfold Mo_ends_29
      simp only [Option.bind_some, at5, le00, if_true]
      exact mo_ends_lp hD (hQ.s5 0).2.2.1 hj ho (dN D) 0 bigN (by omega) (big_gt (by omega))
    rcases ink_cases v2 with rfl | ⟨o2, o3⟩ | ⟨k, hk, rfl⟩
    · refine ⟨(0, nI (fb_ct (fun l => ofI D none l && dat D j l) (dN D))), Nat.zero_le _, ?_, moI.thr (fun _ => _) (fun Q hQ => ?_) (fun _ _ _ => rfl)⟩
      · obtain ⟨x, e1, e2⟩ := dr_linesAll hD hC
        unfold Bs_ends
        rw [ckHole_in hj, ckAll_m1, dr_linesAt hj, show Dr_linesOf 3 m1 P = some x from e1]
        simp only [Option.bind_some, Sum.elim_inr]
        rw [pop_is (p := fun l => ofI D none l && dat D j l) (n := dN D) (by omega) (fun i hi => by rw [bL_and, e2, hC.2.2.2.2.1 j hj i hi]; unfold ofI; cases decide (i < dN D) <;> cases dat D j i <;> rfl)]
        rfl
      · unfold Mo_ends
        rw [isHole_in hj]
        simp only [Option.bind_some, nz1, if_false]
        rw [if_pos (show m1 = (-1 : Int32) from rfl)]
        exact g none (fun k q => by cases q) Q hQ
    · refine ⟨(2, 0), by decide, ?_, moI.thr (fun _ => 0) (fun Q hQ => ?_) (fun q => absurd q (by decide))⟩
      · unfold Bs_ends; rw [ckHole_in hj, ckAll_out o2 o3]; rfl
      · unfold Mo_ends Mo_ends_29
        rw [isHole_in hj]
        simp only [Option.bind_some, nz1, if_false]
        rw [if_neg (show ¬ v2 = (-1 : Int32) from o2), isInk_out o3]
        simp only [Option.bind_some, if_true, at5, le20, if_false]
        rfl
    · refine ⟨(0, nI (fb_ct (fun l => ofI D (some k) l && dat D j l) (dN D))), Nat.zero_le _, ?_, moI.thr (fun _ => _) (fun Q hQ => ?_) (fun _ _ _ => rfl)⟩
      · unfold Bs_ends
        rw [ckHole_in hj, ckAll_in hk, dr_linesAt hj, dr_linesOf hk]
        simp only [Option.bind_some, Sum.elim_inr]
        rw [pop_is (p := fun l => ofI D (some k) l && dat D j l) (n := dN D) (by omega) (fun i hi => by rw [bL_and, hC.2.2.2.2.2.1 k hk i hi, hC.2.2.2.2.1 j hj i hi, show ofI D (some k) i = decide (dI D i = k) from rfl]; cases decide (i < dN D) <;> cases dat D j i <;> cases decide (dI D i = k) <;> rfl)]
        rfl
      · unfold Mo_ends
        rw [isHole_in hj]
        simp only [Option.bind_some, nz1, if_false]
        rw [if_neg (show ¬ nI k = (-1 : Int32) from nI_nm (by omega)), isInk_in hk]
        simp only [Option.bind_some, nz1, if_false]
        exact g (some k) (fun k' q => by cases q; exact hk) Q hQ
end CALLS1
