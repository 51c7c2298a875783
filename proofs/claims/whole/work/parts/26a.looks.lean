/-! KNOT, LENGTH, SEEN, SAME, UNLIKE, COUNT -/
section LK
variable {D : DT} {N : NT} {P : PH}
/-- answers without throws -/
def callNo (c : Option Int32) (m : PH → Option (Int32 × PH)) (P : PH) : Prop := ∃ a : Int32, c = some a ∧ ∃ Q, m P = some (a, Q) ∧ INV Q
theorem mo_k (hR : RD D (P.1 88)) {h : Nat} (hh : h < 144) : (gdI ((248 : Int32) + nI h) 512 : Option Int32 → Option Int32) = (fun o => o) ∧ P.1 88 ((248 : Int32) + nI h).toNatClampNeg = nI (if dK D h then 1 else 0) := by
  rw [show (248 : Int32) + nI h = nI (248 + h) from by rw [show (248 : Int32) = nI 248 from rfl, nI_add], z_cl (by omega)]
  exact ⟨gdf _ _ (by omega) (by omega), hR.2.2 h hh⟩
theorem b0 (b : Bool) : (nI (if b then 1 else 0) = 0) ↔ b = false := by cases b <;> decide
theorem nle_and {k j : Nat} (hj : j < k) (b : Bool) : (decide (k ≤ j) && b) = false := by
  have : ¬ k ≤ j := by omega
  simp [this]
theorem dr_knot_lp (hC : CD 3 D P) (v : Int32) : ∀ (m k n : Nat), k + m = 144 → m < n → Dr_knotAt_4 3 v P n (nI (fb_ct (dK D) k)) (nI k) = some (enc (fsp (fun h => decide (k ≤ h) && (dK D h && decide (v = nI (fb_ct (dK D) h)))) 144)) := by
  intro m
  induction m with
  | zero =>
    intro k n hk hn
    obtain ⟨n, rfl⟩ : ∃ q, n = q + 1 := ⟨n - 1, by omega⟩
    obtain rfl : k = 144 := by omega
    unfold Dr_knotAt_4
    rw [if_pos (by decide), fsp_no (fun j hj => nle_and hj _)]
    rfl
  | succ m ih =>
    intro k n hk hn
    obtain ⟨n, rfl⟩ : ∃ q, n = q + 1 := ⟨n - 1, by omega⟩
    have e := ih (k + 1) n (by omega) (by omega)
    rw [fb_ct_succ] at e
    have hk9 : k < 144 := by omega
    have hne : fsp (fun h => decide (k + 1 ≤ h) && (dK D h && decide (v = nI (fb_ct (dK D) h)))) 144 = fsp (fun h => decide (k ≤ h) && (dK D h && decide (v = nI (fb_ct (dK D) h)))) 144 ∨ (dK D k = true ∧ v = nI (fb_ct (dK D) k)) := by
      by_cases c : dK D k = true ∧ v = nI (fb_ct (dK D) k)
      · exact Or.inr c
      · refine Or.inl (fsp_cong (fun j hj => ?_))
        by_cases c2 : j = k
        · subst c2
          have : ¬ j + 1 ≤ j := by omega
          cases c3 : dK D j
          · simp
          · have c4 : ¬ v = nI (fb_ct (dK D) j) := fun q => c ⟨c3, q⟩
            simp [c4]
        · by_cases c5 : k ≤ j
          · have : k + 1 ≤ j := by omega
            simp [c5, this]
          · have : ¬ k + 1 ≤ j := by omega
            simp [c5, this]
    unfold Dr_knotAt_4
    rw [if_neg (show ¬ (144 : Int32) ≤ nI k from nI_ge hk9 (by decide)), z_gd hk9 (by decide), z_cl (by omega), hC.2.2.2.2.2.2 k hk9, show nI k + 1 = nI (k + 1) from nI_1 _, show nI (fb_ct (dK D) k) + 1 = nI (fb_ct (dK D) k + 1) from nI_1 _]
    cases c : dK D k with
    | false =>
      rw [c] at e
      rw [if_pos (by decide)]
      rcases hne with q | q
      · rw [← q]; exact e
      · rw [c] at q; exact absurd q.1 (by decide)
    | true =>
      rw [c] at e
      rw [if_neg (by decide)]
      by_cases c2 : v = nI (fb_ct (dK D) k)
      · rw [if_pos c2.symm, fsp_is (p := fun h => decide (k ≤ h) && (dK D h && decide (v = nI (fb_ct (dK D) h)))) (k := k) hk9 (by simp [c, ← c2]) (fun j hj => nle_and hj _)]
        rfl
      · rw [if_neg (fun q => c2 q.symm)]
        rcases hne with q | q
        · rw [← q]; exact e
        · exact absurd q.2 c2
theorem mo_knot_lp {Q : PH} (hR : RD D (Q.1 88)) (v : Int32) : ∀ (m k n : Nat), k + m = 144 → m < n → Mo_knot_9 n (v - nI (fb_ct (dK D) k)) (nI k) Q = some (enc (fsp (fun h => decide (k ≤ h) && (dK D h && decide (v = nI (fb_ct (dK D) h)))) 144), Q) := by
  intro m
  induction m with
  | zero =>
    intro k n hk hn
    obtain ⟨n, rfl⟩ : ∃ q, n = q + 1 := ⟨n - 1, by omega⟩
    obtain rfl : k = 144 := by omega
    unfold Mo_knot_9
    rw [if_pos (by decide), fsp_no (fun j hj => nle_and hj _)]
    rfl
  | succ m ih =>
    intro k n hk hn
    obtain ⟨n, rfl⟩ : ∃ q, n = q + 1 := ⟨n - 1, by omega⟩
    have e := ih (k + 1) n (by omega) (by omega)
    rw [fb_ct_succ] at e
    have hk9 : k < 144 := by omega
    have hne : fsp (fun h => decide (k + 1 ≤ h) && (dK D h && decide (v = nI (fb_ct (dK D) h)))) 144 = fsp (fun h => decide (k ≤ h) && (dK D h && decide (v = nI (fb_ct (dK D) h)))) 144 ∨ (dK D k = true ∧ v = nI (fb_ct (dK D) k)) := by
      by_cases c : dK D k = true ∧ v = nI (fb_ct (dK D) k)
      · exact Or.inr c
      · refine Or.inl (fsp_cong (fun j hj => ?_))
        by_cases c2 : j = k
        · subst c2
          have : ¬ j + 1 ≤ j := by omega
          cases c3 : dK D j
          · simp
          · have c4 : ¬ v = nI (fb_ct (dK D) j) := fun q => c ⟨c3, q⟩
            simp [c4]
        · by_cases c5 : k ≤ j
          · have : k + 1 ≤ j := by omega
            simp [c5, this]
          · have : ¬ k + 1 ≤ j := by omega
            simp [c5, this]
    have h48 : (248 : Int32) + nI k = nI (248 + k) := by rw [show (248 : Int32) = nI 248 from rfl, nI_add]
    unfold Mo_knot_9
    rw [if_neg (show ¬ (144 : Int32) ≤ nI k from nI_ge hk9 (by decide)), h48, z_gd (by omega) (by decide), z_cl (by omega), hR.2.2 k hk9, show nI k + 1 = nI (k + 1) from nI_1 _]
    have h0 : (v - nI (fb_ct (dK D) k) = 0) ↔ v = nI (fb_ct (dK D) k) := by
      rw [Int32.sub_eq_iff_eq_add, Int32.add_comm, Int32.add_zero]
    have h1 : v - nI (fb_ct (dK D) k) + (-1) = v - nI (fb_ct (dK D) k + 1) := by
      rw [← Int32.sub_eq_add_neg, Int32.sub_sub]
      rw [show nI (fb_ct (dK D) k) + 1 = nI (fb_ct (dK D) k + 1) from nI_1 _]
    cases c : dK D k with
    | false =>
      rw [c] at e
      rw [if_pos (by decide)]
      rcases hne with q | q
      · rw [← q]; exact e
      · rw [c] at q; exact absurd q.1 (by decide)
    | true =>
      rw [c] at e
      rw [if_neg (by decide)]
      by_cases c2 : v = nI (fb_ct (dK D) k)
      · rw [if_pos (h0.mpr c2), fsp_is (p := fun h => decide (k ≤ h) && (dK D h && decide (v = nI (fb_ct (dK D) h)))) (k := k) hk9 (by simp [c, ← c2]) (fun j hj => nle_and hj _)]
        rfl
      · rw [if_neg (fun q => c2 (h0.mp q)), h1]
        rcases hne with q | q
        · rw [← q]; exact e
        · exact absurd q.2 c2
theorem call_knot (h : INVx D N P) (v : Int32) : callNo (Bs_knot v P) (Mo_knot v) P := by
  refine ⟨enc (fsp (fun h => decide (0 ≤ h) && (dK D h && decide (v = nI (fb_ct (dK D) h)))) 144), ?_, sI P 1 5 0, ?_, D, N, h.s5 0⟩
  · have e := dr_knot_lp (D := D) h.2.2.2.2.1 v 144 0 bigN (by omega) (big_gt (by omega))
    rw [show fb_ct (dK D) 0 = 0 from rfl] at e
    unfold Bs_knot Dr_knotAt
    rw [show (0 : Int32) = nI 0 from rfl, e]
    rfl
  · have e := mo_knot_lp (D := D) (h.s5 0).2.2.1 v 144 0 bigN (by omega) (big_gt (by omega))
    rw [show fb_ct (dK D) 0 = 0 from rfl, show v - nI 0 = v from Int32.sub_zero v] at e
    unfold Mo_knot
    simp only [Option.bind_some]
    rw [show (nI 0 : Int32) = 0 from rfl] at e
    exact e
/-! a loop over the lines that counts -/
theorem mo_isSlant {Q : PH} (hD : WD D) (hR : RD D (Q.1 88)) {l : Nat} (hl : l < dN D) : Mo_isSlant (nI l) Q = some (if decide (dW D l % 2 = 1) then 1 else 0) := by
  have h60 := hD.1
  have hw := (hD.2.1 l hl).2.1
  obtain ⟨r1, r2, r3⟩ := hR.2.1 l hl
  unfold Mo_isSlant
  rw [show ((8 : Int32) + (4 : Int32) * nI l) + (1 : Int32) = nI (8 + 4 * l + 1) from by rw [show (8 : Int32) = nI 8 from rfl, show (4 : Int32) = nI 4 from rfl, show (1 : Int32) = nI 1 from rfl, pk_mul, nI_add, nI_add], z_cl (by omega), z_gd (by omega) (by omega), r2, show nI (dW D l) - nI (dW D l) / (2 : Int32) * (2 : Int32) = nI (dW D l % 2) from pk_rem (d := 2) (by omega) (by decide) (by decide), gd1, gd0]
  rcases Nat.mod_two_eq_zero_or_one (dW D l) with e | e <;> rw [e] <;> rfl
def lenF (D : DT) (o : Option Nat) (l : Nat) : Nat := if ofI D o l then (if decide (dW D l % 2 = 1) then 28 else 20) else 0
theorem lenF_le (D : DT) (o : Option Nat) (n : Nat) : fb_sm (lenF D o) n ≤ n * 28 := fb_sm_bound (fun k _ => by unfold lenF; split <;> (try split) <;> omega)
theorem mo_len_lp {Q : PH} (hD : WD D) (hR : RD D (Q.1 88)) {o : Option Nat} (ho : ∀ k, o = some k → k < 4) : ∀ (m k n : Nat), k + m = dN D → m < n → Mo_length_34 (enc o) n (nI (fb_sm (lenF D o) k)) (nI k) Q = some (nI (fb_sm (lenF D o) (dN D)), Q) := by
  have h60 := hD.1
  intro m
  induction m with
  | zero =>
    intro k n hk hn
    obtain ⟨n, rfl⟩ : ∃ q, n = q + 1 := ⟨n - 1, by omega⟩
    obtain rfl : k = dN D := by omega
    unfold Mo_length_34
    rw [gd_0, mo_0 hR, if_pos (by rw [z_le (by omega) (by omega)]; exact Nat.le_refl _)]
  | succ m ih =>
    intro k n hk hn
    obtain ⟨n, rfl⟩ : ∃ q, n = q + 1 := ⟨n - 1, by omega⟩
    have hkD : k < dN D := by omega
    have e := ih (k + 1) n (by omega) (by omega)
    rw [fb_sm_succ] at e
    unfold Mo_length_34
    rw [gd_0, mo_0 hR, if_neg (nI_ge hkD (by omega)), mo_isOf hD hR hkD ho, mo_isSlant hD hR hkD]
    cases c1 : ofI D o k
    · have hl : lenF D o k = 0 := by unfold lenF; rw [c1]; rfl
      rw [hl] at e
      simp (disch := omega) only [Option.bind_some, Bool.false_eq_true, if_false, if_true, z_lit, nI_add, z_eq, Nat.add_zero]
      exact e
    · cases c2 : decide (dW D k % 2 = 1)
      · have hl : lenF D o k = 20 := by unfold lenF; rw [c1, c2]; rfl
        rw [hl] at e
        simp (disch := omega) only [Option.bind_some, Bool.false_eq_true, if_false, if_true, z_lit, pk_mul, Nat.reduceMul, nI_add, z_eq, Nat.add_zero, Nat.reduceEqDiff, Nat.one_ne_zero]
        exact e
      · have hl : lenF D o k = 28 := by unfold lenF; rw [c1, c2]; rfl
        rw [hl] at e
        simp (disch := omega) only [Option.bind_some, Bool.false_eq_true, if_false, if_true, z_lit, pk_mul, Nat.reduceMul, nI_add, z_eq, Nat.add_zero, Nat.reduceEqDiff, Nat.one_ne_zero]
        exact e
def slOK (h w : Nat) : Bool := match stp h w with
  | none => true
  | some t => decide (w % 2 = 1) == !(decide (jAbs (nI t - nI h) = 1) || decide (jAbs (nI t - nI h) = 12))
theorem slant_all : ∀ h, h < 144 → ∀ w, w < 8 → slOK h w = true := by decide +kernel
theorem slant_dec {h w t : Nat} (hh : h < 144) (hw : w < 8) (e : stp h w = some t) : decide (w % 2 = 1) = !(decide (jAbs (nI t - nI h) = 1) || decide (jAbs (nI t - nI h) = 12)) := by
  have q := slant_all h hh w hw
  unfold slOK at q
  rw [e] at q
  exact eq_of_beq q
theorem dr_len_lp (hD : WD D) (hC : CD 3 D P) {o : Option Nat} (ho : ∀ k, o = some k → k < 4) : ∀ (m k n : Nat), k + m = dN D → m < n → Dr_threadFor_4 3 (enc o) P n (nI (fb_sm (lenF D o) k)) (nI k) = some (nI (fb_sm (lenF D o) (dN D))) := by
  have h60 := hD.1
  intro m
  induction m with
  | zero =>
    intro k n hk hn
    obtain ⟨n, rfl⟩ : ∃ q, n = q + 1 := ⟨n - 1, by omega⟩
    obtain rfl : k = dN D := by omega
    unfold Dr_threadFor_4
    rw [hC.1, if_pos (by rw [z_le (by omega) (by omega)]; exact Nat.le_refl _)]
  | succ m ih =>
    intro k n hk hn
    obtain ⟨n, rfl⟩ : ∃ q, n = q + 1 := ⟨n - 1, by omega⟩
    have hkD : k < dN D := by omega
    have e := ih (k + 1) n (by omega) (by omega)
    rw [fb_sm_succ] at e
    obtain ⟨f1, f2, f3, f4⟩ := hD.2.1 k hkD
    have hs := slant_dec f1 f2 f4
    have g : ofI D o k = true → Dr_threadFor_26 (Dr_threadFor_4 3 (enc o) P n) 3 (enc o) (nI (fb_sm (lenF D o) k)) (nI k) P = some (nI (fb_sm (lenF D o) (dN D))) := by
      intro c
      have hl : lenF D o k = if decide (dW D k % 2 = 1) then 28 else 20 := by unfold lenF; rw [c]; rfl
      rw [hl, hs] at e
      unfold Dr_threadFor_26
      rw [dr_to hD hC hkD, dr_from hD hC hkD]
      simp only [Option.bind_some]
      by_cases c1 : jAbs (nI (dT D k) - nI (dF D k)) = 1
      · rw [if_pos c1]
        simp only [c1, decide_true, Bool.true_or, Bool.not_true, Bool.false_eq_true, if_false] at e
        rw [show nI k + 1 = nI (k + 1) from nI_1 _, show (20 : Int32) = nI 20 from rfl, nI_add]
        exact e
      · rw [if_neg c1]
        by_cases c2 : jAbs (nI (dT D k) - nI (dF D k)) = 12
        · rw [if_pos c2]
          simp only [c2, decide_true, Bool.or_true, Bool.not_true, Bool.false_eq_true, if_false] at e
          rw [show nI k + 1 = nI (k + 1) from nI_1 _, show (20 : Int32) = nI 20 from rfl, nI_add]
          exact e
        · rw [if_neg c2]
          simp only [c1, c2, decide_false, Bool.or_false, Bool.not_false, if_true] at e
          rw [show nI k + 1 = nI (k + 1) from nI_1 _, show (28 : Int32) = nI 28 from rfl, nI_add]
          exact e
    unfold Dr_threadFor_4
    rw [hC.1, if_neg (nI_ge hkD (by omega))]
    cases o with
    | none =>
      rw [if_pos (show enc none = (-1 : Int32) from rfl)]
      exact g rfl
    | some c =>
      have hc := ho c rfl
      rw [if_neg (show ¬ enc (some c) = (-1 : Int32) from nI_nm (by omega)), dr_ink hD hC hkD]
      simp only [Option.bind_some]
      by_cases c1 : dI D k = c
      · rw [if_pos (show nI (dI D k) = enc (some c) by rw [c1]; rfl)]
        exact g (by unfold ofI; simp [c1])
      · rw [if_neg (show ¬ nI (dI D k) = enc (some c) by show ¬ nI (dI D k) = nI c; rw [z_eq (by omega) (by omega)]; exact c1)]
        have : lenF D (some c) k = 0 := by unfold lenF ofI; simp [c1]
        rw [this, Nat.add_zero] at e
        rw [show nI k + 1 = nI (k + 1) from nI_1 _]
        exact e
theorem call_length (h : INVx D N P) (v : Int32) : callP (Bs_length v P) (Mo_length v) [IAE] P := by
  obtain ⟨hD, hN, hR, hRN, hC, hCN, -⟩ := id h
  have h60 := hD.1
  have g : ∀ o : Option Nat, (∀ k, o = some k → k < 4) → ∀ Q, INVx D N Q → Mo_length_18 (enc o) (0 : Int32) Q = some (nI (fb_sm (lenF D o) (dN D)), sI Q 1 5 (nI 0)) := by
    intro o ho Q hQ
    unfold Mo_length_18
    simp only [Option.bind_some, at5, le00, if_true]
    exact mo_len_lp hD (hQ.s5 0).2.2.1 ho (dN D) 0 bigN (by omega) (big_gt (by omega))
  have gd : ∀ o : Option Nat, (∀ k, o = some k → k < 4) → Dr_threadFor 3 (enc o) P = some (nI (fb_sm (lenF D o) (dN D))) := fun o ho => dr_len_lp hD hC ho (dN D) 0 bigN (by omega) (big_gt (by omega))
  rcases ink_cases v with rfl | ⟨o2, o3⟩ | ⟨k, hk, rfl⟩
  · refine ⟨(0, nI (fb_sm (lenF D none) (dN D))), Nat.zero_le _, ?_, moI.aft h (moI.thr (fun _ => _) (fun Q hQ => ?_) (fun _ _ _ => rfl))⟩
    · unfold Bs_length
      rw [ckAll_m1, show Dr_threadFor 3 m1 P = _ from gd none (fun k q => by cases q)]
      rfl
    · unfold Mo_length
      rw [if_pos (show m1 = (-1 : Int32) from rfl)]
      exact g none (fun k q => by cases q) Q hQ
  · refine ⟨(1, 0), by decide, ?_, moI.aft h (moI.thr (fun _ => 0) (fun Q hQ => ?_) (fun q => absurd q (by decide)))⟩
    · unfold Bs_length; rw [ckAll_out o2 o3]; rfl
    · unfold Mo_length Mo_length_18
      rw [if_neg (show ¬ v = (-1 : Int32) from o2), isInk_out o3]
      simp only [Option.bind_some, if_true, at5, le10, if_false]
      rfl
  · refine ⟨(0, nI (fb_sm (lenF D (some k)) (dN D))), Nat.zero_le _, ?_, moI.aft h (moI.thr (fun _ => _) (fun Q hQ => ?_) (fun _ _ _ => rfl))⟩
    · unfold Bs_length
      rw [ckAll_in hk, show Dr_threadFor 3 (nI k) P = _ from gd (some k) (fun k' q => by cases q; exact hk)]
      rfl
    · unfold Mo_length
      rw [if_neg (show ¬ nI k = (-1 : Int32) from nI_nm (by omega)), isInk_in hk]
      simp only [Option.bind_some, nz1, if_false]
      exact g (some k) (fun k' q => by cases q; exact hk) Q hQ
end LK
