/-! SEEN, SAME, UNLIKE, COUNT -/
section LK2
variable {D : DT} {N : NT} {P : PH}
theorem mo_seen_lp {Q : PH} (hD : WD D) (hR : RD D (Q.1 88)) (hRN : RN D N (Q.1 88)) (v : Bool) : ∀ (m k n : Nat), k + m = dN D → m < n → Mo_seen_9 (if v then 1 else 0) n (nI (fb_ct (xWk N v) k)) (nI k) Q = some (nI (fb_ct (xWk N v) (dN D)), Q) := by
  have h60 := hD.1
  intro m
  induction m with
  | zero =>
    intro k n hk hn
    obtain ⟨n, rfl⟩ : ∃ q, n = q + 1 := ⟨n - 1, by omega⟩
    obtain rfl : k = dN D := by omega
    unfold Mo_seen_9
    rw [gd_0, mo_0 hR, if_pos (by rw [z_le (by omega) (by omega)]; exact Nat.le_refl _)]
  | succ m ih =>
    intro k n hk hn
    obtain ⟨n, rfl⟩ : ∃ q, n = q + 1 := ⟨n - 1, by omega⟩
    have hkD : k < dN D := by omega
    have e := ih (k + 1) n (by omega) (by omega)
    rw [fb_ct_succ] at e
    unfold Mo_seen_9
    rw [gd_0, mo_0 hR, if_neg (nI_ge hkD (by omega)), mo_worked hD hRN hkD, mo_face]
    simp only [Option.bind_some]
    cases c : xWk N v k
    · rw [if_pos ((wk_face N k v).mpr c)]
      rw [c] at e
      simp (disch := omega) only [Option.bind_some, Bool.false_eq_true, if_false, if_true, z_lit, pk_mul, Nat.reduceMul, nI_add, z_eq, Nat.add_zero, Nat.zero_add, Nat.reduceAdd, Nat.reduceEqDiff, Nat.one_ne_zero, Bool.false_and, Bool.true_and, Bool.xor_false, Bool.xor_true, Bool.false_xor, Bool.true_xor, Bool.not_true, Bool.not_false] at e ⊢
      exact e
    · rw [if_neg (fun q => by rw [(wk_face N k v).mp q] at c; cases c)]
      rw [c] at e
      simp (disch := omega) only [Option.bind_some, Bool.false_eq_true, if_false, if_true, z_lit, pk_mul, Nat.reduceMul, nI_add, z_eq, Nat.add_zero, Nat.zero_add, Nat.reduceAdd, Nat.reduceEqDiff, Nat.one_ne_zero, Bool.false_and, Bool.true_and, Bool.xor_false, Bool.xor_true, Bool.false_xor, Bool.true_xor, Bool.not_true, Bool.not_false] at e ⊢
      exact e
theorem call_seen (h : INVx D N P) (v : Bool) : callNo (Bs_seen (if v then 1 else 0) P) (Mo_seen (if v then 1 else 0)) P := by
  obtain ⟨hD, hN, hR, hRN, hC, hCN, -⟩ := id h
  have h60 := hD.1
  refine ⟨nI (fb_ct (xWk N v) (dN D)), ?_, sI P 1 5 0, ?_, D, N, h.s5 0⟩
  · unfold Bs_seen
    cases v
    · rw [if_pos (by decide), pop_is (n := dN D) (p := xWk N false) (by omega) hCN.2.1]
      rfl
    · rw [if_neg (by decide), pop_is (n := dN D) (p := xWk N true) (by omega) hCN.1]
      rfl
  · unfold Mo_seen
    simp only [Option.bind_some]
    have e := mo_seen_lp hD (h.s5 0).2.2.1 (h.s5 0).2.2.2.1 v (dN D) 0 bigN (by omega) (big_gt (by omega))
    rw [show fb_ct (xWk N v) 0 = 0 from rfl, show (nI 0 : Int32) = 0 from rfl] at e
    exact e
/-- on both faces alike -/
def alk (D : DT) (N : NT) : Prop := ∀ l, l < dN D → xO N l = xU N l
theorem wk12 (N : NT) (l : Nat) : (nI (wkN N l) = 1 ↔ xO N l = true ∧ xU N l = false) ∧ (nI (wkN N l) = 2 ↔ xO N l = false ∧ xU N l = true) ∧ (nI (wkN N l) = 3 ↔ xO N l = true ∧ xU N l = true) := by
  unfold wkN
  cases xO N l <;> cases xU N l <;> decide
theorem mo_same_yes {Q : PH} (hD : WD D) (hR : RD D (Q.1 88)) (hRN : RN D N (Q.1 88)) (ha : alk D N) : ∀ (m k n : Nat), k + m = dN D → m < n → Mo_isSame_2 Q n (nI k) = some 1 := by
  have h60 := hD.1
  intro m
  induction m with
  | zero =>
    intro k n hk hn
    obtain ⟨n, rfl⟩ : ∃ q, n = q + 1 := ⟨n - 1, by omega⟩
    obtain rfl : k = dN D := by omega
    unfold Mo_isSame_2
    rw [gd_0, mo_0 hR, if_pos (by rw [z_le (by omega) (by omega)]; exact Nat.le_refl _), gd1]
  | succ m ih =>
    intro k n hk hn
    obtain ⟨n, rfl⟩ : ∃ q, n = q + 1 := ⟨n - 1, by omega⟩
    have hkD : k < dN D := by omega
    have e := ih (k + 1) n (by omega) (by omega)
    have a := ha k hkD
    unfold Mo_isSame_2
    rw [gd_0, mo_0 hR, if_neg (nI_ge hkD (by omega)), mo_worked hD hRN hkD]
    simp only [Option.bind_some]
    rw [if_neg (fun q => by have := (wk12 N k).1.mp q; rw [a, this.2] at this; exact absurd this.1 (by decide)), if_neg (fun q => by have := (wk12 N k).2.1.mp q; rw [a, this.2] at this; exact absurd this.1 (by decide)), show nI k + 1 = nI (k + 1) from nI_1 _]
    exact e
theorem mo_same_no {Q : PH} (hD : WD D) (hR : RD D (Q.1 88)) (hRN : RN D N (Q.1 88)) {i : Nat} (hi : i < dN D) (hne : xO N i ≠ xU N i) : ∀ (m k n : Nat), k + m = dN D → k ≤ i → m < n → Mo_isSame_2 Q n (nI k) = some 0 := by
  have h60 := hD.1
  intro m
  induction m with
  | zero => intro k n hk hki hn; omega
  | succ m ih =>
    intro k n hk hki hn
    obtain ⟨n, rfl⟩ : ∃ q, n = q + 1 := ⟨n - 1, by omega⟩
    have hkD : k < dN D := by omega
    have w := wk12 N k
    unfold Mo_isSame_2
    rw [gd_0, mo_0 hR, if_neg (nI_ge hkD (by omega)), mo_worked hD hRN hkD, gd0]
    simp only [Option.bind_some]
    by_cases c1 : nI (wkN N k) = 1
    · rw [if_pos c1]
    · rw [if_neg c1]
      by_cases c2 : nI (wkN N k) = 2
      · rw [if_pos c2]
      · rw [if_neg c2]
        have c3 : k ≠ i := by
          intro q
          rw [q] at c1 c2 w
          cases c4 : xO N i <;> cases c5 : xU N i
          · exact hne (c4.trans c5.symm)
          · exact c2 (w.2.1.mpr ⟨c4, c5⟩)
          · exact c1 (w.1.mpr ⟨c4, c5⟩)
          · exact hne (c4.trans c5.symm)
        rw [show nI k + 1 = nI (k + 1) from nI_1 _]
        exact ih (k + 1) n (by omega) (by omega) (by omega)
theorem alk_or (D : DT) (N : NT) : alk D N ∨ ∃ i, i < dN D ∧ xO N i ≠ xU N i := by
  by_cases c : ∃ i, i < dN D ∧ xO N i ≠ xU N i
  · exact Or.inr c
  · refine Or.inl (fun l hl => ?_)
    by_cases c2 : xO N l = xU N l
    · exact c2
    · exact absurd ⟨l, hl, c2⟩ c
theorem mo_isSame {Q : PH} (hD : WD D) (hR : RD D (Q.1 88)) (hRN : RN D N (Q.1 88)) : (alk D N → Mo_isSame Q = some 1) ∧ (∀ i, i < dN D → xO N i ≠ xU N i → Mo_isSame Q = some 0) := by
  have h60 := hD.1
  exact ⟨fun ha => mo_same_yes hD hR hRN ha (dN D) 0 bigN (by omega) (big_gt (by omega)), fun i hi hne => mo_same_no hD hR hRN hi hne (dN D) 0 bigN (by omega) (by omega) (big_gt (by omega))⟩
theorem cn_same {nd : Nat} (hD : WD D) (hCN : CN nd D N P) : (alk D N → lg_cmp (P.2 nd 0) (P.2 nd 1) = 0) ∧ (∀ i, i < dN D → xO N i ≠ xU N i → ¬ lg_cmp (P.2 nd 0) (P.2 nd 1) = 0) := by
  have h60 := hD.1
  refine ⟨fun ha => (lg0 _ _).mpr (bL_ext (fun i hi => ?_)), fun i hi hne q => hne ?_⟩
  · rw [hCN.1 i hi, hCN.2.1 i hi]
    by_cases c : i < dN D
    · rw [ha i c]
    · simp [c]
  · have e := (lg0 _ _).mp q
    have o := hCN.1 i (by omega)
    have u := hCN.2.1 i (by omega)
    rw [e, u] at o
    simpa [hi] using o.symm
theorem call_same (h : INVx D N P) : callNo (Bs_same P) Mo_same P := by
  obtain ⟨hD, hN, hR, hRN, hC, hCN, -⟩ := id h
  have c := cn_same (nd := 43) hD hCN
  have q := h.s5 0
  have m := mo_isSame hD q.2.2.1 q.2.2.2.1
  rcases alk_or D N with a | ⟨i, hi, hne⟩
  · refine ⟨1, ?_, sI P 1 5 0, ?_, D, N, q⟩
    · unfold Bs_same
      rw [if_pos (c.1 a), gd1]
    · unfold Mo_same
      simp only [Option.bind_some]
      rw [m.1 a]
      exact gd1
  · refine ⟨0, ?_, sI P 1 5 0, ?_, D, N, q⟩
    · unfold Bs_same
      rw [if_neg (c.2 i hi hne), gd0]
    · unfold Mo_same
      simp only [Option.bind_some]
      rw [m.2 i hi hne]
      exact gd0
def unl (D : DT) (N : NT) (h l : Nat) : Bool := dat D h l && (xO N l ^^ xU N l)
theorem mo_unl_lp {Q : PH} (hD : WD D) (hR : RD D (Q.1 88)) (hRN : RN D N (Q.1 88)) {h : Nat} (hh : h < 144) : ∀ (m k n : Nat), k + m = dN D → m < n → Mo_unlike_29 (nI h) n (nI (fb_ct (unl D N h) k)) (nI k) Q = some (nI (fb_ct (unl D N h) (dN D)), Q) := by
  have h60 := hD.1
  intro m
  induction m with
  | zero =>
    intro k n hk hn
    obtain ⟨n, rfl⟩ : ∃ q, n = q + 1 := ⟨n - 1, by omega⟩
    obtain rfl : k = dN D := by omega
    unfold Mo_unlike_29
    rw [gd_0, mo_0 hR, if_pos (by rw [z_le (by omega) (by omega)]; exact Nat.le_refl _)]
  | succ m ih =>
    intro k n hk hn
    obtain ⟨n, rfl⟩ : ∃ q, n = q + 1 := ⟨n - 1, by omega⟩
    have hkD : k < dN D := by omega
    have e := ih (k + 1) n (by omega) (by omega)
    rw [fb_ct_succ] at e
    have hu : unl D N h k = (dat D h k && (xO N k ^^ xU N k)) := rfl
    unfold Mo_unlike_29
    rw [gd_0, mo_0 hR, if_neg (nI_ge hkD (by omega)), mo_isAt hD hR hkD hh, mo_worked hD hRN hkD, show wkN N k = (if xO N k then 1 else 0) + (if xU N k then 2 else 0) from rfl]
    rw [hu] at e
    cases c : dat D h k
    · rw [c] at e
      simp (disch := omega) only [Option.bind_some, Bool.false_eq_true, if_false, if_true, z_lit, pk_mul, Nat.reduceMul, nI_add, z_eq, Nat.add_zero, Nat.zero_add, Nat.reduceAdd, Nat.reduceEqDiff, Nat.one_ne_zero, Bool.false_and, Bool.true_and, Bool.xor_false, Bool.xor_true, Bool.false_xor, Bool.true_xor, Bool.not_true, Bool.not_false] at e ⊢
      exact e
    · cases c1 : xO N k <;> cases c2 : xU N k <;> rw [c, c1, c2] at e <;> simp (disch := omega) only [Option.bind_some, Bool.false_eq_true, if_false, if_true, z_lit, pk_mul, Nat.reduceMul, nI_add, z_eq, Nat.add_zero, Nat.zero_add, Nat.reduceAdd, Nat.reduceEqDiff, Nat.one_ne_zero, Bool.false_and, Bool.true_and, Bool.xor_false, Bool.xor_true, Bool.false_xor, Bool.true_xor, Bool.not_true, Bool.not_false] at e ⊢ <;> exact e
theorem call_unlike (h : INVx D N P) (v : Int32) : callP (Bs_unlike v P) (Mo_unlike v) [NSE] P := by
  obtain ⟨hD, hN, hR, hRN, hC, hCN, -⟩ := id h
  have h60 := hD.1
  rcases three v 144 (by decide) with o | ⟨j, hj, rfl⟩
  · refine ⟨(1, 0), by decide, ?_, moI.aft h (moI.thr (fun _ => 0) (fun Q hQ => ?_) (fun q => absurd q (by decide)))⟩
    · unfold Bs_unlike; rw [ckHole_out o]; rfl
    · unfold Mo_unlike Mo_unlike_13
      rw [isHole_out o]
      simp only [Option.bind_some, if_true, at5, le10, if_false]
      rfl
  · refine ⟨(0, nI (fb_ct (unl D N j) (dN D))), Nat.zero_le _, ?_, moI.aft h (moI.thr (fun _ => nI (fb_ct (unl D N j) (dN D))) (fun Q hQ => ?_) (fun _ _ _ => rfl))⟩
    · unfold Bs_unlike
      rw [ckHole_in hj, dr_linesAt hj]
      simp only [Option.bind_some, Sum.elim_inr]
      rw [pop_is (n := dN D) (p := unl D N j) (by omega) (fun i hi => by
        rw [bL_and, bL_xor, hC.2.2.2.2.1 j hj i hi, hCN.1 i hi, hCN.2.1 i hi]
        unfold unl
        cases decide (i < dN D) <;> cases dat D j i <;> cases xO N i <;> cases xU N i <;> rfl)]
      rfl
    · have q := hQ.s5 0
      unfold Mo_unlike Mo_unlike_13
      rw [isHole_in hj]
      simp only [Option.bind_some, nz1, if_false, at5, le00, if_true]
      have e := mo_unl_lp hD q.2.2.1 q.2.2.2.1 hj (dN D) 0 bigN (by omega) (big_gt (by omega))
      rw [show fb_ct (unl D N j) 0 = 0 from rfl, show (nI 0 : Int32) = 0 from rfl] at e
      exact e
theorem mo_knots_lp {Q : PH} (hR : RD D (Q.1 88)) : ∀ (m k n : Nat), k + m = 144 → m < n → Mo_knots_4 Q n (nI (fb_ct (dK D) k)) (nI k) = some (nI (fb_ct (dK D) 144)) := by
  intro m
  induction m with
  | zero =>
    intro k n hk hn
    obtain ⟨n, rfl⟩ : ∃ q, n = q + 1 := ⟨n - 1, by omega⟩
    obtain rfl : k = 144 := by omega
    unfold Mo_knots_4
    rw [if_pos (by decide)]
  | succ m ih =>
    intro k n hk hn
    obtain ⟨n, rfl⟩ : ∃ q, n = q + 1 := ⟨n - 1, by omega⟩
    have e := ih (k + 1) n (by omega) (by omega)
    rw [fb_ct_succ] at e
    have hk9 : k < 144 := by omega
    unfold Mo_knots_4
    rw [if_neg (show ¬ (144 : Int32) ≤ nI k from nI_ge hk9 (by decide)), show (248 : Int32) + nI k = nI (248 + k) from by rw [show (248 : Int32) = nI 248 from rfl, nI_add], z_gd (by omega) (by decide), z_cl (by omega), hR.2.2 k hk9]
    simp only [Option.bind_some]
    rw [nI_add, show nI k + 1 = nI (k + 1) from nI_1 _]
    exact e
theorem mo_knots {Q : PH} (hR : RD D (Q.1 88)) : Mo_knots Q = some (nI (fb_ct (dK D) 144)) := mo_knots_lp hR 144 0 bigN (by omega) (big_gt (by omega))
def bothF (N : NT) (l : Nat) : Bool := xO N l && xU N l
theorem mo_cnt_lp {Q : PH} (hD : WD D) (hR : RD D (Q.1 88)) (hRN : RN D N (Q.1 88)) (v : Int32) : ∀ (m k n : Nat), k + m = dN D → m < n → Mo_count_9 v n (nI (fb_ct (bothF N) k)) (nI k) Q = Mo_count_42 v (nI (fb_ct (bothF N) (dN D))) Q := by
  have h60 := hD.1
  intro m
  induction m with
  | zero =>
    intro k n hk hn
    obtain ⟨n, rfl⟩ : ∃ q, n = q + 1 := ⟨n - 1, by omega⟩
    obtain rfl : k = dN D := by omega
    unfold Mo_count_9
    rw [gd_0, mo_0 hR, if_pos (by rw [z_le (by omega) (by omega)]; exact Nat.le_refl _)]
  | succ m ih =>
    intro k n hk hn
    obtain ⟨n, rfl⟩ : ∃ q, n = q + 1 := ⟨n - 1, by omega⟩
    have hkD : k < dN D := by omega
    have e := ih (k + 1) n (by omega) (by omega)
    rw [fb_ct_succ] at e
    have hu : bothF N k = (xO N k && xU N k) := rfl
    unfold Mo_count_9
    rw [gd_0, mo_0 hR, if_neg (nI_ge hkD (by omega)), mo_worked hD hRN hkD, show wkN N k = (if xO N k then 1 else 0) + (if xU N k then 2 else 0) from rfl]
    rw [hu] at e
    cases c1 : xO N k <;> cases c2 : xU N k <;> rw [c1, c2] at e <;> simp (disch := omega) only [Option.bind_some, Bool.false_eq_true, if_false, if_true, z_lit, pk_mul, Nat.reduceMul, nI_add, z_eq, Nat.add_zero, Nat.zero_add, Nat.reduceAdd, Nat.reduceEqDiff, Nat.one_ne_zero, Bool.false_and, Bool.true_and, Bool.xor_false, Bool.xor_true, Bool.false_xor, Bool.true_xor, Bool.not_true, Bool.not_false] at e ⊢ <;> exact e
theorem call_count (h : INVx D N P) (v : Int32) : callNo (Bs_count v P) (Mo_count v) P := by
  obtain ⟨hD, hN, hR, hRN, hC, hCN, hRest⟩ := id h
  have h60 := hD.1
  have q := h.s5 0
  obtain ⟨f, -, t1, t2, -⟩ := hRest.2.2.1
  have m := mo_cnt_lp hD q.2.2.1 q.2.2.2.1 v (dN D) 0 bigN (by omega) (big_gt (by omega))
  rw [show fb_ct (bothF N) 0 = 0 from rfl, show (nI 0 : Int32) = 0 from rfl] at m
  have pb := pop_is (x := P.2 43 0 &&& P.2 43 1) (n := dN D) (p := bothF N) (by omega) (fun i hi => by
    rw [bL_and, hCN.1 i hi, hCN.2.1 i hi]
    unfold bothF
    cases decide (i < dN D) <;> cases xO N i <;> cases xU N i <;> rfl) P
  have kn := mo_knots q.2.2.1
  have r0 : (sI P 1 5 0).1 88 (0 : Int32).toNatClampNeg = nI (dN D) := mo_0 q.2.2.1
  have r1 : (sI P 1 5 0).1 88 (1 : Int32).toNatClampNeg = xC N := q.2.2.2.1.2.1
  have r7 : (sI P 1 5 0).1 1 7 = nI f := by rw [off5i _ _ (by decide)]; exact t2
  have key : ∀ a, Bs_count v P = some a → Mo_count_42 v (nI (fb_ct (bothF N) (dN D))) (sI P 1 5 0) = some (a, sI P 1 5 0) → callNo (Bs_count v P) (Mo_count v) P := by
    intro a e1 e2
    refine ⟨a, e1, sI P 1 5 0, ?_, D, N, q⟩
    unfold Mo_count
    simp only [Option.bind_some]
    exact m.trans e2
  unfold Bs_count Mo_count_42 at key
  rw [hC.1, hC.2.1, hCN.2.2.2.1, t1, pb, kn, r0, r1, r7, gd_0, gd_1] at key
  simp only [Option.bind_some] at key
  unfold Bs_count
  rw [hC.1, hC.2.1, hCN.2.2.2.1, t1, pb]
  simp only [Option.bind_some]
  by_cases c0 : v = 0
  · simp only [c0, if_true] at key ⊢
    exact key _ rfl rfl
  · simp only [c0, if_false] at key ⊢
    by_cases c1 : v = 1
    · simp only [c1, if_true] at key ⊢
      exact key _ rfl rfl
    · simp only [c1, if_false] at key ⊢
      by_cases c2 : v = 2
      · simp only [c2, if_true] at key ⊢
        exact key _ rfl rfl
      · simp only [c2, if_false] at key ⊢
        by_cases c3 : v = 3
        · simp only [c3, if_true] at key ⊢
          exact key _ rfl rfl
        · simp only [c3, if_false] at key ⊢
          by_cases c4 : v = 4
          · simp only [c4, if_true] at key ⊢
            exact key _ rfl rfl
          · simp only [c4, if_false] at key ⊢
            exact key _ rfl rfl
end LK2
