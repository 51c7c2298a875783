/-! CALLS OF THE THREAD -/
def REST (P : PH) : Prop := (∀ i, i < 4 → TR P i) ∧ (∀ i, i < 3 → IM P i) ∧ TP P ∧ P.1 0 0 = P.1 1 16 ∧ P.1 0 1 = P.1 1 17
def wR (n k : Nat) : Bool := iR n k && (!(decide (3 ≤ n) && decide (n ≤ 10)) && (!decide (n = 43) && (!decide (n = 44) && !decide (n = 88))))
def wL (n : Nat) : Bool := iL n && (!(decide (3 ≤ n) && decide (n ≤ 10)) && !decide (n = 43))
/-- no more than scratch, the drawing, the needle and the reference's row have changed -/
def scrW (P Q : PH) : Prop := (∀ n k, wR n k = true → Q.1 n k = P.1 n k) ∧ ∀ n k, wL n = true → Q.2 n k = P.2 n k
theorem scrW.rf (P : PH) : scrW P P := ⟨fun _ _ _ => rfl, fun _ _ _ => rfl⟩
theorem scrW.tr {P Q R : PH} (h : scrW P Q) (h2 : scrW Q R) : scrW P R := ⟨fun n k q => (h2.1 n k q).trans (h.1 n k q), fun n k q => (h2.2 n k q).trans (h.2 n k q)⟩
theorem scr.W {P Q : PH} (h : scr P Q) : scrW P Q := ⟨fun n k q => h.1 n k (by unfold wR at q; simp only [Bool.and_eq_true] at q; exact q.1), fun n k q => h.2 n k (by unfold wL at q; simp only [Bool.and_eq_true] at q; exact q.1)⟩
theorem only88.W {P Q : PH} (h : only88 P Q) : scrW P Q := ⟨fun n k q => by rw [h.1 n (fun z => by rw [z] at q; unfold wR at q; simp at q)], fun n k _ => by rw [h.2]⟩
theorem onlyN.W {P Q : PH} (h : onlyN 43 P Q) : scrW P Q := ⟨fun n k q => by rw [h.1 n (fun z => by rw [z] at q; unfold wR at q; simp at q) (fun z => by rw [z] at q; unfold wR at q; simp at q)], fun n k q => by rw [h.2 n (fun z => by rw [z] at q; unfold wL at q; simp at q)]⟩
theorem wR_rg {n : Nat} (h : (19 ≤ n ∧ n ≤ 42) ∨ (47 ≤ n ∧ n ≤ 63) ∨ n = 72 ∨ n = 90 ∨ n = 92 ∨ n = 93 ∨ n = 108 ∨ n = 109) (k : Nat) : wR n k = true := by
  unfold wR
  rw [iR_rg (by omega)]
  simp only [Bool.true_and, Bool.and_eq_true, Bool.not_eq_true', Bool.and_eq_false_iff, decide_eq_false_iff_not]
  omega
theorem wL_rg {n : Nat} (h : (19 ≤ n ∧ n ≤ 42) ∨ (47 ≤ n ∧ n ≤ 60) ∨ n = 110) : wL n = true := by
  unfold wL
  rw [iL_rg (by omega)]
  simp only [Bool.true_and, Bool.and_eq_true, Bool.not_eq_true', Bool.and_eq_false_iff, decide_eq_false_iff_not]
  omega
theorem scrW.row {P Q : PH} (h : scrW P Q) {n : Nat} (hn : ∀ k, wR n k = true) : Q.1 n = P.1 n := funext (fun k => h.1 n k (hn k))
theorem scrW.rowL {P Q : PH} (h : scrW P Q) {n : Nat} (hn : wL n = true) : Q.2 n = P.2 n := funext (fun k => h.2 n k hn)
theorem REST.keep {P Q : PH} (h : REST P) (s : scrW P Q) : REST Q := by
  obtain ⟨h7, h8, ⟨f, g1, g2, g3, g4⟩, h10, h11⟩ := h
  have e90 := s.row (n := 90) (wR_rg (by omega))
  have e92 := s.row (n := 92) (wR_rg (by omega))
  have e93 := s.row (n := 93) (wR_rg (by omega))
  have e72 := s.row (n := 72) (wR_rg (by omega))
  have e108 := s.row (n := 108) (wR_rg (by omega))
  have e109 := s.row (n := 109) (wR_rg (by omega))
  refine ⟨fun i hi => ?_, fun i hi => ?_, ⟨f, g1, ?_, ?_, ?_⟩, ?_, ?_⟩
  · have q := h7 i hi
    unfold TR at q ⊢
    rw [e108, e109, s.row (n := 53 + 2 * i) (wR_rg (by omega)), s.rowL (n := 54 + 2 * i) (wL_rg (by omega)), s.rowL (n := 110) (wL_rg (by omega))]
    exact q
  · have q := h8 i hi
    unfold IM imT at q ⊢
    rw [e92, s.row (n := 61 + i) (wR_rg (by omega)), e90]
    rcases q with q | ⟨q1, q2, D', N', q3, q4, q5, q6, q7, q8⟩
    · exact Or.inl q
    · refine Or.inr ⟨q1, q2, D', N', q3, q4, q5, q6, ?_, ?_⟩
      · exact q7.keep (s.row (wR_rg (by omega))) (s.row (wR_rg (by omega))) (s.row (wR_rg (by omega))) (s.row (wR_rg (by omega))) (s.row (wR_rg (by omega))) (s.rowL (wL_rg (by omega))) (s.rowL (wL_rg (by omega))) (s.row (wR_rg (by omega)))
      · unfold CN
        rw [s.row (n := 47 + 2 * i) (wR_rg (by omega)), s.row (n := 47 + 2 * i + 1) (wR_rg (by omega)), s.rowL (n := 47 + 2 * i) (wL_rg (by omega))]
        exact q8
  · rw [s.1 71 0 rfl]; exact g2
  · rw [s.1 1 7 rfl]; exact g3
  · rw [e93, e72]; exact g4
  · rw [s.1 0 0 rfl, s.1 1 16 rfl]; exact h10
  · rw [s.1 0 1 rfl, s.1 1 17 rfl]; exact h11
theorem INVx.rest {D : DT} {N : NT} {P : PH} (h : INVx D N P) : REST P := h.2.2.2.2.2.2
theorem INVx.of {D : DT} {N : NT} {P : PH} (h1 : WD D) (h2 : WN D N) (h3 : RD D (P.1 88)) (h4 : RN D N (P.1 88)) (h5 : CD 3 D P) (h6 : CN 43 D N P) (h7 : REST P) : INVx D N P := ⟨h1, h2, h3, h4, h5, h6, h7⟩
/-- the same but for the law's own long -/
def out2 (P Q : PH) : Prop := Q.1 = P.1 ∧ ∀ n, n ≠ 2 → Q.2 n = P.2 n
theorem out2.scr {P Q : PH} (h : out2 P Q) : scr P Q := ⟨fun n k _ => by rw [h.1], fun n k q => by rw [h.2 n (fun z => by rw [z] at q; unfold iL at q; simp at q)]⟩
/-- what the reference does behind the class: it throws as the class does, else answers the same; the state is one -/
def mAft (m : PH → Option (Int32 × PH)) (r : Nat × Int32) (P1 : PH) : Prop := ∀ P2, out2 P1 P2 → ∃ b Q, m P2 = some (b, Q) ∧ Q.1 1 5 = nI r.1 ∧ Q.2 2 = P2.2 2 ∧ (r.1 = 0 → b = r.2) ∧ INV Q
theorem moI.aft {D : DT} {N : NT} {P : PH} {m : PH → Option (Int32 × PH)} {r : Nat × Int32} (h : INVx D N P) (hm : moI D N m r) : mAft m r P := by
  intro P2 h2
  obtain ⟨b, Q, q1, q2, q3, q4, q5⟩ := hm P2 (h.scr h2.scr)
  exact ⟨b, Q, q1, q2, q4, q5, D, N, (h.scr h2.scr).scr q3⟩
/-- the class looks only -/
def callP (c : Option (String ⊕ Int32)) (m : PH → Option (Int32 × PH)) (l : List String) (P : PH) : Prop := ∃ r : Nat × Int32, r.1 ≤ l.length ∧ c = some (clsI l r) ∧ mAft m r P
/-- the class changes its cells -/
def callQ (c : Option ((String ⊕ Int32) × PH)) (m : PH → Option (Int32 × PH)) (l : List String) (P : PH) : Prop := ∃ (r : Nat × Int32) (P1 : PH), r.1 ≤ l.length ∧ c = some (clsI l r, P1) ∧ mAft m r P1
section TCALLS
variable {D : DT} {N : NT} {P : PH}
theorem ckThread (hC : CN 43 D N P) : Bs_checkThread P = some (if xT N then .inr () else .inl ISE) := by
  unfold Bs_checkThread
  rw [hC.2.2.1]
  cases xT N <;> rfl
theorem m5 {T : Type} {x : T} : (if (1 : Int32) = 0 then x else x) = x := ite_self _
theorem call_may (h : INVx D N P) (v : Int32) : callP (Bs_may v P) (Mo_may v) [NSE] P := by
  obtain ⟨hD, hN, hR, hRN, hC, hCN, -⟩ := id h
  rcases three v 8 (by decide) with o | ⟨w, hw, rfl⟩
  · refine ⟨(1, 0), by decide, ?_, moI.aft h (moI.thr (fun _ => 0) (fun Q hQ => ?_) (fun q => absurd q (by decide)))⟩
    · unfold Bs_may; rw [ckWay_out o]; rfl
    · unfold Mo_may Mo_may_14
      rw [isWay_out o]
      simp only [Option.bind_some, if_true, at5, le10, if_false]
      rfl
  · refine ⟨(0, nI (rsn D N (some w))), Nat.zero_le _, ?_, moI.aft h (moI.thr (fun _ => nI (rsn D N (some w))) (fun Q hQ => ?_) (fun _ _ _ => rfl))⟩
    · unfold Bs_may; rw [ckWay_in hw, ne_hind_way (nd := 43) hD hC hN hCN hw]; rfl
    · have q := hQ.s5 0
      unfold Mo_may Mo_may_14
      rw [isWay_in hw]
      simp only [Option.bind_some, nz1, if_false, at5, le00, if_true]
      rw [mo_whyNot_way hD hN q.2.2.1 q.2.2.2.1 hw]
      rfl
theorem apt43 : apt 43 := fun j hj => by show 3 + j ≠ 43 ∧ 3 + j ≠ 44; omega
theorem call_stitch (h : INVx D N P) (v : Int32) : callQ (Bs_stitch v P) (Mo_stitch v) [NSE] P := by
  obtain ⟨hD, hN, hR, hRN, hC, hCN, hRest⟩ := id h
  rcases three v 8 (by decide) with o | ⟨w, hw, rfl⟩
  · refine ⟨(1, 0), P, by decide, ?_, moI.aft h (moI.thr (fun _ => 0) (fun Q hQ => ?_) (fun q => absurd q (by decide)))⟩
    · unfold Bs_stitch; rw [ckWay_out o]; rfl
    · unfold Mo_stitch Mo_stitch_14
      rw [isWay_out o]
      simp only [Option.bind_some, if_true, at5, le10, if_false]
      rfl
  · by_cases c : rsn D N (some w) = 0
    · obtain ⟨ht, w', l, q1, q2, q3, q4⟩ := rsn_0 c
      cases q1
      obtain ⟨P1, g1, g2, g3⟩ := ne_go (nd := 43) apt43 hD hC hN hCN hw c q2
      refine ⟨(0, 0), P1, Nat.zero_le _, ?_, fun P2 hP2 => ?_⟩
      · unfold Bs_stitch; rw [ckWay_in hw, g1]; rfl
      · have e88 : (sI P2 1 5 0).1 88 = P.1 88 := by rw [off5 _ _ (by decide), hP2.1, g3.1 88 (by decide) (by decide)]
        obtain ⟨Q, f1, f2, f3, f4⟩ := mo_goes (P := sI P2 1 5 0) hD hN (by rw [e88]; exact hR) (by rw [e88]; exact hRN) ht hw q2 q4
        have s1 : scr P1 (sI P2 1 5 0) := hP2.scr.sI _ rfl
        refine ⟨0, Q, ?_, ?_, ?_, fun _ => rfl, D, goN N w l, ?_⟩
        · unfold Mo_stitch Mo_stitch_14
          rw [isWay_in hw]
          simp only [Option.bind_some, nz1, if_false, at5, le00, if_true]
          rw [mo_whyNot_way hD hN (by rw [e88]; exact hR) (by rw [e88]; exact hRN) hw, c]
          simp only [Option.bind_some]
          rw [if_pos (show nI 0 = 0 from rfl), f1]
          rfl
        · rw [f4.1 1 (by decide)]; exact at5 _ _
        · rw [f4.2]; rfl
        · have k3 : ∀ n, 3 ≤ n → n ≤ 10 → Q.1 n = P.1 n ∧ Q.2 n = P.2 n := fun n a b => ⟨by rw [f4.1 n (by omega), off5 _ _ (by omega), hP2.1, g3.1 n (by omega) (by omega)], by rw [f4.2]; show P2.2 n = P.2 n; rw [hP2.2 n (by omega), g3.2 n (by omega)]⟩
          refine INVx.of hD (WN.go hD hN ht hw q2 q3 q4) f2 f3 (hC.keep (k3 3 (by omega) (by omega)).1 (k3 4 (by omega) (by omega)).1 (k3 5 (by omega) (by omega)).1 (k3 6 (by omega) (by omega)).1 (k3 7 (by omega) (by omega)).1 (k3 8 (by omega) (by omega)).2 (k3 9 (by omega) (by omega)).2 (k3 10 (by omega) (by omega)).1) ?_ (REST.keep (P := P) hRest (g3.W.tr (s1.W.tr f4.W)))
          have g2' := g2.scr s1 (iR_rg (by omega)) (iR_rg (by omega)) (iL_rg (by omega))
          unfold CN
          rw [f4.1 43 (by decide), f4.1 44 (by decide), f4.2]
          exact g2'
    · refine ⟨(0, nI (rsn D N (some w))), P, Nat.zero_le _, ?_, moI.aft h (moI.thr (fun _ => nI (rsn D N (some w))) (fun Q hQ => ?_) (fun _ _ _ => rfl))⟩
      · unfold Bs_stitch; rw [ckWay_in hw, ne_go_not (nd := 43) hD hC hN hCN (o := some w) (fun hh hlt => dr_lineBy hD hC hlt hw) c]; rfl
      · have q := hQ.s5 0
        have := rsn_le D N (some w)
        unfold Mo_stitch Mo_stitch_14
        rw [isWay_in hw]
        simp only [Option.bind_some, nz1, if_false, at5, le00, if_true]
        rw [mo_whyNot_way hD hN q.2.2.1 q.2.2.2.1 hw]
        simp only [Option.bind_some]
        rw [if_neg (nI_ne0 (by omega) (by omega))]
        rfl
end TCALLS
