/-! BARS: the class's look -/
section BRS2
variable {D : DT} {P : PH} {O U : Nat → Bool} {h : Nat} {b : Bool}
theorem rs_apart (hD : WD D) (hC : CD 3 D P) (hS : RSt D O U h b P) (hh : h < 144) : ∃ w, Rs_apart P = some w ∧ ∀ i, i < 64 → (bL w i = true ↔ i < dN D ∧ ((O i || U i) && !cP (Cl D (fun l => O l || U l) h i)) = true) := by
  obtain ⟨s1, s2, s3, s4⟩ := hS
  obtain ⟨y, e1, e2⟩ := tog (d := 3) (S := fun l => O l || U l) (x := P.2 75 4 ||| P.2 75 5) hD hC hh (fun i hi => by
    rw [bL_or, s1 i hi, s2 i hi]
    cases decide (i < dN D) <;> cases O i <;> cases U i <;> rfl)
  refine ⟨(P.2 75 4 ||| P.2 75 5) &&& (y ^^^ (-1)), ?_, fun i hi => ?_⟩
  · unfold Rs_apart
    rw [s3, e1, Option.bind_some]
  · rw [bL_and, bL_or, bL_not _ hi, s1 i hi, s2 i hi]
    have ey : bL y i = cP (Cl D (fun l => O l || U l) h i) := by
      cases q : bL y i
      · exact (ts_nt (fun r => by have := (e2 i hi).mpr (cP_iff.mp r); rw [q] at this; cases this)).symm
      · exact (cP_iff.mpr ((e2 i hi).mp q)).symm
    rw [ey]
    simp only [Bool.and_eq_true, Bool.or_eq_true, decide_eq_true_eq, Bool.not_eq_true']
    constructor
    · rintro ⟨a | a, c⟩
      · exact ⟨a.1, Or.inl a.2, c⟩
      · exact ⟨a.1, Or.inr a.2, c⟩
    · rintro ⟨a, c | c, e⟩
      · exact ⟨Or.inl ⟨a, c⟩, e⟩
      · exact ⟨Or.inr ⟨a, c⟩, e⟩
theorem rs_matches (hD : WD D) (hC : CD 3 D P) (hS : RSt D O U h b P) (hh : h < 144) : ∃ Q, Rs_matches P = some ((if (scn (fM D O U h b) 144 0 none).1 = none then (1 : Int32) else 0), Q) ∧ onlyR P Q ∧ Q.1 75 0 = P.1 75 0 ∧ Q.1 75 1 = atO (scn (fM D O U h b) 144 0 none).1 (P.1 75 1) ∧ Q.1 75 2 = enc (scn (fM D O U h b) 144 0 none).2 := by
  have o1 := (onlyR.rf P).s (k := 2) (by decide) (-1 : Int32)
  obtain ⟨Q, e1, e2, e3, e4, e5⟩ := rs_matches_lp hD hh 144 0 bigN (sI P 75 2 (-1 : Int32)) none rfl (big_gt (by omega)) (hC.keepR o1) (hS.keep o1) (fun a q => by cases q) (by rw [rowI_s, pk_us]; rfl)
  rw [show (nI 0 : Int32) = 0 from rfl] at e1
  refine ⟨Q, ?_, o1.tr e2, by rw [e3, rowI_s, pk_un (by decide)], by rw [e4, rowI_s, pk_un (by decide)], e5⟩
  unfold Rs_matches
  rw [Option.bind_some]
  exact e1
theorem apart_no {w : Int64} (hD : WD D) (hw : ∀ i, i < 64 → (bL w i = true ↔ i < dN D ∧ ((O i || U i) && !cP (Cl D (fun l => O l || U l) h i)) = true)) (hz : lg_cmp w 0 = 0) : fsp (fun l => (O l || U l) && !cP (Cl D (fun l => O l || U l) h l)) (dN D) = none := by
  have h60 := hD.1
  exact fsp_no (fun j hj => ts_nt (fun q => by
    have := (hw j (by omega)).mpr ⟨hj, q⟩
    rw [(lgz w).mp hz j (by omega)] at this
    cases this))
theorem apart_is {w : Int64} (hw : ∀ i, i < 64 → (bL w i = true ↔ i < dN D ∧ ((O i || U i) && !cP (Cl D (fun l => O l || U l) h i)) = true)) (hz : ¬ lg_cmp w 0 = 0) : ∃ i, i < 64 ∧ fsp (fun l => (O l || U l) && !cP (Cl D (fun l => O l || U l) h l)) (dN D) = some i ∧ ∀ P, Bs_lowest w P = some (nI i) := by
  have ex : ∃ k, k < 64 ∧ bL w k = true := by
    by_cases c : ∃ k, k < 64 ∧ bL w k = true
    · exact c
    · exact absurd ((lgz w).mpr (fun i hi => ts_nt (fun q => c ⟨i, hi, q⟩))) hz
  obtain ⟨i, hi, h1, h2⟩ := low_of ex
  obtain ⟨a, c⟩ := (hw i hi).mp h1
  refine ⟨i, hi, fsp_is a c (fun j hj => ts_nt (fun q => ?_)), fun P => low_is hi h1 h2 P⟩
  have := (hw j (by omega)).mpr ⟨by omega, q⟩
  rw [h2 j hj] at this
  cases this
theorem rs_look (hD : WD D) (hC : CD 3 D P) (hS : RSt D O U h b P) (hh : h < 144) : ∃ Q, Rs_look P = some Q ∧ onlyR P Q ∧ Q.1 75 0 = nI (barsS D O U h b).1 ∧ Q.1 75 1 = enc (barsS D O U h b).2.1 ∧ Q.1 75 2 = enc (barsS D O U h b).2.2 := by
  obtain ⟨P1, hP1⟩ : ∃ P1, P1 = sI (sI (sI P 75 0 (0 : Int32)) 75 1 (-1 : Int32)) 75 2 (-1 : Int32) := ⟨_, rfl⟩
  have o1 : onlyR P P1 := by rw [hP1]; exact (((onlyR.rf P).s (by decide) _).s (by decide) _).s (by decide) _
  have c0 : P1.1 75 0 = 0 := by rw [hP1, rowI_s, pk_un (by decide), rowI_s, pk_un (by decide), rowI_s, pk_us]
  have c1 : P1.1 75 1 = m1 := by rw [hP1, rowI_s, pk_un (by decide), rowI_s, pk_us]; rfl
  have c2 : P1.1 75 2 = m1 := by rw [hP1, rowI_s, pk_us]; rfl
  obtain ⟨w, a1, a2⟩ := rs_apart hD (hC.keepR o1) (hS.keep o1) hh
  have hd : ∀ Z, (if lg_cmp w 0 = 0 then (Rs_matches P1).bind (fun (x43 : Int32 × PH) => if x43.1 = 0 then ((some (sI x43.2 75 0 (2 : Int32))).bind fun (P51 : PH) => some P51) else some (x43.2)) else (some (sI P1 75 0 (1 : Int32))).bind (fun (P28 : PH) => (Bs_lowest w P28).bind fun (x33 : Int32) => (some (sI P28 75 1 x33)).bind fun (P36 : PH) => some P36)) = some Z → Rs_look P = some Z := by
    intro Z hZ
    unfold Rs_look
    rw [Option.bind_some, Option.bind_some, Option.bind_some, ← hP1, a1, Option.bind_some]
    exact hZ
  by_cases z : lg_cmp w 0 = 0
  · have f := apart_no hD a2 z
    obtain ⟨Q, e1, e2, e3, e4, e5⟩ := rs_matches hD (hC.keepR o1) (hS.keep o1) hh
    cases es : scn (fM D O U h b) 144 0 none with
    | mk bad last =>
      rw [es] at e1 e4 e5
      cases bad with
      | none =>
        have eb : barsS D O U h b = (0, none, last) := by unfold barsS; rw [f, es]
        rw [eb]
        have e1 : Rs_matches P1 = some ((1 : Int32), Q) := e1
        refine ⟨Q, hd _ ?_, o1.tr e2, by rw [e3, c0]; rfl, by rw [e4]; exact c1, e5⟩
        rw [if_pos z, e1, Option.bind_some, if_neg (show ¬ ((1 : Int32), Q).1 = 0 from (show ¬ (1 : Int32) = 0 by decide))]
      | some k =>
        have eb : barsS D O U h b = (2, some k, none) := by unfold barsS; rw [f, es]
        have hl : last = none := by
          have : ∀ (m k : Nat) (l0 : Option Nat), (scn (fM D O U h b) m k l0).1 ≠ none → (scn (fM D O U h b) m k l0).2 = none := by
            intro m
            induction m with
            | zero => intro k l0 q; exact absurd rfl q
            | succ m ih =>
              intro k l0 q
              rw [scn_s] at q ⊢
              by_cases y : fM D O U h b k = 0
              · rw [if_pos y] at q ⊢; exact ih _ _ q
              · rw [if_neg y] at q ⊢
                cases l0 with
                | some a => rfl
                | none =>
                  by_cases y2 : fM D O U h b k = 1 ∨ fM D O U h b k = -1
                  · have q : (if fM D O U h b k = 1 ∨ fM D O U h b k = -1 then scn (fM D O U h b) m (k + 1) (some k) else (some k, none)).1 ≠ none := q
                    show (if fM D O U h b k = 1 ∨ fM D O U h b k = -1 then scn (fM D O U h b) m (k + 1) (some k) else (some k, none)).2 = none
                    rw [if_pos y2] at q ⊢
                    exact ih _ _ q
                  · show (if fM D O U h b k = 1 ∨ fM D O U h b k = -1 then scn (fM D O U h b) m (k + 1) (some k) else (some k, none)).2 = none
                    rw [if_neg y2]
          have := this 144 0 none (by rw [es]; exact fun q => by cases q)
          rw [es] at this
          exact this
        have e1 : Rs_matches P1 = some ((0 : Int32), Q) := e1
        rw [eb]
        refine ⟨sI Q 75 0 (2 : Int32), hd _ ?_, (o1.tr e2).s (by decide) _, by rw [rowI_s, pk_us]; rfl, by rw [rowI_s, pk_un (by decide), e4]; rfl, by rw [rowI_s, pk_un (by decide), e5, hl]⟩
        rw [if_pos z, e1, Option.bind_some, if_pos (show ((0 : Int32), Q).1 = 0 from rfl), Option.bind_some]
  · obtain ⟨i, hi, f, g⟩ := apart_is a2 z
    have eb : barsS D O U h b = (1, some i, none) := by unfold barsS; rw [f]
    rw [eb]
    refine ⟨sI (sI P1 75 0 (1 : Int32)) 75 1 (nI i), hd _ ?_, ((o1.s (by decide) _).s (by decide) _), by rw [rowI_s, pk_un (by decide), rowI_s, pk_us]; rfl, by rw [rowI_s, pk_us]; rfl, by rw [rowI_s, pk_un (by decide), rowI_s, pk_un (by decide), c2]; rfl⟩
    rw [if_neg z, Option.bind_some, g, Option.bind_some, Option.bind_some]
theorem rs_endsWell (hD : WD D) (hC : CD 3 D P) (hS : RSt D O U h b P) (hh : h < 144) : ∃ Q, Rs_endsWell P = some ((if (barsS D O U h b).1 = 0 then (1 : Int32) else 0), Q) ∧ onlyR P Q := by
  obtain ⟨w, a1, a2⟩ := rs_apart hD hC hS hh
  unfold Rs_endsWell Rs_hangs
  rw [a1, Option.bind_some]
  by_cases z : lg_cmp w 0 = 0
  · have f := apart_no hD a2 z
    obtain ⟨Q, e1, e2, -⟩ := rs_matches hD hC hS hh
    rw [if_pos z, gd1, Option.bind_some, if_neg (by decide)]
    cases es : scn (fM D O U h b) 144 0 none with
    | mk bad last =>
      rw [es] at e1
      cases bad with
      | none =>
        have e1 : Rs_matches P = some ((1 : Int32), Q) := e1
        have eb : barsS D O U h b = (0, none, last) := by unfold barsS; rw [f, es]
        refine ⟨Q, ?_, e2⟩
        rw [e1, Option.bind_some, eb, if_neg (show ¬ ((1 : Int32), Q).1 = 0 from (show ¬ (1 : Int32) = 0 by decide)), gd1]
        rfl
      | some k =>
        have e1 : Rs_matches P = some ((0 : Int32), Q) := e1
        have eb : barsS D O U h b = (2, some k, none) := by unfold barsS; rw [f, es]
        refine ⟨Q, ?_, e2⟩
        rw [e1, Option.bind_some, eb, if_pos (show ((0 : Int32), Q).1 = 0 from rfl), gd0]
        rfl
  · obtain ⟨i, hi, f, g⟩ := apart_is a2 z
    have eb : barsS D O U h b = (1, some i, none) := by unfold barsS; rw [f]
    refine ⟨P, ?_, onlyR.rf P⟩
    rw [if_neg z, gd0, Option.bind_some, if_pos rfl, gd0, eb]
    rfl
end BRS2
