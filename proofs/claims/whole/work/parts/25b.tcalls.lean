/-! MORE CALLS OF THE THREAD -/
def clsU (l : List String) (t : Nat) : String ⊕ Unit := if t = 0 then .inr () else .inl (l.getD (t - 1) "")
def callVo (c : Option ((String ⊕ Unit) × PH)) (m : PH → Option PH) (l : List String) (P : PH) : Prop := ∃ (t : Nat) (P1 : PH), t ≤ l.length ∧ c = some (clsU l t, P1) ∧ ∀ P2, out2 P1 P2 → ∃ Q, m P2 = some Q ∧ Q.1 1 5 = nI t ∧ INV Q
def bgN (N : NT) (h k : Nat) (b : Bool) : NT := (xO N, xU N, xC N + nI (if xT N then 1 else 0), true, k, h, b, 0, xD N)
def ctN (N : NT) : NT := (xO N, xU N, xC N + 1, false, xIk N, xB N, xVf N, xM N, xD N)
def bk1 (D : DT) (N : NT) : NT := match lnA D (xH N (xM N - 1)) (xD N (xM N - 1)) with
  | some l => bkN N l
  | none => N
def bkIt (D : DT) : Nat → NT → NT
  | 0, N => N
  | m + 1, N => bkIt D m (bk1 D N)
section TC2
variable {D : DT} {N : NT} {P : PH}
theorem scr5 (P : PH) (v : Int32) : scr P (sI P 1 5 v) := (scr.rf P).sI _ rfl
theorem INVx.cells {Q : PH} {N' : NT} (h : INVx D N P) (hN' : WN D N') (s : scrW P Q) (f2 : RD D (Q.1 88)) (f3 : RN D N' (Q.1 88)) (k3 : ∀ n, 3 ≤ n → n ≤ 10 → Q.1 n = P.1 n ∧ Q.2 n = P.2 n) (hC : CN 43 D N' Q) : INVx D N' Q :=
  INVx.of h.1 hN' f2 f3 (h.2.2.2.2.1.keep (k3 3 (by omega) (by omega)).1 (k3 4 (by omega) (by omega)).1 (k3 5 (by omega) (by omega)).1 (k3 6 (by omega) (by omega)).1 (k3 7 (by omega) (by omega)).1 (k3 8 (by omega) (by omega)).2 (k3 9 (by omega) (by omega)).2 (k3 10 (by omega) (by omega)).1) hC (h.rest.keep s)
theorem CN.rows {Q : PH} {nd : Nat} (h : CN nd D N P) (h0 : Q.1 nd = P.1 nd) (h1 : Q.1 (nd + 1) = P.1 (nd + 1)) (h2 : Q.2 nd = P.2 nd) : CN nd D N Q := by
  unfold CN
  rw [h0, h1, h2]
  exact h
/-- class first (its needle alone), then the reference (its row alone): one state -/
theorem two_steps {P1 P2 Q : PH} {N' : NT} {v : Int32} (h : INVx D N P) (hN' : WN D N') (g2 : CN 43 D N' P1) (g3 : onlyN 43 P P1) (hP2 : out2 P1 P2) (f2 : RD D (Q.1 88)) (f3 : RN D N' (Q.1 88)) (f4 : only88 (sI P2 1 5 v) Q) : INV Q ∧ Q.1 1 5 = v ∧ Q.2 2 = P2.2 2 := by
  have s1 : scr P1 (sI P2 1 5 v) := hP2.scr.sI _ rfl
  refine ⟨⟨D, N', h.cells hN' (g3.W.tr (s1.W.tr f4.W)) f2 f3 (fun n a b => ⟨?_, ?_⟩) ?_⟩, ?_, ?_⟩
  · rw [f4.1 n (by omega), off5 _ _ (by omega), hP2.1, g3.1 n (by omega) (by omega)]
  · rw [f4.2]
    show P2.2 n = P.2 n
    rw [hP2.2 n (by omega), g3.2 n (by omega)]
  · have g2' := g2.scr s1 (iR_rg (by omega)) (iR_rg (by omega)) (iL_rg (by omega))
    exact g2'.rows (f4.1 43 (by decide)) (f4.1 44 (by decide)) (by rw [f4.2])
  · rw [f4.1 1 (by decide)]; exact at5 _ _
  · rw [f4.2]; rfl
theorem row88 {P1 P2 : PH} {v : Int32} (g3 : onlyN 43 P P1) (hP2 : out2 P1 P2) : (sI P2 1 5 v).1 88 = P.1 88 := by rw [off5 _ _ (by decide), hP2.1, g3.1 88 (by decide) (by decide)]
theorem call_begin (h : INVx D N P) (v1 v2 : Int32) (b : Bool) : callVo (Bs_begin v1 v2 (if b then 1 else 0) P) (Mo_begin v1 v2 (if b then 1 else 0)) [NSE, IAE] P := by
  obtain ⟨hD, hN, hR, hRN, hC, hCN, hRest⟩ := id h
  rcases three v1 144 (by decide) with o1 | ⟨j, hj, rfl⟩
  · refine ⟨1, P, by decide, ?_, fun P2 hP2 => ⟨sI P2 1 5 (nI 1), ?_, at5 _ _, D, N, h.scr (hP2.scr.sI _ rfl)⟩⟩
    · unfold Bs_begin; rw [ckHole_out o1]; rfl
    · unfold Mo_begin Mo_begin_24
      rw [isHole_out o1]
      simp only [Option.bind_some, if_true, at5, le10, if_false]
      rfl
  · rcases three v2 4 (by decide) with o2 | ⟨k, hk, rfl⟩
    · refine ⟨2, P, by decide, ?_, fun P2 hP2 => ⟨sI P2 1 5 (nI 2), ?_, at5 _ _, D, N, h.scr (hP2.scr.sI _ rfl)⟩⟩
      · unfold Bs_begin; rw [ckHole_in hj, ckInk_out o2]; rfl
      · unfold Mo_begin Mo_begin_24
        rw [isHole_in hj, isInk_out o2]
        simp only [Option.bind_some, nz1, if_false, if_true, at5, le20]
        rfl
    · -- the class's needle
      have hst : ∃ P1, Ne_start 43 (nI j) (nI k) (if b then 1 else 0) P = some P1 ∧ onlyN 43 P P1 ∧ P1.2 = P.2 ∧ P1.1 44 = P.1 44 ∧ P1.1 43 2 = nI 1 ∧ P1.1 43 3 = nI k ∧ P1.1 43 4 = nI j ∧ P1.1 43 5 = nI j ∧ P1.1 43 6 = nI 0 ∧ P1.1 43 7 = xC N + nI (if xT N then 1 else 0) ∧ P1.1 43 8 = nI (if b then 1 else 0) := by
        have key : ∀ P9 : PH, ∃ P1, Ne_start_11 43 (nI j) (nI k) (if b then 1 else 0) P9 = some P1 ∧ onlyN 43 P9 P1 ∧ P1.2 = P9.2 ∧ P1.1 44 = P9.1 44 ∧ P1.1 43 2 = nI 1 ∧ P1.1 43 3 = nI k ∧ P1.1 43 4 = nI j ∧ P1.1 43 5 = nI j ∧ P1.1 43 6 = nI 0 ∧ P1.1 43 7 = P9.1 43 7 ∧ P1.1 43 8 = nI (if b then 1 else 0) := by
          intro P9
          refine ⟨sI (sI (sI (sI (sI (sI P9 43 2 1) 43 3 (nI k)) 43 4 (nI j)) 43 5 (nI j)) 43 6 0) 43 8 (if b then 1 else 0), ?_, ((((((onlyN.rf 43 P9).i0 _ _).i0 _ _).i0 _ _).i0 _ _).i0 _ _).i0 _ _, rfl, ?_, ?_, ?_, ?_, ?_, ?_, ?_, ?_⟩
          · unfold Ne_start_11
            simp only [gd1, gq1, gdb, Option.bind_some]
          · simp only [rowI_o, ne_eq, Nat.reduceEqDiff, not_false_eq_true]
          · simp only [rowI_s]; simp [pk_us, pk_un]; rfl
          · simp only [rowI_s]; simp [pk_us, pk_un]
          · simp only [rowI_s]; simp [pk_us, pk_un]
          · simp only [rowI_s]; simp [pk_us, pk_un]
          · simp only [rowI_s]; simp [pk_us, pk_un]; rfl
          · simp only [rowI_s]; simp [pk_us, pk_un]
          · simp only [rowI_s]; simp [pk_us, pk_un]; cases b <;> rfl
        unfold Ne_start
        rw [hCN.2.2.1]
        cases ht : xT N with
        | false =>
          obtain ⟨P1, q⟩ := key P
          refine ⟨P1, q.1, q.2.1, q.2.2.1, q.2.2.2.1, q.2.2.2.2.1, q.2.2.2.2.2.1, q.2.2.2.2.2.2.1, q.2.2.2.2.2.2.2.1, q.2.2.2.2.2.2.2.2.1, ?_, q.2.2.2.2.2.2.2.2.2.2⟩
          rw [q.2.2.2.2.2.2.2.2.2.1, hCN.2.2.2.1]
          show xC N = xC N + 0
          rw [Int32.add_zero]
        | true =>
          obtain ⟨P1, q⟩ := key (sI (sI P 43 2 0) 43 7 (P.1 43 7 + 1))
          have o9 : onlyN 43 P (sI (sI P 43 2 0) 43 7 (P.1 43 7 + 1)) := ((onlyN.rf 43 P).i0 _ _).i0 _ _
          refine ⟨P1, ?_, o9.tr q.2.1, q.2.2.1, ?_, q.2.2.2.2.1, q.2.2.2.2.2.1, q.2.2.2.2.2.2.1, q.2.2.2.2.2.2.2.1, q.2.2.2.2.2.2.2.2.1, ?_, q.2.2.2.2.2.2.2.2.2.2⟩
          · unfold Ne_snip
            simp only [gd0, gq0, Option.bind_some, rowI_s]
            rw [pk_un (show (7 : Nat) ≠ 2 by decide)]
            exact q.1
          · rw [q.2.2.2.1, rowI_o _ _ _ (by decide), rowI_o _ _ _ (by decide)]
          · rw [q.2.2.2.2.2.2.2.2.2.1, rowI_s, pk_us, hCN.2.2.2.1]
            rfl
      obtain ⟨P1, g0, g3, g4, g5, t2, t3, t4, t5, t6, t7, t8⟩ := hst
      have hN' : WN D (bgN N j k b) := fun _ => ⟨hk, hj, Nat.zero_le _, fun i hi => absurd hi (Nat.not_lt_zero _), fun i i2 _ hi => absurd hi (Nat.not_lt_zero _), Nat.zero_le _⟩
      have hCN' : CN 43 D (bgN N j k b) P1 := by
        obtain ⟨c1, c2, -⟩ := hCN
        refine ⟨by rw [g4]; exact c1, by rw [g4]; exact c2, t2, t7, ?_, fun _ => ⟨t3, t4, t5, t6, t8, fun i hi => absurd hi (Nat.not_lt_zero _)⟩⟩
        rw [t8]
        cases b
        · exact Or.inl rfl
        · exact Or.inr rfl
      refine ⟨0, P1, by decide, ?_, fun P2 hP2 => ?_⟩
      · unfold Bs_begin; rw [ckHole_in hj, ckInk_in hk, g0]; rfl
      · have e88 := row88 (v := 0) g3 hP2
        have h60 := hD.1
        obtain ⟨Q, hQ⟩ : ∃ Q, Q = sI (sI (sI (sI (sI (sI (sI P2 1 5 0) 88 1 (xC N + nI (if xT N then 1 else 0))) 88 2 1) 88 3 (nI k)) 88 4 (nI j)) 88 5 (if b then 1 else 0)) 88 6 0 := ⟨_, rfl⟩
        have f4 : only88 (sI P2 1 5 0) Q := by rw [hQ]; exact ((((((only88.rf _).s _ _).s _ _).s _ _).s _ _).s _ _).s _ _
        have f0 : Mo_begin (nI j) (nI k) (if b then 1 else 0) P2 = some Q := by
          unfold Mo_begin Mo_begin_24
          rw [isHole_in hj, isInk_in hk]
          simp only [Option.bind_some, nz1, if_false, at5, le00, if_true]
          have r1 : (sI P2 1 5 0).1 88 (1 : Int32).toNatClampNeg = xC N := by rw [e88]; exact hRN.2.1
          have r2 : (sI P2 1 5 0).1 88 (2 : Int32).toNatClampNeg = nI (if xT N then 1 else 0) := by rw [e88]; exact hRN.2.2.1
          rw [r1, r2]
          have d1 : (gdI (1 : Int32) 512 : Option PH → Option PH) = fun o => o := gdf 1 512 (by decide) (by decide)
          have d2 : (gdI (2 : Int32) 512 : Option PH → Option PH) = fun o => o := gdf 2 512 (by decide) (by decide)
          have d3 : (gdI (3 : Int32) 512 : Option PH → Option PH) = fun o => o := gdf 3 512 (by decide) (by decide)
          have d4 : (gdI (4 : Int32) 512 : Option PH → Option PH) = fun o => o := gdf 4 512 (by decide) (by decide)
          have d5 : (gdI (5 : Int32) 512 : Option PH → Option PH) = fun o => o := gdf 5 512 (by decide) (by decide)
          have d6 : (gdI (6 : Int32) 512 : Option PH → Option PH) = fun o => o := gdf 6 512 (by decide) (by decide)
          simp only [d1, d2, d3, d4, d5, d6]
          rw [hQ]
          cases b <;> rfl
        have e9 : Q.1 88 = upd (upd (upd (upd (upd (upd (P.1 88) 1 (xC N + nI (if xT N then 1 else 0))) 2 1) 3 (nI k)) 4 (nI j)) 5 (if b then 1 else 0)) 6 0 := by rw [hQ]; simp only [s88, e88]
        have f2 : RD D (Q.1 88) := by
          rw [e9]
          exact (((((hR.upd h60 (Or.inl (by omega))).upd h60 (Or.inl (by omega))).upd h60 (Or.inl (by omega))).upd h60 (Or.inl (by omega))).upd h60 (Or.inl (by omega))).upd h60 (Or.inl (by omega))
        have f3 : RN D (bgN N j k b) (Q.1 88) := by
          rw [e9]
          refine ⟨fun i hi => ?_, ?_, ?_, fun _ => ⟨?_, ?_, ?_, ?_, fun i hi => absurd hi (Nat.not_lt_zero _)⟩⟩
          · rw [pk_un (by omega), pk_un (by omega), pk_un (by omega), pk_un (by omega), pk_un (by omega), pk_un (by omega)]; exact hRN.1 i hi
          · rw [pk_un (by decide), pk_un (by decide), pk_un (by decide), pk_un (by decide), pk_un (by decide), pk_us]; rfl
          · rw [pk_un (by decide), pk_un (by decide), pk_un (by decide), pk_un (by decide), pk_us]; rfl
          · rw [pk_un (by decide), pk_un (by decide), pk_un (by decide), pk_us]; rfl
          · rw [pk_un (by decide), pk_un (by decide), pk_us]; rfl
          · rw [pk_un (by decide), pk_us]
            show (if b then (1 : Int32) else 0) = nI (if b then 1 else 0)
            cases b <;> rfl
          · rw [pk_us]; rfl
        obtain ⟨q1, q2, q3⟩ := two_steps h hN' hCN' g3 hP2 f2 f3 f4
        exact ⟨Q, f0, q2, q1⟩
end TC2
