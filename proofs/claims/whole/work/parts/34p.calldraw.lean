/-! DRAWING: the call keeps what both sides share -/
section CDR
variable {D : DT} {N : NT} {P Q : PH}
theorem REST.of (h : INVx D N P) (hr : ∀ m, (18 < m ∧ m < 66 ∧ m ≠ 43) ∨ m = 72 ∨ (74 < m ∧ m ≠ 88 ∧ m ≠ 89 ∧ (m < 94 ∨ 98 < m)) → Q.1 m = P.1 m) (hl : ∀ m, 18 < m → m ≠ 43 → Q.2 m = P.2 m) (ht : TP Q) (e0 : Q.1 0 0 = Q.1 1 16) (e1 : Q.1 0 1 = Q.1 1 17) : REST Q := by
  obtain ⟨h1, h2, h3, h4, h5, h6, h7, h8, -⟩ := h
  refine ⟨fun i hi => ?_, fun i hi => ?_, ht, e0, e1⟩
  · have q := h7 i hi
    unfold TR at q ⊢
    rw [hr 108 (by omega), hr 109 (by omega), hr (53 + 2 * i) (by omega), hl (54 + 2 * i) (by omega) (by omega), hl 110 (by omega) (by omega)]
    exact q
  · have q := h8 i hi
    unfold IM imT at q ⊢
    rw [hr 92 (by omega), hr (61 + i) (by omega), hr 90 (by omega)]
    rcases q with q | ⟨q1, q2, D', N', q3, q4, q5, q6, q7, q8⟩
    · exact Or.inl q
    · exact Or.inr ⟨q1, q2, D', N', q3, q4, q5, q6, q7.keep (hr _ (by omega)) (hr _ (by omega)) (hr _ (by omega)) (hr _ (by omega)) (hr _ (by omega)) (hl _ (by omega) (by omega)) (hl _ (by omega) (by omega)) (hr _ (by omega)), q8.rows (hr _ (by omega)) (hr _ (by omega)) (hl _ (by omega) (by omega))⟩
theorem call_drawing (h : INVx D N P) (v : Int32) : callQ (Bs_drawing v P) (Mo_drawing v) [IAE] P := by
  obtain ⟨f, f1, f2, f3, f4⟩ := h.2.2.2.2.2.2.2.2.1
  rcases three v (f + 1) (by omega) with c | ⟨n, hn, rfl⟩
  · have wo := win_out (N := f + 1) (by omega) c f rfl
    refine ⟨(1, 0), P, Nat.le_refl _, ?_, fun P2 hP2 => ?_⟩
    · show _ = some (Sum.inl IAE, P)
      unfold Bs_drawing Bs_drawing_15
      by_cases z : v < 0
      · rw [if_pos z]
      · rw [if_neg z, f2, if_neg (fun q => wo ⟨Int32.not_lt.mp z, q⟩)]
    · have h2 : INVx D N P2 := h.scr hP2.scr
      refine ⟨0, sI (sI P2 1 5 0) 1 5 1, ?_, by rw [at5]; rfl, rfl, fun q => absurd q (by decide), D, N, (h2.s5 _).s5 _⟩
      unfold Mo_drawing Mo_fails
      rw [Option.bind_some, win0 v f _ (by rw [off5i _ _ (by decide), hP2.1, f3]), if_neg wo, Option.bind_some, if_pos rfl, Option.bind_some, Option.bind_some]
  · obtain ⟨a, P1, Q1, a1, -⟩ := drw_both (P := P) (Q := P) (n := n) (f := f) (by omega) f1 f2 f3 f4 rfl
    have key := fun (Q : PH) (q7 : Q.1 1 7 = nI f) (h93 : Q.1 93 = P.1 93) => drw_both (P := P) (Q := Q) (n := n) (f := f) (by omega) f1 f2 q7 f4 h93
    have oc : oWc P P1 := by
      obtain ⟨a', P1', Q', b1, b2, b3, b4, b5, b6, b7, b8, -⟩ := key P f3 rfl
      rw [a1] at b1
      injection b1 with b1
      injection b1 with b0 b1
      rw [b1]
      exact b8
    refine ⟨(0, a), P1, Nat.zero_le _, a1, fun P2 hP2 => ?_⟩
    obtain ⟨a', P1', Q', b1, b2, b3, b4, b5, b6, b7, b8, b9, b10⟩ := key P2 (by rw [hP2.1, oc.1 1 (by omega)]; exact f3) (by rw [hP2.1]; exact oc.1 93 (by omega))
    rw [a1] at b1
    injection b1 with b1
    injection b1 with b0 b1
    injection b0 with b0
    subst b0 b1
    have rw1 : ∀ m, m ≠ 1 → m ≠ 88 → m ≠ 89 → m < 94 ∨ 98 < m → Q'.1 m = P1.1 m := fun m x1 x2 x3 x4 => by rw [b9.1 m x1 x2 x3 x4, hP2.1]
    have lw1 : ∀ m, m ≠ 2 → Q'.2 m = P1.2 m := fun m x1 => by rw [b9.2, hP2.2 m x1]
    have rest : REST Q' := REST.of h (fun m hm => by rw [rw1 m (by omega) (by omega) (by omega) (by omega)]; exact oc.1 m (by omega)) (fun m x1 x2 => by rw [lw1 m (by omega)]; exact oc.2 m (by omega)) ⟨0, by decide, by rw [rw1 71 (by decide) (by decide) (by decide) (by decide)]; exact b3, b4, fun k hk => absurd hk (Nat.not_lt_zero k)⟩ (by rw [rw1 0 (by decide) (by decide) (by decide) (by decide)]; exact b6) (by rw [rw1 0 (by decide) (by decide) (by decide) (by decide)]; exact b7)
    refine ⟨a, Q', b2, b5, by rw [b9.2], fun _ => rfl, ?_⟩
    rcases b10 with ⟨D', d1, d2, d3, d4, d5, d6, d7, d8, d9⟩ | ⟨d1, d2⟩
    · refine ⟨D', N00, d1, fun q => (by cases q), d8, d9, ?_, ?_, rest⟩
      · exact d2.keep (rw1 _ (by decide) (by decide) (by decide) (by decide)) (rw1 _ (by decide) (by decide) (by decide) (by decide)) (rw1 _ (by decide) (by decide) (by decide) (by decide)) (rw1 _ (by decide) (by decide) (by decide) (by decide)) (rw1 _ (by decide) (by decide) (by decide) (by decide)) (lw1 _ (by decide)) (lw1 _ (by decide)) (rw1 _ (by decide) (by decide) (by decide) (by decide))
      · have r43 := rw1 43 (by decide) (by decide) (by decide) (by decide)
        have l43 := lw1 43 (by decide)
        refine ⟨fun i hi => ?_, fun i hi => ?_, ?_, ?_, ?_, fun q => by cases q⟩
        · rw [l43, d3, bL_0]
          show false = (decide (i < dN D') && false)
          rw [Bool.and_false]
        · rw [l43, d4, bL_0]
          show false = (decide (i < dN D') && false)
          rw [Bool.and_false]
        · rw [r43, d5]; rfl
        · rw [r43, d6]; rfl
        · rw [r43, d7]
          exact h.2.2.2.2.2.1.2.2.2.2.1
    · obtain ⟨h1, h2, h3, h4, h5, h6, -⟩ := h
      have same : ∀ m, (3 ≤ m ∧ m ≤ 10) ∨ m = 43 → Q'.1 m = P.1 m ∧ Q'.2 m = P.2 m := fun m hm => ⟨(rw1 m (by omega) (by omega) (by omega) (by omega)).trans (d1 m hm).1, (lw1 m (by omega)).trans (d1 m hm).2⟩
      have s88 : Q'.1 88 = P.1 88 := by rw [d2, hP2.1]; exact oc.1 88 (by omega)
      refine ⟨D, N, h1, h2, by rw [s88]; exact h3, by rw [s88]; exact h4, ?_, ?_, rest⟩
      · exact h5.keep (same _ (by omega)).1 (same _ (by omega)).1 (same _ (by omega)).1 (same _ (by omega)).1 (same _ (by omega)).1 (same _ (by omega)).2 (same _ (by omega)).2 (same _ (by omega)).1
      · exact h6.rows (same 43 (by omega)).1 ((rw1 44 (by decide) (by decide) (by decide) (by decide)).trans (oc.1 44 (by omega))) (same 43 (by omega)).2
end CDR
