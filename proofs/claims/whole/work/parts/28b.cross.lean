/-! CROSSINGS: the loops -/
section CRS2
variable {D : DT} {N : NT} {P : PH}
theorem cross_22 (hD : WD D) (hR : RD D (P.1 88)) {l : Nat} (hl : l < dN D) (v1 : Int32) (u : Bool) (hu : u = true ↔ v1 = 0) (r9 : Int32 → Int32 → PH → Option (Int32 × PH)) (s0 : Nat) : ∀ (m j n : Nat), j + m = l → m < n →
    Mo_crossings_22 r9 v1 (nI l) n (nI (s0 + fb_ct (Xl D u l) j)) (nI j) P = r9 (nI (s0 + fb_ct (Xl D u l) l)) (nI (l + 1)) P := by
  have h60 := hD.1
  intro m
  induction m with
  | zero =>
    intro j n hj hn
    obtain ⟨n, rfl⟩ : ∃ q, n = q + 1 := ⟨n - 1, by omega⟩
    obtain rfl : j = l := by omega
    unfold Mo_crossings_22
    rw [if_pos (by rw [z_le (by omega) (by omega)]; exact Nat.le_refl _), show nI j + 1 = nI (j + 1) from nI_1 _]
  | succ m ih =>
    intro j n hj hn
    obtain ⟨n, rfl⟩ : ∃ q, n = q + 1 := ⟨n - 1, by omega⟩
    have hjD : j < dN D := by omega
    have il := (hD.2.1 l hl).2.2.1
    have ij := (hD.2.1 j hjD).2.2.1
    have e := ih (j + 1) n (by omega) (by omega)
    rw [fb_ct_succ] at e
    have c0 : Xl D u l j = false → Mo_crossings_22 r9 v1 (nI l) n (nI (s0 + fb_ct (Xl D u l) j) + (0 : Int32)) (nI (j + 1)) P = r9 (nI (s0 + fb_ct (Xl D u l) l)) (nI (l + 1)) P := by
      intro hx
      rw [hx, if_neg (by decide)] at e
      rw [Int32.add_zero]
      exact e
    have c1 : Xl D u l j = true → Mo_crossings_22 r9 v1 (nI l) n (nI (s0 + fb_ct (Xl D u l) j) + (1 : Int32)) (nI (j + 1)) P = r9 (nI (s0 + fb_ct (Xl D u l) l)) (nI (l + 1)) P := by
      intro hx
      rw [hx, if_pos rfl, ← Nat.add_assoc] at e
      rw [show nI (s0 + fb_ct (Xl D u l) j) + (1 : Int32) = nI (s0 + fb_ct (Xl D u l) j + 1) from nI_1 _]
      exact e
    unfold Mo_crossings_22
    rw [if_neg (nI_ge (show j < l by omega) (by omega)), mo_isSlant hD hR hl, mo_isSlant hD hR hjD, mo_square hD hR hl, mo_square hD hR hjD, mo_ink hD hR hl, mo_ink hD hR hjD, show nI j + 1 = nI (j + 1) from nI_1 _, show decide (dW D l % 2 = 1) = slt D l from rfl, show decide (dW D j % 2 = 1) = slt D j from rfl]
    simp only [Option.bind_some]
    cases a1 : slt D l
    · rw [if_pos (by decide)]
      exact c0 (by unfold Xl; rw [a1]; rfl)
    · rw [if_neg (by decide)]
      cases a2 : slt D j
      · rw [if_pos (by decide)]
        exact c0 (by unfold Xl; rw [a1, a2]; rfl)
      · rw [if_neg (by decide)]
        obtain ⟨ql, -⟩ := slt_sq hD hl a1
        obtain ⟨q1, q2, -⟩ := slt_sq hD hl a1
        obtain ⟨q3, q4, -⟩ := slt_sq hD hjD a2
        by_cases a3 : sqr D l = sqr D j
        · rw [if_pos (show nI (sqr D l) = nI (sqr D j) by rw [a3])]
          by_cases a4 : v1 = 0
          · rw [if_pos a4]
            exact c1 (Xl_iff.mpr ⟨a1, a2, a3, Or.inl (hu.mpr a4)⟩)
          · rw [if_neg a4]
            by_cases a5 : dI D l = dI D j
            · rw [if_pos (show nI (dI D l) = nI (dI D j) by rw [a5])]
              exact c0 (ts_nt (fun z => by
                rcases (Xl_iff.mp z).2.2.2 with z | z
                · exact a4 (hu.mp z)
                · exact z a5))
            · rw [if_neg (show ¬ nI (dI D l) = nI (dI D j) by rw [z_eq (by omega) (by omega)]; exact a5)]
              exact c1 (Xl_iff.mpr ⟨a1, a2, a3, Or.inr a5⟩)
        · rw [if_neg (show ¬ nI (sqr D l) = nI (sqr D j) by rw [z_eq (by omega) (by omega)]; exact a3)]
          exact c0 (ts_nt (fun z => a3 (Xl_iff.mp z).2.2.1))
theorem cross_9 (hD : WD D) (hR : RD D (P.1 88)) (v1 : Int32) (u : Bool) (hu : u = true ↔ v1 = 0) : ∀ (m k n : Nat), k + m = dN D → m < n →
    Mo_crossings_9 v1 n (nI (fb_sm (fun l => fb_ct (Xl D u l) l) k)) (nI k) P = some (nI (fb_sm (fun l => fb_ct (Xl D u l) l) (dN D)), P) := by
  have h60 := hD.1
  intro m
  induction m with
  | zero =>
    intro k n hk hn
    obtain ⟨n, rfl⟩ : ∃ q, n = q + 1 := ⟨n - 1, by omega⟩
    obtain rfl : k = dN D := by omega
    unfold Mo_crossings_9
    rw [gd_0, mo_0 hR, if_pos (by rw [z_le (by omega) (by omega)]; exact Nat.le_refl _)]
  | succ m ih =>
    intro k n hk hn
    obtain ⟨n, rfl⟩ : ∃ q, n = q + 1 := ⟨n - 1, by omega⟩
    have hkD : k < dN D := by omega
    have e := ih (k + 1) n (by omega) (by omega)
    rw [fb_sm_succ] at e
    have c := cross_22 hD hR hkD v1 u hu (Mo_crossings_9 v1 n) (fb_sm (fun l => fb_ct (Xl D u l) l) k) k 0 bigN (by omega) (big_gt (by omega))
    rw [show fb_ct (Xl D u k) 0 = 0 from rfl, Nat.add_zero (fb_sm (fun l => fb_ct (Xl D u l) l) k), show (nI 0 : Int32) = 0 from rfl] at c
    unfold Mo_crossings_9
    rw [gd_0, mo_0 hR, if_neg (nI_ge hkD (by omega)), c]
    exact e
theorem dr_cross_lp (hD : WD D) {d : Nat} (hC : CD d D P) (v1 : Int32) (u : Bool) (hu : u = true ↔ v1 = 0) : ∀ (m k n : Nat), k + m = 144 → m < n → Dr_crossed_4 d v1 P n (nI (fb_ct (Bq D u) k)) (nI k) = some (nI (fb_ct (Bq D u) 144)) := by
  intro m
  induction m with
  | zero =>
    intro k n hk hn
    obtain ⟨n, rfl⟩ : ∃ q, n = q + 1 := ⟨n - 1, by omega⟩
    obtain rfl : k = 144 := by omega
    unfold Dr_crossed_4
    rw [if_pos (by decide)]
  | succ m ih =>
    intro k n hk hn
    obtain ⟨n, rfl⟩ : ∃ q, n = q + 1 := ⟨n - 1, by omega⟩
    have hk9 : k < 144 := by omega
    have e := ih (k + 1) n (by omega) (by omega)
    rw [fb_ct_succ] at e
    have c0 : Bq D u k = false → Dr_crossed_4 d v1 P n (nI (fb_ct (Bq D u) k)) (nI (k + 1)) = some (nI (fb_ct (Bq D u) 144)) := by
      intro hx
      rw [hx, if_neg (by decide)] at e
      exact e
    have c1 : Bq D u k = true → Dr_crossed_4 d v1 P n (nI (fb_ct (Bq D u) k + 1)) (nI (k + 1)) = some (nI (fb_ct (Bq D u) 144)) := by
      intro hx
      rw [hx, if_pos rfl] at e
      exact e
    have q1 : Dr_lineBy d (nI k) (1 : Int32) P = some (enc (lnA D k 1)) := dr_lineBy hD hC hk9 (by decide)
    have q2 : Bs_step (nI k) (0 : Int32) P = some (enc (stp k 0)) := bs_step hk9 (by decide) P
    have q3 : Dr_lineBy d (enc (stp k 0)) (3 : Int32) P = some (enc ((stp k 0).bind (fun t => lnA D t 3))) := by
      cases es : stp k 0 with
      | none => exact dr_lineBy_m1
      | some t => exact dr_lineBy hD hC (stp_some hk9 (by decide) es).1 (by decide)
    unfold Dr_crossed_4
    rw [if_neg (show ¬ (144 : Int32) ≤ nI k from (show ¬ nI 144 ≤ nI k from nI_ge hk9 (by decide))), q1, Option.bind_some, q2, Option.bind_some, q3, Option.bind_some, show nI k + 1 = nI (k + 1) from nI_1 _, show nI (fb_ct (Bq D u) k) + 1 = nI (fb_ct (Bq D u) k + 1) from nI_1 _]
    cases e1 : lnA D k 1 with
    | none =>
      rw [if_pos (show enc none = (-1 : Int32) from rfl)]
      exact c0 (by unfold Bq; rw [e1])
    | some a =>
      obtain ⟨t1, f1, f2, f3⟩ := lnA_some e1
      have ia := (hD.2.1 a f2).2.2.1
      have h60 := hD.1
      rw [if_neg (show ¬ enc (some a) = (-1 : Int32) from nI_nm (by omega))]
      cases e2 : (stp k 0).bind (fun t => lnA D t 3) with
      | none =>
        rw [if_pos (show enc none = (-1 : Int32) from rfl)]
        exact c0 (by unfold Bq; rw [e1, e2])
      | some b =>
        have hb : b < dN D := by
          cases es : stp k 0 with
          | none => rw [es] at e2; cases e2
          | some t =>
            rw [es] at e2
            obtain ⟨_, _, z, _⟩ := lnA_some (show lnA D t 3 = some b from e2)
            exact z
        have ib := (hD.2.1 b hb).2.2.1
        have hB : Bq D u k = (u || !decide (dI D a = dI D b)) := by unfold Bq; rw [e1, e2]
        rw [if_neg (show ¬ enc (some b) = (-1 : Int32) from nI_nm (by omega)), show enc (some a) = nI a from rfl, show enc (some b) = nI b from rfl, dr_ink hD hC f2, dr_ink hD hC hb]
        simp only [Option.bind_some]
        by_cases a4 : v1 = 0
        · rw [if_pos a4]
          exact c1 (by rw [hB, hu.mpr a4]; rfl)
        · rw [if_neg a4]
          have hu0 : u = false := ts_nt (fun z => a4 (hu.mp z))
          by_cases a5 : dI D a = dI D b
          · rw [if_pos (show nI (dI D a) = nI (dI D b) by rw [a5])]
            exact c0 (by rw [hB, hu0, a5]; simp)
          · rw [if_neg (show ¬ nI (dI D a) = nI (dI D b) by rw [z_eq (by omega) (by omega)]; exact a5)]
            exact c1 (by rw [hB, hu0]; simp [a5])
theorem call_crossings (h : INVx D N P) (v : Int32) : callNo (Bs_crossings v P) (Mo_crossings v) P := by
  obtain ⟨hD, hN, hR, hRN, hC, hCN, hRest⟩ := id h
  have h60 := hD.1
  have q := h.s5 0
  have hu : decide (v = 0) = true ↔ v = 0 := decide_eq_true_iff
  have e1 := dr_cross_lp hD hC v (decide (v = 0)) hu 144 0 bigN rfl (big_gt (by omega))
  have e2 := cross_9 hD q.2.2.1 v (decide (v = 0)) hu (dN D) 0 bigN (by omega) (big_gt (by omega))
  rw [cross_ct hD] at e2
  rw [show fb_ct (Bq D (decide (v = 0))) 0 = 0 from rfl, show (nI 0 : Int32) = 0 from rfl] at e1
  rw [show fb_sm (fun l => fb_ct (Xl D (decide (v = 0)) l) l) 0 = 0 from rfl, show (nI 0 : Int32) = 0 from rfl] at e2
  refine ⟨nI (fb_ct (Bq D (decide (v = 0))) 144), ?_, sI P 1 5 0, ?_, D, N, q⟩
  · unfold Bs_crossings Dr_crossed
    rw [e1]
    rfl
  · unfold Mo_crossings
    rw [Option.bind_some]
    exact e2
end CRS2
