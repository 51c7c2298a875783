/-! THE LAW: its branches, its loop (laid by gen_law35b.py) -/
section LAB
variable {D : DT} {N : NT} {P : PH} {L i : Nat} {xs : Nat → Int32} {r23 : Int32 → PH → Option (Int32 × PH)}
theorem v_1 (i : Nat) : nI i + (1 : Int32) = nI (i + 1) := nI_1 _
theorem v_2 (i : Nat) : nI i + (2 : Int32) = nI (i + 2) := nI_add _ 2
theorem v_3 (i : Nat) : nI i + (3 : Int32) = nI (i + 3) := nI_add _ 3
theorem v_4 (i : Nat) : nI i + (4 : Int32) = nI (i + 4) := nI_add _ 4
theorem v_5 (i : Nat) : nI i + (5 : Int32) = nI (i + 5) := nI_add _ 5
theorem v_6 (i : Nat) : nI i + (6 : Int32) = nI (i + 6) := nI_add _ 6
theorem fault_no (h : INVx D N P) (v : Int32) : callNo (Bs_fault v P) (Mo_fault v) P := by
  obtain ⟨b, r1, b', Q', r2, r3, r4⟩ := call_fault h v
  subst r4
  exact ⟨b', r1, Q', r2, D, N, h.scr r3⟩
theorem write_ok (h : INVx D N P) (v v2 : Int32) (x : Int64) {K : PH → Option (Int32 × PH)} (hK : ∀ Q, INV Q → goes (K Q)) : goes (shL (Lw_write v v2 x) (Mo_write v v2 x) K P) := by
  obtain ⟨r, P1, r1, r2, r3⟩ := call_write h v v2 x
  have r1 : r.1 ≤ 3 := r1
  have key : ∃ P1', Lw_write v v2 x P = some (nI r.1, P1') ∧ out2 P1 P1' ∧ (r.1 = 0 → P1'.2 2 0 = r.2) := by
    unfold Lw_write
    rw [r2, Option.bind_some]
    show ∃ P1', Sum.elim _ _ (clsL [NSE, ISE, IOB] r) = _ ∧ _
    unfold clsL
    by_cases z : r.1 = 0
    · rw [if_pos z, z]
      refine ⟨sL P1 2 0 r.2, ?_, out2.st _ _, fun _ => by rw [rowL_s, pk_uLs]⟩
      show gdI (0 : Int32) 1 ((some (sL P1 2 (0 : Int32).toNatClampNeg r.2)).bind fun (P8 : PH) => some ((0 : Int32), P8)) = _
      rw [gd01]
      rfl
    · rw [if_neg z]
      refine ⟨P1, ?_, out2.rf P1, fun q => absurd q z⟩
      have hf : ∀ k, k < 3 → (fun E => if E = NSE then some ((1 : Int32), P1) else if E = ISE then some ((2 : Int32), P1) else if E = IOB then some ((3 : Int32), P1) else none) ([NSE, ISE, IOB].getD k "") = some (nI (k + 1), P1) := fun k hk => by
        rcases (show k = 0 ∨ k = 1 ∨ k = 2 by omega) with rfl | rfl | rfl
        · exact if_pos rfl
        · exact (if_neg (by decide)).trans (if_pos rfl)
        · exact (if_neg (by decide)).trans ((if_neg (by decide)).trans (if_pos rfl))
      have := hf (r.1 - 1) (by omega)
      rw [show r.1 - 1 + 1 = r.1 by omega] at this
      exact this
  obtain ⟨P1', k1, k2, k3⟩ := key
  obtain ⟨b, Q, q1, q2, q3, q4, q5⟩ := r3 P1' k2
  unfold shL Mo_thrown
  rw [k1, Option.bind_some]
  show goes ((Mo_write v v2 x P1').bind _)
  rw [q1, Option.bind_some, Option.bind_some]
  show goes (if Q.1 1 5 = nI r.1 then (if nI r.1 = 0 then gdI (0 : Int32) 1 (if (lg_cmp (Q.2 2 0) b) = 0 then K Q else fz Q) else K Q) else fz Q)
  rw [if_pos q2]
  by_cases z : r.1 = 0
  · have e : Q.2 2 0 = b := by rw [q3, k3 z, q4 z]
    rw [if_pos (by rw [z]; rfl), gd01, e, if_pos (cmp_id _)]
    exact hK Q q5
  · rw [if_neg (nI_ne0 (by omega) (by omega))]
    exact hK Q q5
theorem alike_ok (h : INVx D N P) (v : Int32) {K : PH → Option (Int32 × PH)} (hK : ∀ Q, INV Q → goes (K Q)) : goes (shA (Lw_alike v) (Mo_alike v) K P) := by
  obtain ⟨r, r1, r2, r3⟩ := call_alike h v
  have r1 : r.1 ≤ 1 := r1
  have key : ∃ P1', Lw_alike v P = some (nI r.1, P1') ∧ out2 P P1' ∧ (r.1 = 0 → P1'.2 2 0 = if r.2 = 0 then 0 else 1) := by
    unfold Lw_alike
    rw [r2, Option.bind_some]
    unfold clsI
    by_cases z : r.1 = 0
    · rw [if_pos z, z]
      by_cases y : r.2 = 0
      · refine ⟨sL P 2 0 0, ?_, out2.st _ _, fun _ => by rw [rowL_s, pk_uLs, if_pos y]⟩
        show (if r.2 = 0 then gdI (0 : Int32) 1 ((some (sL P 2 (0 : Int32).toNatClampNeg (0 : Int64))).bind fun (P15 : PH) => some ((0 : Int32), P15)) else gdI (0 : Int32) 1 ((some (sL P 2 (0 : Int32).toNatClampNeg (1 : Int64))).bind fun (P15 : PH) => some ((0 : Int32), P15))) = _
        rw [if_pos y, gd01]
        rfl
      · refine ⟨sL P 2 0 1, ?_, out2.st _ _, fun _ => by rw [rowL_s, pk_uLs, if_neg y]⟩
        show (if r.2 = 0 then gdI (0 : Int32) 1 ((some (sL P 2 (0 : Int32).toNatClampNeg (0 : Int64))).bind fun (P15 : PH) => some ((0 : Int32), P15)) else gdI (0 : Int32) 1 ((some (sL P 2 (0 : Int32).toNatClampNeg (1 : Int64))).bind fun (P15 : PH) => some ((0 : Int32), P15))) = _
        rw [if_neg y, gd01]
        rfl
    · rw [if_neg z]
      refine ⟨P, ?_, out2.rf P, fun q => absurd q z⟩
      have hf : ∀ k, k < 1 → (fun E => if E = IAE then some ((1 : Int32), P) else none) ([IAE].getD k "") = some (nI (k + 1), P) := fun k hk => by
        obtain rfl : k = 0 := by omega
        exact if_pos rfl
      have := hf (r.1 - 1) (by omega)
      rw [show r.1 - 1 + 1 = r.1 by omega] at this
      exact this
  obtain ⟨P1', k1, k2, k3⟩ := key
  obtain ⟨b, Q, q1, q2, q3, q4, q5⟩ := r3 P1' k2
  unfold shA Mo_thrown
  rw [k1, Option.bind_some]
  show goes ((Mo_alike v P1').bind _)
  rw [q1, Option.bind_some, Option.bind_some]
  show goes (if Q.1 1 5 = nI r.1 then (if nI r.1 = 0 then gdI (0 : Int32) 1 (if b = 0 then (if (lg_cmp (Q.2 2 0) (0 : Int64)) = 0 then K Q else fz Q) else (if (lg_cmp (Q.2 2 0) (1 : Int64)) = 0 then K Q else fz Q)) else K Q) else fz Q)
  rw [if_pos q2]
  by_cases z : r.1 = 0
  · have e : Q.2 2 0 = if r.2 = 0 then 0 else 1 := by rw [q3, k3 z]
    rw [if_pos (by rw [z]; rfl), gd01, e, q4 z]
    by_cases y : r.2 = 0
    · rw [if_pos y, if_pos y, if_pos (cmp_id _)]
      exact hK Q q5
    · rw [if_neg y, if_neg y, if_pos (cmp_id _)]
      exact hK Q q5
  · rw [if_neg (nI_ne0 (by omega) (by omega))]
    exact hK Q q5

theorem br_212 (hi : i + 6 ≤ L) (hL : L ≤ 3072) (hP : INV P) (hK : ∀ Q, INV Q → goes (Lw_law_2321 L xs r23 (nI i) Q)) : goes (Lw_law_212 L xs r23 (nI i) P) := by
  obtain ⟨D, N, h⟩ := hP
  have e : Lw_law_212 L xs r23 (nI i) P = shF (Bs_feed (xs (i + 1)) (xs (i + 2)) (xs (i + 3)) (xs (i + 4)) (xs (i + 5))) (Mo_feed (xs (i + 1)) (xs (i + 2)) (xs (i + 3)) (xs (i + 4)) (xs (i + 5))) (Lw_law_2321 L xs r23 (nI i)) P := by
    unfold Lw_law_212
    rw [v_1, v_2, v_3, v_4, v_5, gdf (T := Int32 × PH) (i + 1) L (by omega) (by omega), gdf (T := Int32 × PH) (i + 2) L (by omega) (by omega), gdf (T := Int32 × PH) (i + 3) L (by omega) (by omega), gdf (T := Int32 × PH) (i + 4) L (by omega) (by omega), gdf (T := Int32 × PH) (i + 5) L (by omega) (by omega), z_cl (a := i + 1) (by omega), z_cl (a := i + 2) (by omega), z_cl (a := i + 3) (by omega), z_cl (a := i + 4) (by omega), z_cl (a := i + 5) (by omega)]
    rfl
  rw [e]
  exact shF_ok (call_feed h _ _ _ _ _) hK
theorem br_285 (hi : i + 6 ≤ L) (hL : L ≤ 3072) (hP : INV P) (hK : ∀ Q, INV Q → goes (Lw_law_2321 L xs r23 (nI i) Q)) : goes (Lw_law_285 L xs r23 (nI i) P) := by
  obtain ⟨D, N, h⟩ := hP
  have e : Lw_law_285 L xs r23 (nI i) P = shI (Lw_drawing (xs (i + 1))) (Mo_drawing (xs (i + 1))) (Lw_law_2321 L xs r23 (nI i)) P := by
    unfold Lw_law_285
    rw [v_1, gdf (T := Int32 × PH) (i + 1) L (by omega) (by omega), z_cl (a := i + 1) (by omega)]
    rfl
  rw [e]
  exact shI_ok (w_drawing h _) hK
theorem br_341 (hi : i + 6 ≤ L) (hL : L ≤ 3072) (hP : INV P) (hK : ∀ Q, INV Q → goes (Lw_law_2321 L xs r23 (nI i) Q)) : goes (Lw_law_341 L xs r23 (nI i) P) := by
  obtain ⟨D, N, h⟩ := hP
  have e : Lw_law_341 L xs r23 (nI i) P = shN (Bs_fault (xs (i + 1))) (Mo_fault (xs (i + 1))) (Lw_law_2321 L xs r23 (nI i)) P := by
    unfold Lw_law_341
    rw [v_1, gdf (T := Int32 × PH) (i + 1) L (by omega) (by omega), z_cl (a := i + 1) (by omega)]
    rfl
  rw [e]
  exact shN_ok (fault_no h _) hK
theorem br_366 (hi : i + 6 ≤ L) (hL : L ≤ 3072) (hP : INV P) (hK : ∀ Q, INV Q → goes (Lw_law_2321 L xs r23 (nI i) Q)) : goes (Lw_law_366 L xs r23 (nI i) P) := by
  obtain ⟨D, N, h⟩ := hP
  have e : Lw_law_366 L xs r23 (nI i) P = shI (Lw_line (xs (i + 1)) (xs (i + 2))) (Mo_line (xs (i + 1)) (xs (i + 2))) (Lw_law_2321 L xs r23 (nI i)) P := by
    unfold Lw_law_366
    rw [v_1, v_2, gdf (T := Int32 × PH) (i + 1) L (by omega) (by omega), gdf (T := Int32 × PH) (i + 2) L (by omega) (by omega), z_cl (a := i + 1) (by omega), z_cl (a := i + 2) (by omega)]
    rfl
  rw [e]
  exact shI_ok (w_line h _ _) hK
theorem br_434 (hi : i + 6 ≤ L) (hL : L ≤ 3072) (hP : INV P) (hK : ∀ Q, INV Q → goes (Lw_law_2321 L xs r23 (nI i) Q)) : goes (Lw_law_434 L xs r23 (nI i) P) := by
  obtain ⟨D, N, h⟩ := hP
  have e : Lw_law_434 L xs r23 (nI i) P = shI (Lw_lineAt (xs (i + 1)) (xs (i + 2))) (Mo_lineAt (xs (i + 1)) (xs (i + 2))) (Lw_law_2321 L xs r23 (nI i)) P := by
    unfold Lw_law_434
    rw [v_1, v_2, gdf (T := Int32 × PH) (i + 1) L (by omega) (by omega), gdf (T := Int32 × PH) (i + 2) L (by omega) (by omega), z_cl (a := i + 1) (by omega), z_cl (a := i + 2) (by omega)]
    rfl
  rw [e]
  exact shI_ok (w_lineAt h _ _) hK
theorem br_502 (hi : i + 6 ≤ L) (hL : L ≤ 3072) (hP : INV P) (hK : ∀ Q, INV Q → goes (Lw_law_2321 L xs r23 (nI i) Q)) : goes (Lw_law_502 L xs r23 (nI i) P) := by
  obtain ⟨D, N, h⟩ := hP
  have e : Lw_law_502 L xs r23 (nI i) P = shI (Lw_ends (xs (i + 1)) (xs (i + 2))) (Mo_ends (xs (i + 1)) (xs (i + 2))) (Lw_law_2321 L xs r23 (nI i)) P := by
    unfold Lw_law_502
    rw [v_1, v_2, gdf (T := Int32 × PH) (i + 1) L (by omega) (by omega), gdf (T := Int32 × PH) (i + 2) L (by omega) (by omega), z_cl (a := i + 1) (by omega), z_cl (a := i + 2) (by omega)]
    rfl
  rw [e]
  exact shI_ok (w_ends h _ _) hK
theorem br_570 (hi : i + 6 ≤ L) (hL : L ≤ 3072) (hP : INV P) (hK : ∀ Q, INV Q → goes (Lw_law_2321 L xs r23 (nI i) Q)) : goes (Lw_law_570 L xs r23 (nI i) P) := by
  obtain ⟨D, N, h⟩ := hP
  have e : Lw_law_570 L xs r23 (nI i) P = shN (Bs_knot (xs (i + 1))) (Mo_knot (xs (i + 1))) (Lw_law_2321 L xs r23 (nI i)) P := by
    unfold Lw_law_570
    rw [v_1, gdf (T := Int32 × PH) (i + 1) L (by omega) (by omega), z_cl (a := i + 1) (by omega)]
    rfl
  rw [e]
  exact shN_ok (call_knot h _) hK
theorem br_595 (hi : i + 6 ≤ L) (hL : L ≤ 3072) (hP : INV P) (hK : ∀ Q, INV Q → goes (Lw_law_2321 L xs r23 (nI i) Q)) : goes (Lw_law_595 L xs r23 (nI i) P) := by
  obtain ⟨D, N, h⟩ := hP
  have e : Lw_law_595 L xs r23 (nI i) P = shI (Lw_parts (xs (i + 1))) (Mo_parts (xs (i + 1))) (Lw_law_2321 L xs r23 (nI i)) P := by
    unfold Lw_law_595
    rw [v_1, gdf (T := Int32 × PH) (i + 1) L (by omega) (by omega), z_cl (a := i + 1) (by omega)]
    rfl
  rw [e]
  exact shI_ok (w_parts h _) hK
theorem br_651 (hi : i + 6 ≤ L) (hL : L ≤ 3072) (hP : INV P) (hK : ∀ Q, INV Q → goes (Lw_law_2321 L xs r23 (nI i) Q)) : goes (Lw_law_651 L xs r23 (nI i) P) := by
  obtain ⟨D, N, h⟩ := hP
  have e : Lw_law_651 L xs r23 (nI i) P = shI (Lw_partOf (xs (i + 1))) (Mo_partOf (xs (i + 1))) (Lw_law_2321 L xs r23 (nI i)) P := by
    unfold Lw_law_651
    rw [v_1, gdf (T := Int32 × PH) (i + 1) L (by omega) (by omega), z_cl (a := i + 1) (by omega)]
    rfl
  rw [e]
  exact shI_ok (w_partOf h _) hK
theorem br_707 (hi : i + 6 ≤ L) (hL : L ≤ 3072) (hP : INV P) (hK : ∀ Q, INV Q → goes (Lw_law_2321 L xs r23 (nI i) Q)) : goes (Lw_law_707 L xs r23 (nI i) P) := by
  obtain ⟨D, N, h⟩ := hP
  have e : Lw_law_707 L xs r23 (nI i) P = shI (Lw_length (xs (i + 1))) (Mo_length (xs (i + 1))) (Lw_law_2321 L xs r23 (nI i)) P := by
    unfold Lw_law_707
    rw [v_1, gdf (T := Int32 × PH) (i + 1) L (by omega) (by omega), z_cl (a := i + 1) (by omega)]
    rfl
  rw [e]
  exact shI_ok (w_length h _) hK
theorem br_763 (hi : i + 6 ≤ L) (hL : L ≤ 3072) (hP : INV P) (hK : ∀ Q, INV Q → goes (Lw_law_2321 L xs r23 (nI i) Q)) : goes (Lw_law_763 L xs r23 (nI i) P) := by
  obtain ⟨D, N, h⟩ := hP
  have e : Lw_law_763 L xs r23 (nI i) P = if (xs (i + 1)) = 0 then shN (Bs_crossings (0 : Int32)) (Mo_crossings (0 : Int32)) (Lw_law_2321 L xs r23 (nI i)) P else shN (Bs_crossings (1 : Int32)) (Mo_crossings (1 : Int32)) (Lw_law_2321 L xs r23 (nI i)) P := by
    unfold Lw_law_763 Lw_law_778
    rw [v_1, gdf (T := Int32 × PH) (i + 1) L (by omega) (by omega), z_cl (a := i + 1) (by omega)]
    by_cases c : xs (i + 1) = 0
    · simp only [if_pos c]
      rfl
    · simp only [if_neg c]
      rfl
  rw [e]
  exact goes_if (shN_ok (call_crossings h _) hK) (shN_ok (call_crossings h _) hK)
theorem br_804 (hi : i + 6 ≤ L) (hL : L ≤ 3072) (hP : INV P) (hK : ∀ Q, INV Q → goes (Lw_law_2321 L xs r23 (nI i) Q)) : goes (Lw_law_804 L xs r23 (nI i) P) := by
  obtain ⟨D, N, h⟩ := hP
  have e : Lw_law_804 L xs r23 (nI i) P = shA (Lw_alike (xs (i + 1))) (Mo_alike (xs (i + 1))) (Lw_law_2321 L xs r23 (nI i)) P := by
    unfold Lw_law_804
    rw [v_1, gdf (T := Int32 × PH) (i + 1) L (by omega) (by omega), z_cl (a := i + 1) (by omega)]
    rfl
  rw [e]
  exact alike_ok h _ hK
theorem br_867 (hi : i + 6 ≤ L) (hL : L ≤ 3072) (hP : INV P) (hK : ∀ Q, INV Q → goes (Lw_law_2321 L xs r23 (nI i) Q)) : goes (Lw_law_867 L xs r23 (nI i) P) := by
  obtain ⟨D, N, h⟩ := hP
  have e : Lw_law_867 L xs r23 (nI i) P = if (xs (i + 3)) = 0 then shV (Lw_begin (xs (i + 1)) (xs (i + 2)) 0) (Mo_begin (xs (i + 1)) (xs (i + 2)) 0) (Lw_law_2321 L xs r23 (nI i)) P else shV (Lw_begin (xs (i + 1)) (xs (i + 2)) 1) (Mo_begin (xs (i + 1)) (xs (i + 2)) 1) (Lw_law_2321 L xs r23 (nI i)) P := by
    unfold Lw_law_867 Lw_law_894 Lw_law_926
    rw [v_1, v_2, v_3, gdf (T := Int32 × PH) (i + 1) L (by omega) (by omega), gdf (T := Int32 × PH) (i + 2) L (by omega) (by omega), gdf (T := Int32 × PH) (i + 3) L (by omega) (by omega), z_cl (a := i + 1) (by omega), z_cl (a := i + 2) (by omega), z_cl (a := i + 3) (by omega)]
    by_cases c : xs (i + 3) = 0
    · simp only [if_pos c]
      rfl
    · simp only [if_neg c]
      rfl
  rw [e]
  exact goes_if (shV_ok (w_begin h _ _ false) hK) (shV_ok (w_begin h _ _ true) hK)
theorem br_943 (hi : i + 6 ≤ L) (hL : L ≤ 3072) (hP : INV P) (hK : ∀ Q, INV Q → goes (Lw_law_2321 L xs r23 (nI i) Q)) : goes (Lw_law_943 L xs r23 (nI i) P) := by
  obtain ⟨D, N, h⟩ := hP
  have e : Lw_law_943 L xs r23 (nI i) P = shI (Lw_cut ) (Mo_cut ) (Lw_law_2321 L xs r23 (nI i)) P := by
    unfold Lw_law_943
    rfl
  rw [e]
  exact shI_ok (w_cut h ) hK
theorem br_987 (hi : i + 6 ≤ L) (hL : L ≤ 3072) (hP : INV P) (hK : ∀ Q, INV Q → goes (Lw_law_2321 L xs r23 (nI i) Q)) : goes (Lw_law_987 L xs r23 (nI i) P) := by
  obtain ⟨D, N, h⟩ := hP
  have e : Lw_law_987 L xs r23 (nI i) P = shI (Lw_may (xs (i + 1))) (Mo_may (xs (i + 1))) (Lw_law_2321 L xs r23 (nI i)) P := by
    unfold Lw_law_987
    rw [v_1, gdf (T := Int32 × PH) (i + 1) L (by omega) (by omega), z_cl (a := i + 1) (by omega)]
    rfl
  rw [e]
  exact shI_ok (w_may h _) hK
theorem br_1043 (hi : i + 6 ≤ L) (hL : L ≤ 3072) (hP : INV P) (hK : ∀ Q, INV Q → goes (Lw_law_2321 L xs r23 (nI i) Q)) : goes (Lw_law_1043 L xs r23 (nI i) P) := by
  obtain ⟨D, N, h⟩ := hP
  have e : Lw_law_1043 L xs r23 (nI i) P = shI (Lw_stitch (xs (i + 1))) (Mo_stitch (xs (i + 1))) (Lw_law_2321 L xs r23 (nI i)) P := by
    unfold Lw_law_1043
    rw [v_1, gdf (T := Int32 × PH) (i + 1) L (by omega) (by omega), z_cl (a := i + 1) (by omega)]
    rfl
  rw [e]
  exact shI_ok (w_stitch h _) hK
theorem br_1099 (hi : i + 6 ≤ L) (hL : L ≤ 3072) (hP : INV P) (hK : ∀ Q, INV Q → goes (Lw_law_2321 L xs r23 (nI i) Q)) : goes (Lw_law_1099 L xs r23 (nI i) P) := by
  obtain ⟨D, N, h⟩ := hP
  have e : Lw_law_1099 L xs r23 (nI i) P = shI (Lw_unpick (xs (i + 1))) (Mo_unpick (xs (i + 1))) (Lw_law_2321 L xs r23 (nI i)) P := by
    unfold Lw_law_1099
    rw [v_1, gdf (T := Int32 × PH) (i + 1) L (by omega) (by omega), z_cl (a := i + 1) (by omega)]
    rfl
  rw [e]
  exact shI_ok (w_unpick h _) hK
theorem br_1155 (hi : i + 6 ≤ L) (hL : L ≤ 3072) (hP : INV P) (hK : ∀ Q, INV Q → goes (Lw_law_2321 L xs r23 (nI i) Q)) : goes (Lw_law_1155 L xs r23 (nI i) P) := by
  obtain ⟨D, N, h⟩ := hP
  have e : Lw_law_1155 L xs r23 (nI i) P = shI (Lw_thread (xs (i + 1))) (Mo_thread (xs (i + 1))) (Lw_law_2321 L xs r23 (nI i)) P := by
    unfold Lw_law_1155
    rw [v_1, gdf (T := Int32 × PH) (i + 1) L (by omega) (by omega), z_cl (a := i + 1) (by omega)]
    rfl
  rw [e]
  exact shI_ok (w_thread h _) hK
theorem br_1211 (hi : i + 6 ≤ L) (hL : L ≤ 3072) (hP : INV P) (hK : ∀ Q, INV Q → goes (Lw_law_2321 L xs r23 (nI i) Q)) : goes (Lw_law_1211 L xs r23 (nI i) P) := by
  obtain ⟨D, N, h⟩ := hP
  have e : Lw_law_1211 L xs r23 (nI i) P = shI (Lw_done (xs (i + 1))) (Mo_done (xs (i + 1))) (Lw_law_2321 L xs r23 (nI i)) P := by
    unfold Lw_law_1211
    rw [v_1, gdf (T := Int32 × PH) (i + 1) L (by omega) (by omega), z_cl (a := i + 1) (by omega)]
    rfl
  rw [e]
  exact shI_ok (w_done h _) hK
theorem br_1267 (hi : i + 6 ≤ L) (hL : L ≤ 3072) (hP : INV P) (hK : ∀ Q, INV Q → goes (Lw_law_2321 L xs r23 (nI i) Q)) : goes (Lw_law_1267 L xs r23 (nI i) P) := by
  obtain ⟨D, N, h⟩ := hP
  have e : Lw_law_1267 L xs r23 (nI i) P = shI (Lw_judge (xs (i + 1)) (xs (i + 2))) (Mo_judge (xs (i + 1)) (xs (i + 2))) (Lw_law_2321 L xs r23 (nI i)) P := by
    unfold Lw_law_1267
    rw [v_1, v_2, gdf (T := Int32 × PH) (i + 1) L (by omega) (by omega), gdf (T := Int32 × PH) (i + 2) L (by omega) (by omega), z_cl (a := i + 1) (by omega), z_cl (a := i + 2) (by omega)]
    rfl
  rw [e]
  exact shI_ok (w_judge h _ _) hK
theorem br_1335 (hi : i + 6 ≤ L) (hL : L ≤ 3072) (hP : INV P) (hK : ∀ Q, INV Q → goes (Lw_law_2321 L xs r23 (nI i) Q)) : goes (Lw_law_1335 L xs r23 (nI i) P) := by
  obtain ⟨D, N, h⟩ := hP
  have e : Lw_law_1335 L xs r23 (nI i) P = shI (Lw_perform (xs (i + 1))) (Mo_perform (xs (i + 1))) (Lw_law_2321 L xs r23 (nI i)) P := by
    unfold Lw_law_1335
    rw [v_1, gdf (T := Int32 × PH) (i + 1) L (by omega) (by omega), z_cl (a := i + 1) (by omega)]
    rfl
  rw [e]
  exact shI_ok (w_perform h _) hK
theorem br_1391 (hi : i + 6 ≤ L) (hL : L ≤ 3072) (hP : INV P) (hK : ∀ Q, INV Q → goes (Lw_law_2321 L xs r23 (nI i) Q)) : goes (Lw_law_1391 L xs r23 (nI i) P) := by
  obtain ⟨D, N, h⟩ := hP
  have e : Lw_law_1391 L xs r23 (nI i) P = shI (Lw_left ) (Mo_left ) (Lw_law_2321 L xs r23 (nI i)) P := by
    unfold Lw_law_1391
    rfl
  rw [e]
  exact shI_ok (w_left h ) hK
theorem br_1435 (hi : i + 6 ≤ L) (hL : L ≤ 3072) (hP : INV P) (hK : ∀ Q, INV Q → goes (Lw_law_2321 L xs r23 (nI i) Q)) : goes (Lw_law_1435 L xs r23 (nI i) P) := by
  obtain ⟨D, N, h⟩ := hP
  have e : Lw_law_1435 L xs r23 (nI i) P = shI (Lw_barred (xs (i + 1))) (Mo_barred (xs (i + 1))) (Lw_law_2321 L xs r23 (nI i)) P := by
    unfold Lw_law_1435
    rw [v_1, gdf (T := Int32 × PH) (i + 1) L (by omega) (by omega), z_cl (a := i + 1) (by omega)]
    rfl
  rw [e]
  exact shI_ok (w_barred h _) hK
theorem br_1491 (hi : i + 6 ≤ L) (hL : L ≤ 3072) (hP : INV P) (hK : ∀ Q, INV Q → goes (Lw_law_2321 L xs r23 (nI i) Q)) : goes (Lw_law_1491 L xs r23 (nI i) P) := by
  obtain ⟨D, N, h⟩ := hP
  have e : Lw_law_1491 L xs r23 (nI i) P = shI (Lw_ending ) (Mo_ending ) (Lw_law_2321 L xs r23 (nI i)) P := by
    unfold Lw_law_1491
    rfl
  rw [e]
  exact shI_ok (w_ending h ) hK
theorem br_1535 (hi : i + 6 ≤ L) (hL : L ≤ 3072) (hP : INV P) (hK : ∀ Q, INV Q → goes (Lw_law_2321 L xs r23 (nI i) Q)) : goes (Lw_law_1535 L xs r23 (nI i) P) := by
  obtain ⟨D, N, h⟩ := hP
  have e : Lw_law_1535 L xs r23 (nI i) P = shI (Lw_working (xs (i + 1))) (Mo_working (xs (i + 1))) (Lw_law_2321 L xs r23 (nI i)) P := by
    unfold Lw_law_1535
    rw [v_1, gdf (T := Int32 × PH) (i + 1) L (by omega) (by omega), z_cl (a := i + 1) (by omega)]
    rfl
  rw [e]
  exact shI_ok (w_working h _) hK
theorem br_1591 (hi : i + 6 ≤ L) (hL : L ≤ 3072) (hP : INV P) (hK : ∀ Q, INV Q → goes (Lw_law_2321 L xs r23 (nI i) Q)) : goes (Lw_law_1591 L xs r23 (nI i) P) := by
  obtain ⟨D, N, h⟩ := hP
  have e : Lw_law_1591 L xs r23 (nI i) P = shI (Lw_work ) (Mo_work ) (Lw_law_2321 L xs r23 (nI i)) P := by
    unfold Lw_law_1591
    rfl
  rw [e]
  exact shI_ok (w_work h ) hK
theorem br_1635 (hi : i + 6 ≤ L) (hL : L ≤ 3072) (hP : INV P) (hK : ∀ Q, INV Q → goes (Lw_law_2321 L xs r23 (nI i) Q)) : goes (Lw_law_1635 L xs r23 (nI i) P) := by
  obtain ⟨D, N, h⟩ := hP
  have e : Lw_law_1635 L xs r23 (nI i) P = shI (Lw_ways ) (Mo_ways ) (Lw_law_2321 L xs r23 (nI i)) P := by
    unfold Lw_law_1635
    rfl
  rw [e]
  exact shI_ok (w_ways h ) hK
theorem br_1679 (hi : i + 6 ≤ L) (hL : L ≤ 3072) (hP : INV P) (hK : ∀ Q, INV Q → goes (Lw_law_2321 L xs r23 (nI i) Q)) : goes (Lw_law_1679 L xs r23 (nI i) P) := by
  obtain ⟨D, N, h⟩ := hP
  have e : Lw_law_1679 L xs r23 (nI i) P = if (xs (i + 1)) = 0 then shI (Lw_unpicked 0 (xs (i + 2))) (Mo_unpicked 0 (xs (i + 2))) (Lw_law_2321 L xs r23 (nI i)) P else shI (Lw_unpicked 1 (xs (i + 2))) (Mo_unpicked 1 (xs (i + 2))) (Lw_law_2321 L xs r23 (nI i)) P := by
    unfold Lw_law_1679 Lw_law_1694 Lw_law_1721
    rw [v_1, v_2, gdf (T := Int32 × PH) (i + 1) L (by omega) (by omega), gdf (T := Int32 × PH) (i + 2) L (by omega) (by omega), z_cl (a := i + 1) (by omega), z_cl (a := i + 2) (by omega)]
    by_cases c : xs (i + 1) = 0
    · simp only [if_pos c]
      rfl
    · simp only [if_neg c]
      rfl
  rw [e]
  exact goes_if (shI_ok (w_unpicked h false _) hK) (shI_ok (w_unpicked h true _) hK)
theorem br_1763 (hi : i + 6 ≤ L) (hL : L ≤ 3072) (hP : INV P) (hK : ∀ Q, INV Q → goes (Lw_law_2321 L xs r23 (nI i) Q)) : goes (Lw_law_1763 L xs r23 (nI i) P) := by
  obtain ⟨D, N, h⟩ := hP
  have e : Lw_law_1763 L xs r23 (nI i) P = shI (Lw_places (xs (i + 1))) (Mo_places (xs (i + 1))) (Lw_law_2321 L xs r23 (nI i)) P := by
    unfold Lw_law_1763
    rw [v_1, gdf (T := Int32 × PH) (i + 1) L (by omega) (by omega), z_cl (a := i + 1) (by omega)]
    rfl
  rw [e]
  exact shI_ok (w_places h _) hK
theorem br_1819 (hi : i + 6 ≤ L) (hL : L ≤ 3072) (hP : INV P) (hK : ∀ Q, INV Q → goes (Lw_law_2321 L xs r23 (nI i) Q)) : goes (Lw_law_1819 L xs r23 (nI i) P) := by
  obtain ⟨D, N, h⟩ := hP
  have e : Lw_law_1819 L xs r23 (nI i) P = shI (Lw_threads (xs (i + 1)) (xs (i + 2))) (Mo_threads (xs (i + 1)) (xs (i + 2))) (Lw_law_2321 L xs r23 (nI i)) P := by
    unfold Lw_law_1819
    rw [v_1, v_2, gdf (T := Int32 × PH) (i + 1) L (by omega) (by omega), gdf (T := Int32 × PH) (i + 2) L (by omega) (by omega), z_cl (a := i + 1) (by omega), z_cl (a := i + 2) (by omega)]
    rfl
  rw [e]
  exact shI_ok (w_threads h _ _) hK
theorem br_1887 (hi : i + 6 ≤ L) (hL : L ≤ 3072) (hP : INV P) (hK : ∀ Q, INV Q → goes (Lw_law_2321 L xs r23 (nI i) Q)) : goes (Lw_law_1887 L xs r23 (nI i) P) := by
  obtain ⟨D, N, h⟩ := hP
  have e : Lw_law_1887 L xs r23 (nI i) P = if (xs (i + 1)) = 0 then shN (Bs_seen (0 : Int32)) (Mo_seen (0 : Int32)) (Lw_law_2321 L xs r23 (nI i)) P else shN (Bs_seen (1 : Int32)) (Mo_seen (1 : Int32)) (Lw_law_2321 L xs r23 (nI i)) P := by
    unfold Lw_law_1887 Lw_law_1902
    rw [v_1, gdf (T := Int32 × PH) (i + 1) L (by omega) (by omega), z_cl (a := i + 1) (by omega)]
    by_cases c : xs (i + 1) = 0
    · simp only [if_pos c]
      rfl
    · simp only [if_neg c]
      rfl
  rw [e]
  exact goes_if (shN_ok (call_seen h false) hK) (shN_ok (call_seen h true) hK)
theorem br_1928 (hi : i + 6 ≤ L) (hL : L ≤ 3072) (hP : INV P) (hK : ∀ Q, INV Q → goes (Lw_law_2321 L xs r23 (nI i) Q)) : goes (Lw_law_1928 L xs r23 (nI i) P) := by
  obtain ⟨D, N, h⟩ := hP
  have e : Lw_law_1928 L xs r23 (nI i) P = shN (Bs_same ) (Mo_same ) (Lw_law_2321 L xs r23 (nI i)) P := by
    unfold Lw_law_1928
    rfl
  rw [e]
  exact shN_ok (call_same h ) hK
theorem br_1941 (hi : i + 6 ≤ L) (hL : L ≤ 3072) (hP : INV P) (hK : ∀ Q, INV Q → goes (Lw_law_2321 L xs r23 (nI i) Q)) : goes (Lw_law_1941 L xs r23 (nI i) P) := by
  obtain ⟨D, N, h⟩ := hP
  have e : Lw_law_1941 L xs r23 (nI i) P = shI (Lw_sameAt (xs (i + 1))) (Mo_sameAt (xs (i + 1))) (Lw_law_2321 L xs r23 (nI i)) P := by
    unfold Lw_law_1941
    rw [v_1, gdf (T := Int32 × PH) (i + 1) L (by omega) (by omega), z_cl (a := i + 1) (by omega)]
    rfl
  rw [e]
  exact shI_ok (w_sameAt h _) hK
theorem br_1997 (hi : i + 6 ≤ L) (hL : L ≤ 3072) (hP : INV P) (hK : ∀ Q, INV Q → goes (Lw_law_2321 L xs r23 (nI i) Q)) : goes (Lw_law_1997 L xs r23 (nI i) P) := by
  obtain ⟨D, N, h⟩ := hP
  have e : Lw_law_1997 L xs r23 (nI i) P = shI (Lw_unlike (xs (i + 1))) (Mo_unlike (xs (i + 1))) (Lw_law_2321 L xs r23 (nI i)) P := by
    unfold Lw_law_1997
    rw [v_1, gdf (T := Int32 × PH) (i + 1) L (by omega) (by omega), z_cl (a := i + 1) (by omega)]
    rfl
  rw [e]
  exact shI_ok (w_unlike h _) hK
theorem br_2053 (hi : i + 6 ≤ L) (hL : L ≤ 3072) (hP : INV P) (hK : ∀ Q, INV Q → goes (Lw_law_2321 L xs r23 (nI i) Q)) : goes (Lw_law_2053 L xs r23 (nI i) P) := by
  obtain ⟨D, N, h⟩ := hP
  have e : Lw_law_2053 L xs r23 (nI i) P = shV (Lw_tray (xs (i + 1)) (xs (i + 2)) (xs (i + 3))) (Mo_tray (xs (i + 1)) (xs (i + 2)) (xs (i + 3))) (Lw_law_2321 L xs r23 (nI i)) P := by
    unfold Lw_law_2053
    rw [v_1, v_2, v_3, gdf (T := Int32 × PH) (i + 1) L (by omega) (by omega), gdf (T := Int32 × PH) (i + 2) L (by omega) (by omega), gdf (T := Int32 × PH) (i + 3) L (by omega) (by omega), z_cl (a := i + 1) (by omega), z_cl (a := i + 2) (by omega), z_cl (a := i + 3) (by omega)]
    rfl
  rw [e]
  exact shV_ok (w_tray h _ _ _) hK
theorem br_2113 (hi : i + 6 ≤ L) (hL : L ≤ 3072) (hP : INV P) (hK : ∀ Q, INV Q → goes (Lw_law_2321 L xs r23 (nI i) Q)) : goes (Lw_law_2113 L xs r23 (nI i) P) := by
  obtain ⟨D, N, h⟩ := hP
  have e : Lw_law_2113 L xs r23 (nI i) P = shL (Lw_write (xs (i + 1)) (xs (i + 2)) ((((xs (i + 3)).toInt64) <<< ((32 : Int32).toInt64 &&& 63)) ||| (((xs (i + 4)).toInt64) &&& (4294967295 : Int64)))) (Mo_write (xs (i + 1)) (xs (i + 2)) ((((xs (i + 3)).toInt64) <<< ((32 : Int32).toInt64 &&& 63)) ||| (((xs (i + 4)).toInt64) &&& (4294967295 : Int64)))) (Lw_law_2321 L xs r23 (nI i)) P := by
    unfold Lw_law_2113
    rw [v_1, v_2, v_3, v_4, gdf (T := Int32 × PH) (i + 1) L (by omega) (by omega), gdf (T := Int32 × PH) (i + 2) L (by omega) (by omega), gdf (T := Int32 × PH) (i + 3) L (by omega) (by omega), gdf (T := Int32 × PH) (i + 4) L (by omega) (by omega), z_cl (a := i + 1) (by omega), z_cl (a := i + 2) (by omega), z_cl (a := i + 3) (by omega), z_cl (a := i + 4) (by omega)]
    rfl
  rw [e]
  exact write_ok h _ _ _ hK
theorem br_2224 (hi : i + 6 ≤ L) (hL : L ≤ 3072) (hP : INV P) (hK : ∀ Q, INV Q → goes (Lw_law_2321 L xs r23 (nI i) Q)) : goes (Lw_law_2224 L xs r23 (nI i) P) := by
  obtain ⟨D, N, h⟩ := hP
  have e : Lw_law_2224 L xs r23 (nI i) P = shV (Lw_image (xs (i + 1))) (Mo_image (xs (i + 1))) (Lw_law_2321 L xs r23 (nI i)) P := by
    unfold Lw_law_2224
    rw [v_1, gdf (T := Int32 × PH) (i + 1) L (by omega) (by omega), z_cl (a := i + 1) (by omega)]
    rfl
  rw [e]
  exact shV_ok (w_image h _) hK
theorem br_2260 (hi : i + 6 ≤ L) (hL : L ≤ 3072) (hP : INV P) (hK : ∀ Q, INV Q → goes (Lw_law_2321 L xs r23 (nI i) Q)) : goes (Lw_law_2260 L xs r23 (nI i) P) := by
  obtain ⟨D, N, h⟩ := hP
  have e : Lw_law_2260 L xs r23 (nI i) P = shV (Lw_restore (xs (i + 1))) (Mo_restore (xs (i + 1))) (Lw_law_2321 L xs r23 (nI i)) P := by
    unfold Lw_law_2260
    rw [v_1, gdf (T := Int32 × PH) (i + 1) L (by omega) (by omega), z_cl (a := i + 1) (by omega)]
    rfl
  rw [e]
  exact shV_ok (w_restore h _) hK
theorem br_2296 (hi : i + 6 ≤ L) (hL : L ≤ 3072) (hP : INV P) (hK : ∀ Q, INV Q → goes (Lw_law_2321 L xs r23 (nI i) Q)) : goes (Lw_law_2296 L xs r23 (nI i) P) := by
  obtain ⟨D, N, h⟩ := hP
  have e : Lw_law_2296 L xs r23 (nI i) P = shN (Bs_count (xs (i + 1))) (Mo_count (xs (i + 1))) (Lw_law_2321 L xs r23 (nI i)) P := by
    unfold Lw_law_2296
    rw [v_1, gdf (T := Int32 × PH) (i + 1) L (by omega) (by omega), z_cl (a := i + 1) (by omega)]
    rfl
  rw [e]
  exact shN_ok (call_count h _) hK
theorem law_eq (L : Nat) (xs : Nat → Int32) (n : Nat) (v4 : Int32) (P : PH) : Lw_law_23 L xs (n + 1) v4 P =
    if ((nI L) - (6 : Int32)) < v4 then
      gdP ((1 : Int32) = 0 ∨ (1 : Int32) = 1) <|
      some ((1 : Int32), P)
    else
      gdI v4 L <|
      if ((xs v4.toNatClampNeg) &&& (63 : Int32)) = 0 then
        Lw_law_212 L xs (Lw_law_23 L xs n) v4 P
      else
      if ((xs v4.toNatClampNeg) &&& (63 : Int32)) = 1 then
        Lw_law_285 L xs (Lw_law_23 L xs n) v4 P
      else
      if ((xs v4.toNatClampNeg) &&& (63 : Int32)) = 2 then
        Lw_law_341 L xs (Lw_law_23 L xs n) v4 P
      else
      if ((xs v4.toNatClampNeg) &&& (63 : Int32)) = 3 then
        Lw_law_366 L xs (Lw_law_23 L xs n) v4 P
      else
      if ((xs v4.toNatClampNeg) &&& (63 : Int32)) = 4 then
        Lw_law_434 L xs (Lw_law_23 L xs n) v4 P
      else
      if ((xs v4.toNatClampNeg) &&& (63 : Int32)) = 5 then
        Lw_law_502 L xs (Lw_law_23 L xs n) v4 P
      else
      if ((xs v4.toNatClampNeg) &&& (63 : Int32)) = 6 then
        Lw_law_570 L xs (Lw_law_23 L xs n) v4 P
      else
      if ((xs v4.toNatClampNeg) &&& (63 : Int32)) = 7 then
        Lw_law_595 L xs (Lw_law_23 L xs n) v4 P
      else
      if ((xs v4.toNatClampNeg) &&& (63 : Int32)) = 8 then
        Lw_law_651 L xs (Lw_law_23 L xs n) v4 P
      else
      if ((xs v4.toNatClampNeg) &&& (63 : Int32)) = 9 then
        Lw_law_707 L xs (Lw_law_23 L xs n) v4 P
      else
      if ((xs v4.toNatClampNeg) &&& (63 : Int32)) = 10 then
        Lw_law_763 L xs (Lw_law_23 L xs n) v4 P
      else
      if ((xs v4.toNatClampNeg) &&& (63 : Int32)) = 11 then
        Lw_law_804 L xs (Lw_law_23 L xs n) v4 P
      else
      if ((xs v4.toNatClampNeg) &&& (63 : Int32)) = 12 then
        Lw_law_867 L xs (Lw_law_23 L xs n) v4 P
      else
      if ((xs v4.toNatClampNeg) &&& (63 : Int32)) = 13 then
        Lw_law_943 L xs (Lw_law_23 L xs n) v4 P
      else
      if ((xs v4.toNatClampNeg) &&& (63 : Int32)) = 14 then
        Lw_law_987 L xs (Lw_law_23 L xs n) v4 P
      else
      if ((xs v4.toNatClampNeg) &&& (63 : Int32)) = 15 then
        Lw_law_1043 L xs (Lw_law_23 L xs n) v4 P
      else
      if ((xs v4.toNatClampNeg) &&& (63 : Int32)) = 16 then
        Lw_law_1099 L xs (Lw_law_23 L xs n) v4 P
      else
      if ((xs v4.toNatClampNeg) &&& (63 : Int32)) = 17 then
        Lw_law_1155 L xs (Lw_law_23 L xs n) v4 P
      else
      if ((xs v4.toNatClampNeg) &&& (63 : Int32)) = 18 then
        Lw_law_1211 L xs (Lw_law_23 L xs n) v4 P
      else
      if ((xs v4.toNatClampNeg) &&& (63 : Int32)) = 19 then
        Lw_law_1267 L xs (Lw_law_23 L xs n) v4 P
      else
      if ((xs v4.toNatClampNeg) &&& (63 : Int32)) = 20 then
        Lw_law_1335 L xs (Lw_law_23 L xs n) v4 P
      else
      if ((xs v4.toNatClampNeg) &&& (63 : Int32)) = 21 then
        Lw_law_1391 L xs (Lw_law_23 L xs n) v4 P
      else
      if ((xs v4.toNatClampNeg) &&& (63 : Int32)) = 22 then
        Lw_law_1435 L xs (Lw_law_23 L xs n) v4 P
      else
      if ((xs v4.toNatClampNeg) &&& (63 : Int32)) = 23 then
        Lw_law_1491 L xs (Lw_law_23 L xs n) v4 P
      else
      if ((xs v4.toNatClampNeg) &&& (63 : Int32)) = 24 then
        Lw_law_1535 L xs (Lw_law_23 L xs n) v4 P
      else
      if ((xs v4.toNatClampNeg) &&& (63 : Int32)) = 25 then
        Lw_law_1591 L xs (Lw_law_23 L xs n) v4 P
      else
      if ((xs v4.toNatClampNeg) &&& (63 : Int32)) = 26 then
        Lw_law_1635 L xs (Lw_law_23 L xs n) v4 P
      else
      if ((xs v4.toNatClampNeg) &&& (63 : Int32)) = 27 then
        Lw_law_1679 L xs (Lw_law_23 L xs n) v4 P
      else
      if ((xs v4.toNatClampNeg) &&& (63 : Int32)) = 28 then
        Lw_law_1763 L xs (Lw_law_23 L xs n) v4 P
      else
      if ((xs v4.toNatClampNeg) &&& (63 : Int32)) = 29 then
        Lw_law_1819 L xs (Lw_law_23 L xs n) v4 P
      else
      if ((xs v4.toNatClampNeg) &&& (63 : Int32)) = 30 then
        Lw_law_1887 L xs (Lw_law_23 L xs n) v4 P
      else
      if ((xs v4.toNatClampNeg) &&& (63 : Int32)) = 31 then
        Lw_law_1928 L xs (Lw_law_23 L xs n) v4 P
      else
      if ((xs v4.toNatClampNeg) &&& (63 : Int32)) = 32 then
        Lw_law_1941 L xs (Lw_law_23 L xs n) v4 P
      else
      if ((xs v4.toNatClampNeg) &&& (63 : Int32)) = 33 then
        Lw_law_1997 L xs (Lw_law_23 L xs n) v4 P
      else
      if ((xs v4.toNatClampNeg) &&& (63 : Int32)) = 34 then
        Lw_law_2053 L xs (Lw_law_23 L xs n) v4 P
      else
      if ((xs v4.toNatClampNeg) &&& (63 : Int32)) = 35 then
        Lw_law_2113 L xs (Lw_law_23 L xs n) v4 P
      else
      if ((xs v4.toNatClampNeg) &&& (63 : Int32)) = 36 then
        Lw_law_2224 L xs (Lw_law_23 L xs n) v4 P
      else
      if ((xs v4.toNatClampNeg) &&& (63 : Int32)) = 37 then
        Lw_law_2260 L xs (Lw_law_23 L xs n) v4 P
      else
      if ((xs v4.toNatClampNeg) &&& (63 : Int32)) = 38 then
        Lw_law_2296 L xs (Lw_law_23 L xs n) v4 P
      else
        Lw_law_2321 L xs (Lw_law_23 L xs n) v4 P := rfl
theorem small6 : ∀ L, L < 6 → ∀ i, i < 6 → (nI L - (6 : Int32)) < nI i := by decide +kernel
theorem law_lp (L : Nat) (xs : Nat → Int32) (hL : L ≤ 3072) : ∀ (m i : Nat) (P : PH), INV P → i ≤ L → L + 6 ≤ i + 6 * m → goes (Lw_law_23 L xs m (nI i) P)
  | 0, i, P, _, h1, h2 => by omega
  | m + 1, i, P, hP, h1, h2 => by
    rw [law_eq]
    by_cases c : i + 6 ≤ L
    · have nc : ¬ (nI L - (6 : Int32)) < nI i := by
        rw [show (6 : Int32) = nI 6 from rfl, z_sub (by omega), z_lt (by omega) (by omega)]
        omega
      have hK : ∀ Q, INV Q → goes (Lw_law_2321 L xs (Lw_law_23 L xs m) (nI i) Q) := fun Q hQ => by
        unfold Lw_law_2321
        rw [v_6]
        exact law_lp L xs hL m (i + 6) Q hQ c (by omega)
      rw [if_neg nc, z_gd (by omega) (by omega)]
      exact goes_if (br_212 c hL hP hK) (goes_if (br_285 c hL hP hK) (goes_if (br_341 c hL hP hK) (goes_if (br_366 c hL hP hK) (goes_if (br_434 c hL hP hK) (goes_if (br_502 c hL hP hK) (goes_if (br_570 c hL hP hK) (goes_if (br_595 c hL hP hK) (goes_if (br_651 c hL hP hK) (goes_if (br_707 c hL hP hK) (goes_if (br_763 c hL hP hK) (goes_if (br_804 c hL hP hK) (goes_if (br_867 c hL hP hK) (goes_if (br_943 c hL hP hK) (goes_if (br_987 c hL hP hK) (goes_if (br_1043 c hL hP hK) (goes_if (br_1099 c hL hP hK) (goes_if (br_1155 c hL hP hK) (goes_if (br_1211 c hL hP hK) (goes_if (br_1267 c hL hP hK) (goes_if (br_1335 c hL hP hK) (goes_if (br_1391 c hL hP hK) (goes_if (br_1435 c hL hP hK) (goes_if (br_1491 c hL hP hK) (goes_if (br_1535 c hL hP hK) (goes_if (br_1591 c hL hP hK) (goes_if (br_1635 c hL hP hK) (goes_if (br_1679 c hL hP hK) (goes_if (br_1763 c hL hP hK) (goes_if (br_1819 c hL hP hK) (goes_if (br_1887 c hL hP hK) (goes_if (br_1928 c hL hP hK) (goes_if (br_1941 c hL hP hK) (goes_if (br_1997 c hL hP hK) (goes_if (br_2053 c hL hP hK) (goes_if (br_2113 c hL hP hK) (goes_if (br_2224 c hL hP hK) (goes_if (br_2260 c hL hP hK) (goes_if (br_2296 c hL hP hK) (hK P hP)))))))))))))))))))))))))))))))))))))))
    · have nc : (nI L - (6 : Int32)) < nI i := by
        by_cases z : 6 ≤ L
        · rw [show (6 : Int32) = nI 6 from rfl, z_sub z, z_lt (by omega) (by omega)]
          omega
        · exact small6 L (by omega) i (by omega)
      rw [if_pos nc, gd1]
      exact ⟨P, rfl⟩
end LAB
