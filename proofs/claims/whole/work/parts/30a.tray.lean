/-! TRAYS -/
section TRY
variable {D : DT} {N : NT} {P : PH}
theorem rI_s (P : PH) (n : Nat) (f : Nat → Int32) : (rI P n f).1 n = f := by unfold rI; simp
theorem rI_o (P : PH) {n m : Nat} (f : Nat → Int32) (h : m ≠ n) : (rI P n f).1 m = P.1 m := by unfold rI; simp [h]
theorem rL_s (P : PH) (n : Nat) (f : Nat → Int64) : (rL P n f).2 n = f := by unfold rL; simp
theorem rL_o (P : PH) {n m : Nat} (f : Nat → Int64) (h : m ≠ n) : (rL P n f).2 m = P.2 m := by unfold rL; simp [h]
theorem kd_tray : ∀ i, i < 4 → kd (53 + 2 * i) = 8 := by decide +kernel
theorem ckTray_out {v : Int32} (h : v < 0 ∨ nI 4 ≤ v) : Bs_checkTray v P = some (.inl NSE) := by
  unfold Bs_checkTray
  exact ck_gen (by decide) h _ _
theorem ckTray_in {i : Nat} (hi : i < 4) : Bs_checkTray (nI i) P = some (.inr (53 + 2 * i)) := by
  unfold Bs_checkTray
  rw [if_neg (nI_pos (by omega)), if_pos (show nI i < (4 : Int32) from nI_lt hi (by decide)), z_gd hi (by decide), z_cl (by omega)]
  exact if_pos (kd_tray i hi)
theorem isTray_out {v : Int32} (h : v < 0 ∨ nI 4 ≤ v) : Mo_isTray v P = some 0 := by
  unfold Mo_isTray
  rw [w_out 3 3 (by decide) rfl (by decide) h]
  exact gd0
theorem isTray_in {i : Nat} (h : i < 4) : Mo_isTray (nI i) P = some 1 := by
  unfold Mo_isTray
  rw [w_in 3 3 (by decide) rfl (by decide) h]
  exact gd1
theorem tray_69 {i : Nat} (hi : i < 4) : ∀ (m k n : Nat) (P : PH), k + m = 40 → m < n → (∀ j, j < k → P.2 110 (40 * i + j) = 0) → ∃ Q, Mo_tray_69 (nI i) n (nI k) P = some Q ∧ Q.1 = P.1 ∧ (∀ a, a ≠ 110 → Q.2 a = P.2 a) ∧ (∀ a, (a < 40 * i ∨ 40 * i + 40 ≤ a) → Q.2 110 a = P.2 110 a) ∧ ∀ j, j < 40 → Q.2 110 (40 * i + j) = 0 := by
  intro m
  induction m with
  | zero =>
    intro k n P hk hn h
    obtain ⟨n, rfl⟩ : ∃ q, n = q + 1 := ⟨n - 1, by omega⟩
    obtain rfl : k = 40 := by omega
    refine ⟨P, ?_, rfl, fun _ _ => rfl, fun _ _ => rfl, h⟩
    unfold Mo_tray_69
    rw [if_pos (by decide)]
  | succ m ih =>
    intro k n P hk hn h
    obtain ⟨n, rfl⟩ : ∃ q, n = q + 1 := ⟨n - 1, by omega⟩
    have hk4 : k < 40 := by omega
    obtain ⟨Q, e1, e2, e3, e4, e5⟩ := ih (k + 1) n (sL P 110 (40 * i + k) 0) (by omega) (by omega) (fun j hj => by
      rw [rowL_s]
      by_cases q : j = k
      · rw [q, pk_uLs]
      · rw [pk_uLn (by omega)]; exact h j (by omega))
    refine ⟨Q, ?_, e2, fun a ha => by rw [e3 a ha, rowL_o _ _ _ ha], fun a ha => by rw [e4 a ha, rowL_s, pk_uLn (by omega)], e5⟩
    unfold Mo_tray_69
    rw [if_neg (show ¬ (40 : Int32) ≤ nI k from (show ¬ nI 40 ≤ nI k from nI_ge hk4 (by decide))), show ((40 : Int32) * nI i) + nI k = nI (40 * i + k) from by rw [show (40 : Int32) = nI 40 from rfl, pk_mul, nI_add], z_gd (by omega) (by decide), z_cl (by omega), Option.bind_some, show nI k + 1 = nI (k + 1) from nI_1 _]
    exact e1
theorem call_tray (h : INVx D N P) (v1 v2 v3 : Int32) : callVo (Bs_tray v1 v2 v3 P) (Mo_tray v1 v2 v3) [NSE, IAE] P := by
  obtain ⟨hD, hN, hR, hRN, hC, hCN, hT, hI, hTP, hA0, hA1⟩ := id h
  have bad : ∀ t : Nat, t ≤ 2 → 0 < t → ∀ P2, out2 P P2 → Mo_tray_41 v1 v2 v3 (nI t) P2 = some (sI P2 1 5 (nI t)) := by
    intro t ht h0 P2 hP2
    unfold Mo_tray_41
    rw [Option.bind_some, at5, if_neg (by rw [show (0 : Int32) = nI 0 from rfl, z_le (by omega) (by omega)]; omega)]
  have badI : ∀ (t : Nat) (P2 : PH), out2 P P2 → INV (sI P2 1 5 (nI t)) := fun t P2 hP2 => ⟨D, N, h.scr (hP2.scr.sI _ rfl)⟩
  rcases three v1 4 (by decide) with o1 | ⟨i, hi, rfl⟩
  · refine ⟨1, P, by decide, ?_, fun P2 hP2 => ⟨sI P2 1 5 (nI 1), ?_, at5 _ _, badI 1 P2 hP2⟩⟩
    · unfold Bs_tray; rw [ckTray_out o1]; rfl
    · unfold Mo_tray
      rw [isTray_out o1, Option.bind_some, if_pos rfl]
      exact bad 1 (by decide) (by decide) P2 hP2
  · have kk : kd (53 + 2 * i) = 8 := kd_tray i hi
    rcases three v2 4 (by decide) with o2 | ⟨s, hs, rfl⟩
    · refine ⟨2, P, by decide, ?_, fun P2 hP2 => ⟨sI P2 1 5 (nI 2), ?_, at5 _ _, badI 2 P2 hP2⟩⟩
      · unfold Bs_tray Bs_tray_26
        rw [ckTray_in hi, Option.bind_some]
        show gdP (kd (53 + 2 * i) = 8) _ = _
        rw [show ∀ o : Option ((String ⊕ Unit) × PH), gdP (kd (53 + 2 * i) = 8) o = o from fun o => if_pos kk]
        rcases o2 with o | o
        · rw [if_pos o]; rfl
        · rw [if_neg (big_not (by decide) o).1, if_pos (show (3 : Int32) < v2 from by
            rw [fa_lt]
            rw [fa_le, nI_toInt (by decide)] at o
            rw [show (3 : Int32).toInt = 3 by decide]
            omega)]
          rfl
      · unfold Mo_tray
        rw [isTray_in hi, Option.bind_some, if_neg (by decide), w_out 3 3 (by decide) rfl (by decide) o2, Option.bind_some, if_pos rfl]
        exact bad 2 (by decide) (by decide) P2 hP2
    · rcases three v3 41 (by decide) with o3 | ⟨m, hm, rfl⟩
      · refine ⟨2, P, by decide, ?_, fun P2 hP2 => ⟨sI P2 1 5 (nI 2), ?_, at5 _ _, badI 2 P2 hP2⟩⟩
        · unfold Bs_tray Bs_tray_26
          rw [ckTray_in hi, Option.bind_some]
          show gdP (kd (53 + 2 * i) = 8) _ = _
          rw [show ∀ o : Option ((String ⊕ Unit) × PH), gdP (kd (53 + 2 * i) = 8) o = o from fun o => if_pos kk]
          rw [if_neg (nI_pos (by omega)), if_neg (show ¬ (3 : Int32) < nI s from (show ¬ nI 3 < nI s by rw [z_lt (by omega) (by omega)]; omega))]
          rcases o3 with o | o
          · rw [if_pos o]; rfl
          · rw [if_neg (big_not (by decide) o).1, if_neg (show ¬ v3 ≤ (40 : Int32) from fun q => by
              rw [fa_le] at o q
              rw [nI_toInt (by decide)] at o
              rw [show (40 : Int32).toInt = 40 by decide] at q
              omega)]
            rfl
        · unfold Mo_tray
          rw [isTray_in hi, Option.bind_some, if_neg (by decide), w_in 3 3 (by decide) rfl (by decide) hs, Option.bind_some, if_neg (by decide), w_out 40 40 (by decide) rfl (by decide) o3, Option.bind_some, if_pos rfl]
          exact bad 2 (by decide) (by decide) P2 hP2
      · obtain ⟨P1, hP1⟩ : ∃ P1, P1 = rL (sI (sI (sI P (53 + 2 * i) 0 1) (53 + 2 * i) 2 (nI s)) (53 + 2 * i) 1 (nI m)) (53 + 2 * i + 1) (fun _ => (0 : Int64)) := ⟨_, rfl⟩
        have c1 : ∀ n, n ≠ 53 + 2 * i → P1.1 n = P.1 n := fun n hn => by
          rw [hP1]
          show (sI (sI (sI P (53 + 2 * i) 0 1) (53 + 2 * i) 2 (nI s)) (53 + 2 * i) 1 (nI m)).1 n = P.1 n
          rw [rowI_o _ _ _ hn, rowI_o _ _ _ hn, rowI_o _ _ _ hn]
        have c2 : ∀ n, n ≠ 54 + 2 * i → P1.2 n = P.2 n := fun n hn => by
          rw [hP1, rL_o _ _ (by omega)]
          rfl
        have c3 : P1.2 (54 + 2 * i) = fun _ => 0 := by
          rw [hP1, show 54 + 2 * i = 53 + 2 * i + 1 by omega, rL_s]
        have c4 : P1.1 (53 + 2 * i) = upd (upd (upd (P.1 (53 + 2 * i)) 0 1) 2 (nI s)) 1 (nI m) := by
          rw [hP1]
          show (sI (sI (sI P (53 + 2 * i) 0 1) (53 + 2 * i) 2 (nI s)) (53 + 2 * i) 1 (nI m)).1 (53 + 2 * i) = _
          rw [rowI_s, rowI_s, rowI_s]
        refine ⟨0, P1, by decide, ?_, fun P2 hP2 => ?_⟩
        · unfold Bs_tray
          rw [ckTray_in hi, Option.bind_some]
          show gdP (kd (53 + 2 * i) = 8) _ = _
          rw [show ∀ o : Option ((String ⊕ Unit) × PH), gdP (kd (53 + 2 * i) = 8) o = o from fun o => if_pos kk]
          rw [if_neg (nI_pos (by omega)), if_neg (show ¬ (3 : Int32) < nI s from (show ¬ nI 3 < nI s by rw [z_lt (by omega) (by omega)]; omega)), if_neg (nI_pos (by omega)), if_pos (show nI m ≤ (40 : Int32) from (show nI m ≤ nI 40 by rw [z_le (by omega) (by omega)]; omega))]
          unfold Tr_lay
          rw [gd1, Option.bind_some, Option.bind_some, Option.bind_some, Option.bind_some, ← hP1]
          rfl
        · obtain ⟨P3, hP3⟩ : ∃ P3, P3 = sI (sI (sI P2 1 5 (nI 0)) 108 i (nI s)) 109 i (nI m) := ⟨_, rfl⟩
          obtain ⟨Q, e1, e2, e3, e4, e5⟩ := tray_69 hi 40 0 bigN P3 rfl (big_gt (by omega)) (fun j hj => by omega)
          rw [show (nI 0 : Int32) = 0 from rfl] at e1
          have q1 : ∀ n, n ≠ 53 + 2 * i → n ≠ 1 → n ≠ 108 → n ≠ 109 → Q.1 n = P.1 n := fun n a b c d => by
            rw [e2, hP3, rowI_o _ _ _ d, rowI_o _ _ _ c, rowI_o _ _ _ b, hP2.1, c1 n a]
          have q2 : ∀ n, n ≠ 54 + 2 * i → n ≠ 2 → n ≠ 110 → Q.2 n = P.2 n := fun n a b c => by
            rw [e3 n c, hP3]
            show P2.2 n = P.2 n
            rw [hP2.2 n b, c2 n a]
          have q3 : Q.1 108 = upd (P.1 108) i (nI s) := by
            rw [e2, hP3, rowI_o _ _ _ (by decide), rowI_s, rowI_o _ _ _ (by decide), hP2.1, c1 108 (by omega)]
          have q4 : Q.1 109 = upd (P.1 109) i (nI m) := by
            rw [e2, hP3, rowI_s, rowI_o _ _ _ (by decide), rowI_o _ _ _ (by decide), hP2.1, c1 109 (by omega)]
          have q5 : Q.1 1 = upd (P.1 1) 5 (nI 0) := by
            rw [e2, hP3, rowI_o _ _ _ (by decide), rowI_o _ _ _ (by decide), rowI_s, hP2.1, c1 1 (by omega)]
          have q6 : Q.1 (53 + 2 * i) = upd (upd (upd (P.1 (53 + 2 * i)) 0 1) 2 (nI s)) 1 (nI m) := by
            rw [e2, hP3, rowI_o _ _ _ (by omega), rowI_o _ _ _ (by omega), rowI_o _ _ _ (by omega), hP2.1, c4]
          have q7 : Q.2 (54 + 2 * i) = fun _ => 0 := by
            rw [e3 _ (by omega), hP3]
            show P2.2 (54 + 2 * i) = _
            rw [hP2.2 _ (by omega), c3]
          have q8 : ∀ a, (a < 40 * i ∨ 40 * i + 40 ≤ a) → Q.2 110 a = P.2 110 a := fun a ha => by
            rw [e4 a ha, hP3]
            show P2.2 110 a = _
            rw [hP2.2 110 (by decide), c2 110 (by omega)]
          refine ⟨Q, ?_, ?_, D, N, hD, hN, ?_, ?_, ?_, ?_, fun j hj => ?_, fun j hj => ?_, ?_, ?_, ?_⟩
          · unfold Mo_tray Mo_tray_41
            rw [isTray_in hi, Option.bind_some, if_neg (by decide), w_in 3 3 (by decide) rfl (by decide) hs, Option.bind_some, if_neg (by decide), w_in 40 40 (by decide) rfl (by decide) hm, Option.bind_some, if_neg (by decide), Option.bind_some, if_pos (by rw [at5]; decide), z_gd hi (by decide), z_cl (by omega), Option.bind_some, z_gd hi (by decide), Option.bind_some, show (0 : Int32) = nI 0 from rfl, ← hP3]
            exact e1
          · rw [q5, pk_us]
          · rw [q1 88 (by omega) (by decide) (by decide) (by decide)]; exact hR
          · rw [q1 88 (by omega) (by decide) (by decide) (by decide)]; exact hRN
          · exact hC.keep (q1 _ (by omega) (by omega) (by omega) (by omega)) (q1 _ (by omega) (by omega) (by omega) (by omega)) (q1 _ (by omega) (by omega) (by omega) (by omega)) (q1 _ (by omega) (by omega) (by omega) (by omega)) (q1 _ (by omega) (by omega) (by omega) (by omega)) (q2 _ (by omega) (by omega) (by omega)) (q2 _ (by omega) (by omega) (by omega)) (q1 _ (by omega) (by omega) (by omega) (by omega))
          · exact hCN.rows (q1 _ (by omega) (by omega) (by omega) (by omega)) (q1 _ (by omega) (by omega) (by omega) (by omega)) (q2 _ (by omega) (by omega) (by omega))
          · by_cases c : j = i
            · subst c
              refine Or.inr ⟨s, m, hs, by omega, ?_, ?_, ?_, ?_, ?_, fun k hk => ?_⟩
              · rw [q3, pk_us]
              · rw [q6, pk_un (by decide), pk_un (by decide), pk_us]; rfl
              · rw [q4, pk_us]
              · rw [q6, pk_us]
              · rw [q6, pk_un (by decide), pk_us]
              · rw [q7, e5 k hk]
            · have t := hT j hj
              unfold TR at t ⊢
              rw [q3, q4, q1 (53 + 2 * j) (by omega) (by omega) (by omega) (by omega), q2 (54 + 2 * j) (by omega) (by omega) (by omega), pk_un c, pk_un c]
              rcases t with t | ⟨s', m', t1, t2, t3, t4, t5, t6, t7, t8⟩
              · exact Or.inl t
              · exact Or.inr ⟨s', m', t1, t2, t3, t4, t5, t6, t7, fun k hk => by rw [q8 _ (by omega)]; exact t8 k hk⟩
          · have t := hI j hj
            unfold IM imT at t ⊢
            rw [q1 92 (by omega) (by decide) (by decide) (by decide), q1 90 (by omega) (by decide) (by decide) (by decide), q1 (61 + j) (by omega) (by omega) (by omega) (by omega)]
            rcases t with t | ⟨t1, t2, D', N', t3, t4, t5, t6, t7, t8⟩
            · exact Or.inl t
            · refine Or.inr ⟨t1, t2, D', N', t3, t4, t5, t6, ?_, ?_⟩
              · exact t7.keep (q1 _ (by omega) (by omega) (by omega) (by omega)) (q1 _ (by omega) (by omega) (by omega) (by omega)) (q1 _ (by omega) (by omega) (by omega) (by omega)) (q1 _ (by omega) (by omega) (by omega) (by omega)) (q1 _ (by omega) (by omega) (by omega) (by omega)) (q2 _ (by omega) (by omega) (by omega)) (q2 _ (by omega) (by omega) (by omega)) (q1 _ (by omega) (by omega) (by omega) (by omega))
              · exact t8.rows (q1 _ (by omega) (by omega) (by omega) (by omega)) (q1 _ (by omega) (by omega) (by omega) (by omega)) (q2 _ (by omega) (by omega) (by omega))
          · obtain ⟨f, g1, g2, g3, g4⟩ := hTP
            refine ⟨f, g1, ?_, ?_, ?_⟩
            · rw [q1 71 (by omega) (by decide) (by decide) (by decide)]; exact g2
            · rw [q5, pk_un (by decide)]; exact g3
            · rw [q1 93 (by omega) (by decide) (by decide) (by decide), q1 72 (by omega) (by decide) (by decide) (by decide)]; exact g4
          · rw [q1 0 (by omega) (by decide) (by decide) (by decide), q5, pk_un (by decide)]; exact hA0
          · rw [q1 0 (by omega) (by decide) (by decide) (by decide), q5, pk_un (by decide)]; exact hA1
end TRY
