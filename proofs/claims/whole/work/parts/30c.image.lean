/-! IMAGE, RESTORE -/
section IMG
variable {D : DT} {N : NT} {P : PH}
theorem kd_img : ∀ i, i < 3 → kd (61 + i) = 1 := by decide +kernel
theorem imD_i (i : Nat) : imD (61 + i) = 19 + 8 * i := by unfold imD; rw [show 61 + i - 61 = i by omega]
theorem imN_i (i : Nat) : imN (61 + i) = 47 + 2 * i := by unfold imN; rw [show 61 + i - 61 = i by omega]
theorem ckImg_out {v : Int32} (h : v < 0 ∨ nI 3 ≤ v) : Bs_checkImage v P = some (.inl NSE) := by
  unfold Bs_checkImage
  exact ck_gen (by decide) h _ _
theorem ckImg_in {i : Nat} (hi : i < 3) : Bs_checkImage (nI i) P = some (.inr (61 + i)) := by
  unfold Bs_checkImage
  rw [if_neg (nI_pos (by omega)), if_pos (show nI i < (3 : Int32) from nI_lt hi (by decide)), z_gd hi (by decide), z_cl (by omega)]
  exact if_pos (kd_img i hi)
theorem wR_no {n k : Nat} (h : wR n k = true) : ¬ (3 ≤ n ∧ n ≤ 10) ∧ n ≠ 43 ∧ n ≠ 44 := by
  unfold wR at h
  simp only [Bool.and_eq_true, Bool.not_eq_true', Bool.and_eq_false_iff, decide_eq_false_iff_not] at h
  omega
theorem wL_no {n : Nat} (h : wL n = true) : ¬ (3 ≤ n ∧ n ≤ 10) ∧ n ≠ 43 := by
  unfold wL at h
  simp only [Bool.and_eq_true, Bool.not_eq_true', Bool.and_eq_false_iff, decide_eq_false_iff_not] at h
  omega
theorem call_image (h : INVx D N P) (v : Int32) : callVo (Bs_image v P) (Mo_image v) [NSE] P := by
  obtain ⟨hD, hN, hR, hRN, hC, hCN, hT, hI, hTP, hA0, hA1⟩ := id h
  rcases three v 3 (by decide) with o | ⟨i, hi, rfl⟩
  · refine ⟨1, P, by decide, ?_, fun P2 hP2 => ⟨sI P2 1 5 (nI 1), ?_, at5 _ _, D, N, h.scr (hP2.scr.sI _ rfl)⟩⟩
    · unfold Bs_image; rw [ckImg_out o]; rfl
    · unfold Mo_image Mo_image_18
      rw [w_out 2 2 (by decide) rfl (by decide) o, Option.bind_some, if_pos rfl, Option.bind_some, at5, if_neg (by decide)]
      rfl
  · have kk := kd_img i hi
    obtain ⟨Pa, hPa⟩ : ∃ Pa, Pa = sI P (61 + i) 0 1 := ⟨_, rfl⟩
    have a1 : ∀ n, n ≠ 61 + i → Pa.1 n = P.1 n := fun n hn => by rw [hPa]; exact rowI_o _ _ _ hn
    have a2 : Pa.2 = P.2 := by rw [hPa]; rfl
    have hCa : CD 3 D Pa := hC.keep (a1 _ (by omega)) (a1 _ (by omega)) (a1 _ (by omega)) (a1 _ (by omega)) (a1 _ (by omega)) (by rw [a2]) (by rw [a2]) (a1 _ (by omega))
    obtain ⟨Pb, b1, b2, b3⟩ := dr_copy (t := 19 + 8 * i) (v := 3) (by omega) hD hCa
    have hNb : CN 43 D N Pb := hCN.rows (by rw [(b3 43 (by omega)).1, a1 43 (by omega)]) (by rw [(b3 44 (by omega)).1, a1 44 (by omega)]) (by rw [(b3 43 (by omega)).2, a2])
    obtain ⟨P1, c1, c2, c3⟩ := ne_copy (t := 47 + 2 * i) (v := 43) (by omega) hN hNb
    have q1 : ∀ n, n ≠ 61 + i → (n < 19 + 8 * i ∨ 27 + 8 * i ≤ n) → n ≠ 47 + 2 * i → n ≠ 48 + 2 * i → P1.1 n = P.1 n := fun n x y z w => by
      rw [c3.1 n z (by omega), (b3 n (by omega)).1, a1 n x]
    have q2 : ∀ n, (n < 19 + 8 * i ∨ 27 + 8 * i ≤ n) → n ≠ 47 + 2 * i → P1.2 n = P.2 n := fun n y z => by
      rw [c3.2 n z, (b3 n (by omega)).2, a2]
    have q3 : P1.1 (61 + i) = upd (P.1 (61 + i)) 0 1 := by rw [c3.1 _ (by omega) (by omega), (b3 _ (by omega)).1, hPa, rowI_s]
    have q4 : CD (19 + 8 * i) D P1 := b2.keep (c3.1 _ (by omega) (by omega)) (c3.1 _ (by omega) (by omega)) (c3.1 _ (by omega) (by omega)) (c3.1 _ (by omega) (by omega)) (c3.1 _ (by omega) (by omega)) (c3.2 _ (by omega)) (c3.2 _ (by omega)) (c3.1 _ (by omega) (by omega))
    refine ⟨0, P1, by decide, ?_, fun P2 hP2 => ?_⟩
    · unfold Bs_image
      rw [ckImg_in hi, Option.bind_some]
      show gdP (kd (61 + i) = 1) _ = _
      rw [show ∀ o : Option ((String ⊕ Unit) × PH), gdP (kd (61 + i) = 1) o = o from fun o => if_pos kk]
      unfold Im_make
      rw [gd1, Option.bind_some, ← hPa, imD_i, imN_i, b1, Option.bind_some, c1]
      rfl
    · obtain ⟨P3, hP3⟩ : ∃ P3, P3 = sI (sI P2 1 5 (nI 0)) 92 i (nI 1) := ⟨_, rfl⟩
      obtain ⟨Q, e1, e2, e3, e4, e5⟩ := image_38 hi 512 0 bigN P3 rfl (big_gt (by omega)) (fun j hj => by omega)
      rw [show (nI 0 : Int32) = 0 from rfl] at e1
      have s1 : ∀ n, n ≠ 61 + i → (n < 19 + 8 * i ∨ 27 + 8 * i ≤ n) → n ≠ 47 + 2 * i → n ≠ 48 + 2 * i → n ≠ 1 → n ≠ 92 → P3.1 n = P.1 n := fun n x y z w a b => by
        rw [hP3, rowI_o _ _ _ b, rowI_o _ _ _ a, hP2.1, q1 n x y z w]
      have t1 : ∀ n, n ≠ 61 + i → (n < 19 + 8 * i ∨ 27 + 8 * i ≤ n) → n ≠ 47 + 2 * i → n ≠ 48 + 2 * i → n ≠ 1 → n ≠ 92 → n ≠ 90 → Q.1 n = P.1 n := fun n x y z w a b c => by
        rw [e3 n c, s1 n x y z w a b]
      have t2 : ∀ n, (n < 19 + 8 * i ∨ 27 + 8 * i ≤ n) → n ≠ 47 + 2 * i → n ≠ 2 → Q.2 n = P.2 n := fun n y z a => by
        rw [e2, hP3]
        show P2.2 n = P.2 n
        rw [hP2.2 n a, q2 n y z]
      have tI : ∀ n, n ≠ 1 → n ≠ 92 → n ≠ 90 → Q.1 n = P1.1 n := fun n a b c => by rw [e3 n c, hP3, rowI_o _ _ _ b, rowI_o _ _ _ a, hP2.1]
      have tL : ∀ n, n ≠ 2 → Q.2 n = P1.2 n := fun n a => by
        rw [e2, hP3]
        exact hP2.2 n a
      have t3 : Q.1 92 = upd (P.1 92) i (nI 1) := by
        rw [e3 92 (by decide), hP3, rowI_s, rowI_o _ _ _ (by decide), hP2.1, q1 92 (by omega) (by omega) (by omega) (by omega)]
      have t4 : Q.1 1 = upd (P.1 1) 5 (nI 0) := by
        rw [e3 1 (by decide), hP3, rowI_o _ _ _ (by decide), rowI_s, hP2.1, q1 1 (by omega) (by omega) (by omega) (by omega)]
      have t5 : Q.1 (61 + i) = upd (P.1 (61 + i)) 0 1 := by rw [tI _ (by omega) (by omega) (by omega), q3]
      have t8 : P3.1 88 = P.1 88 := s1 88 (by omega) (by omega) (by omega) (by omega) (by decide) (by decide)
      have t9 : P3.1 90 = P.1 90 := s1 90 (by omega) (by omega) (by omega) (by omega) (by decide) (by decide)
      refine ⟨Q, ?_, ?_, D, N, hD, hN, ?_, ?_, ?_, ?_, fun j hj => ?_, fun j hj => ?_, ?_, ?_, ?_⟩
      · unfold Mo_image Mo_image_18
        rw [w_in 2 2 (by decide) rfl (by decide) hi, Option.bind_some, if_neg (by decide), Option.bind_some, if_pos (by rw [at5]; decide), z_gd hi (by decide), z_cl (by omega), bn1, Option.bind_some, show sI P2 1 5 (0 : Int32) = sI P2 1 5 (nI 0) from rfl, ← hP3]
        exact e1
      · rw [t4, pk_us]
      · rw [t1 88 (by omega) (by omega) (by omega) (by omega) (by decide) (by decide) (by decide)]; exact hR
      · rw [t1 88 (by omega) (by omega) (by omega) (by omega) (by decide) (by decide) (by decide)]; exact hRN
      · exact hC.keep (t1 _ (by omega) (by omega) (by omega) (by omega) (by omega) (by omega) (by omega)) (t1 _ (by omega) (by omega) (by omega) (by omega) (by omega) (by omega) (by omega)) (t1 _ (by omega) (by omega) (by omega) (by omega) (by omega) (by omega) (by omega)) (t1 _ (by omega) (by omega) (by omega) (by omega) (by omega) (by omega) (by omega)) (t1 _ (by omega) (by omega) (by omega) (by omega) (by omega) (by omega) (by omega)) (t2 _ (by omega) (by omega) (by omega)) (t2 _ (by omega) (by omega) (by omega)) (t1 _ (by omega) (by omega) (by omega) (by omega) (by omega) (by omega) (by omega))
      · exact hCN.rows (t1 _ (by omega) (by omega) (by omega) (by omega) (by omega) (by omega) (by omega)) (t1 _ (by omega) (by omega) (by omega) (by omega) (by omega) (by omega) (by omega)) (t2 _ (by omega) (by omega) (by omega))
      · have t := hT j hj
        unfold TR at t ⊢
        rw [t1 108 (by omega) (by omega) (by omega) (by omega) (by omega) (by omega) (by omega), t1 109 (by omega) (by omega) (by omega) (by omega) (by omega) (by omega) (by omega), t1 (53 + 2 * j) (by omega) (by omega) (by omega) (by omega) (by omega) (by omega) (by omega), t2 (54 + 2 * j) (by omega) (by omega) (by omega), t2 110 (by omega) (by omega) (by omega)]
        exact t
      · by_cases c : j = i
        · subst c
          refine Or.inr ⟨by rw [t3, pk_us], by rw [t5, pk_us]; rfl, D, N, hD, hN, hR.cp hD (fun k hk => ?_), hRN.cp hD hN (fun k hk => ?_), ?_, ?_⟩
          · show Q.1 90 (512 * j + k) = _
            rw [e5 k hk, t8]
          · show Q.1 90 (512 * j + k) = _
            rw [e5 k hk, t8]
          · exact q4.keep (tI _ (by omega) (by omega) (by omega)) (tI _ (by omega) (by omega) (by omega)) (tI _ (by omega) (by omega) (by omega)) (tI _ (by omega) (by omega) (by omega)) (tI _ (by omega) (by omega) (by omega)) (tL _ (by omega)) (tL _ (by omega)) (tI _ (by omega) (by omega) (by omega))
          · exact c2.rows (tI _ (by omega) (by omega) (by omega)) (tI _ (by omega) (by omega) (by omega)) (tL _ (by omega))
        · have t := hI j hj
          unfold IM at t ⊢
          rw [t3, pk_un c, t1 (61 + j) (by omega) (by omega) (by omega) (by omega) (by omega) (by omega) (by omega)]
          rcases t with t | ⟨u1, u2, D', N', u3, u4, u5, u6, u7, u8⟩
          · exact Or.inl t
          · have ei : ∀ k, k < 512 → imT Q j k = imT P j k := fun k hk => by
              show Q.1 90 (512 * j + k) = P.1 90 (512 * j + k)
              rw [e4 _ (by omega), t9]
            refine Or.inr ⟨u1, u2, D', N', u3, u4, u5.cp u3 ei, u6.cp u3 u4 ei, ?_, ?_⟩
            · exact u7.keep (t1 _ (by omega) (by omega) (by omega) (by omega) (by omega) (by omega) (by omega)) (t1 _ (by omega) (by omega) (by omega) (by omega) (by omega) (by omega) (by omega)) (t1 _ (by omega) (by omega) (by omega) (by omega) (by omega) (by omega) (by omega)) (t1 _ (by omega) (by omega) (by omega) (by omega) (by omega) (by omega) (by omega)) (t1 _ (by omega) (by omega) (by omega) (by omega) (by omega) (by omega) (by omega)) (t2 _ (by omega) (by omega) (by omega)) (t2 _ (by omega) (by omega) (by omega)) (t1 _ (by omega) (by omega) (by omega) (by omega) (by omega) (by omega) (by omega))
            · exact u8.rows (t1 _ (by omega) (by omega) (by omega) (by omega) (by omega) (by omega) (by omega)) (t1 _ (by omega) (by omega) (by omega) (by omega) (by omega) (by omega) (by omega)) (t2 _ (by omega) (by omega) (by omega))
      · obtain ⟨f, g1, g2, g3, g4⟩ := hTP
        refine ⟨f, g1, ?_, ?_, ?_⟩
        · rw [t1 71 (by omega) (by omega) (by omega) (by omega) (by omega) (by omega) (by omega)]; exact g2
        · rw [t4, pk_un (by decide)]; exact g3
        · rw [t1 93 (by omega) (by omega) (by omega) (by omega) (by omega) (by omega) (by omega), t1 72 (by omega) (by omega) (by omega) (by omega) (by omega) (by omega) (by omega)]; exact g4
      · rw [t1 0 (by omega) (by omega) (by omega) (by omega) (by omega) (by omega) (by omega), t4, pk_un (by decide)]; exact hA0
      · rw [t1 0 (by omega) (by omega) (by omega) (by omega) (by omega) (by omega) (by omega), t4, pk_un (by decide)]; exact hA1
theorem call_restore (h : INVx D N P) (v : Int32) : callVo (Bs_restore v P) (Mo_restore v) [NSE, ISE] P := by
  obtain ⟨hD, hN, hR, hRN, hC, hCN, hT, hI, hTP, hA0, hA1⟩ := id h
  rcases three v 3 (by decide) with o | ⟨i, hi, rfl⟩
  · refine ⟨1, P, by decide, ?_, fun P2 hP2 => ⟨sI P2 1 5 (nI 1), ?_, at5 _ _, D, N, h.scr (hP2.scr.sI _ rfl)⟩⟩
    · unfold Bs_restore; rw [ckImg_out o]; rfl
    · unfold Mo_restore
      rw [w_out 2 2 (by decide) rfl (by decide) o, Option.bind_some, if_pos rfl, Option.bind_some, at5, if_neg (by decide)]
      rfl
  · have kk := kd_img i hi
    have gk : ∀ o : Option ((String ⊕ Unit) × PH), gdP (kd (61 + i) = 1) o = o := fun o => if_pos kk
    rcases hI i hi with ⟨z1, z2⟩ | ⟨z1, z2, D', N', hD', hN', u5, u6, u7, u8⟩
    · refine ⟨2, P, by decide, ?_, fun P2 hP2 => ⟨sI P2 1 5 (nI 2), ?_, at5 _ _, D, N, h.scr (hP2.scr.sI _ rfl)⟩⟩
      · unfold Bs_restore
        rw [ckImg_in hi, Option.bind_some]
        show gdP (kd (61 + i) = 1) _ = _
        rw [gk, if_pos (by rw [z2]; rfl)]
        rfl
      · unfold Mo_restore
        rw [w_in 2 2 (by decide) rfl (by decide) hi, Option.bind_some, if_neg (by decide), z_gd hi (by decide), z_cl (by omega), if_pos (by rw [hP2.1, z1]; rfl), Option.bind_some, at5, if_neg (by decide)]
        rfl
    · obtain ⟨Pb, b1, b2, b3⟩ := dr_copy (t := 3) (v := 19 + 8 * i) (by omega) hD' u7
      have hNb : CN (47 + 2 * i) D' N' Pb := u8.rows (b3 _ (by omega)).1 (b3 _ (by omega)).1 (b3 _ (by omega)).2
      obtain ⟨P1, c1, c2, c3⟩ := ne_copy (t := 43) (v := 47 + 2 * i) (by omega) hN' hNb
      have hC1 : CD 3 D' P1 := b2.keep (c3.1 _ (by omega) (by omega)) (c3.1 _ (by omega) (by omega)) (c3.1 _ (by omega) (by omega)) (c3.1 _ (by omega) (by omega)) (c3.1 _ (by omega) (by omega)) (c3.2 _ (by omega)) (c3.2 _ (by omega)) (c3.1 _ (by omega) (by omega))
      have sW : scrW P P1 := ⟨fun n k q => by
        obtain ⟨w1, w2, w3⟩ := wR_no q
        rw [c3.1 n w2 (by omega), (b3 n (by omega)).1], fun n k q => by
        obtain ⟨w1, w2⟩ := wL_no q
        rw [c3.2 n w2, (b3 n (by omega)).2]⟩
      refine ⟨0, P1, by decide, ?_, fun P2 hP2 => ?_⟩
      · unfold Bs_restore
        rw [ckImg_in hi, Option.bind_some]
        show gdP (kd (61 + i) = 1) _ = _
        rw [gk, if_neg (by rw [z2]; decide), imD_i, imN_i, b1, Option.bind_some, c1]
        rfl
      · have s1 : scr P1 (sI P2 1 5 (nI 0)) := hP2.scr.sI _ rfl
        obtain ⟨Q, e1, e2, e3⟩ := restore_44 hi 512 0 bigN (sI P2 1 5 (nI 0)) rfl (big_gt (by omega)) (fun j hj => by omega)
        rw [show Mo_restore_44 (nI i) bigN (nI 0) (sI P2 1 5 (nI 0)) = Mo_restore_44 (nI i) bigN (0 : Int32) (sI P2 1 5 (0 : Int32)) from rfl] at e1
        have r90 : (sI P2 1 5 (nI 0)).1 90 = P.1 90 := by rw [off5 _ _ (by decide), hP2.1, c3.1 90 (by decide) (by decide), (b3 90 (by omega)).1]
        have ei : ∀ k, k < 512 → Q.1 88 k = imT P i k := fun k hk => by rw [e3 k hk, r90]; rfl
        refine ⟨Q, ?_, ?_, D', N', INVx.of hD' hN' (u5.cp hD' ei) (u6.cp hD' hN' ei) ?_ ?_ (h.rest.keep (sW.tr (s1.W.tr e2.W)))⟩
        · unfold Mo_restore
          rw [w_in 2 2 (by decide) rfl (by decide) hi, Option.bind_some, if_neg (by decide), z_gd hi (by decide), z_cl (by omega), if_neg (by rw [hP2.1, c3.1 92 (by decide) (by decide), (b3 92 (by omega)).1, z1]; decide), Option.bind_some, at5, if_pos (by decide)]
          exact e1
        · rw [e2.1 1 (by decide)]; exact at5 _ _
        · have g := hC1.scr s1 (fun j hj => iR_rg (by omega)) (fun j hj => iL_rg (by omega))
          exact g.keep (e2.1 _ (by decide)) (e2.1 _ (by decide)) (e2.1 _ (by decide)) (e2.1 _ (by decide)) (e2.1 _ (by decide)) (by rw [e2.2]) (by rw [e2.2]) (e2.1 _ (by decide))
        · have g := c2.scr s1 (iR_rg (by omega)) (iR_rg (by omega)) (iL_rg (by omega))
          exact g.rows (e2.1 _ (by decide)) (e2.1 _ (by decide)) (by rw [e2.2])
end IMG
