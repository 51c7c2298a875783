/-! WRITE -/
section WRT
variable {D : DT} {N : NT} {P : PH}
theorem shf {k : Nat} (hk : k < 64) (x : Int64) {i : Nat} (hi : i < 64) : bL ((x <<< ((nI k).toInt64 &&& 63)) >>> ((nI k).toInt64 &&& 63)) i = bL x (if i < 64 - k then i else 63 - k) := by
  have e1 : (x <<< ((nI k).toInt64 &&& 63)).toBitVec = x.toBitVec <<< k := by
    rw [wb_c k hk, Int64.toBitVec_shiftLeft, wb_tb, wb_sm k hk, BitVec.shiftLeft_eq', BitVec.toNat_ofNat, Nat.mod_eq_of_lt (by omega)]
  have e2 : ((x <<< ((nI k).toInt64 &&& 63)) >>> ((nI k).toInt64 &&& 63)).toBitVec = (x.toBitVec <<< k).sshiftRight k := by
    rw [wb_c k hk, Int64.toBitVec_shiftRight, wb_tb, wb_sm k hk, BitVec.sshiftRight_eq', BitVec.toNat_ofNat, Nat.mod_eq_of_lt (by omega), ← wb_c k hk, e1]
  unfold bL
  rw [e2, BitVec.getLsbD_sshiftRight, BitVec.msb_eq_getLsbD_last, BitVec.getLsbD_shiftLeft, BitVec.getLsbD_shiftLeft]
  by_cases c : i < 64 - k
  · rw [if_pos c, if_pos (by omega), show k + i - k = i by omega]
    have h1 : ¬ 64 ≤ i := by omega
    have h2 : k + i < 64 := by omega
    have h3 : ¬ k + i < k := by omega
    simp [h1, h2, h3]
  · rw [if_neg c, if_neg (by omega)]
    have h1 : ¬ 64 ≤ i := by omega
    have h3 : ¬ 63 < k := by omega
    simp [h1, h3]
theorem s32 (x : Int64) {i : Nat} (hi : i < 64) : bL (x.toInt32.toInt64) i = bL x (if i < 32 then i else 31) := by
  unfold bL
  rw [Int32.toBitVec_toInt64, BitVec.getLsbD_signExtend, BitVec.msb_eq_getLsbD_last, Int64.toBitVec_toInt32]
  by_cases c : i < 32
  · rw [if_pos c, if_pos c, BitVec.getLsbD_signExtend]; simp [c, hi]
  · rw [if_neg c, if_neg c, BitVec.getLsbD_signExtend]; simp [hi]
theorem s8b (x : Int64) {i : Nat} (hi : i < 32) : x.toInt32.toInt8.toInt32.toBitVec.getLsbD i = bL x (if i < 8 then i else 7) := by
  unfold bL
  rw [Int8.toBitVec_toInt32, BitVec.getLsbD_signExtend, BitVec.msb_eq_getLsbD_last, Int32.toBitVec_toInt8, Int64.toBitVec_toInt32]
  by_cases c : i < 8
  · have h64 : i < 64 := by omega
    rw [if_pos c, if_pos c, BitVec.getLsbD_signExtend, BitVec.getLsbD_signExtend]; simp [c, hi, h64]
  · rw [if_neg c, if_neg c, BitVec.getLsbD_signExtend, BitVec.getLsbD_signExtend]; simp [hi]
theorem s16b (x : Int64) {i : Nat} (hi : i < 32) : x.toInt32.toInt16.toInt32.toBitVec.getLsbD i = bL x (if i < 16 then i else 15) := by
  unfold bL
  rw [Int16.toBitVec_toInt32, BitVec.getLsbD_signExtend, BitVec.msb_eq_getLsbD_last, Int32.toBitVec_toInt16, Int64.toBitVec_toInt32]
  by_cases c : i < 16
  · have h64 : i < 64 := by omega
    rw [if_pos c, if_pos c, BitVec.getLsbD_signExtend, BitVec.getLsbD_signExtend]; simp [c, hi, h64]
  · rw [if_neg c, if_neg c, BitVec.getLsbD_signExtend, BitVec.getLsbD_signExtend]; simp [hi]
theorem s8l (x : Int64) {i : Nat} (hi : i < 64) : bL (x.toInt32.toInt8.toInt32.toInt64) i = bL x (if i < 8 then i else 7) := by
  show x.toInt32.toInt8.toInt32.toInt64.toBitVec.getLsbD i = _
  rw [Int32.toBitVec_toInt64, BitVec.getLsbD_signExtend, BitVec.msb_eq_getLsbD_last]
  by_cases c : i < 32
  · rw [if_pos c, s8b x c]; simp [hi]
  · rw [if_neg c, s8b x (show 32 - 1 < 32 by decide), if_neg (show ¬ (32 - 1 < 8) by decide), if_neg (show ¬ i < 8 by omega)]; simp [hi]
theorem s16l (x : Int64) {i : Nat} (hi : i < 64) : bL (x.toInt32.toInt16.toInt32.toInt64) i = bL x (if i < 16 then i else 15) := by
  show x.toInt32.toInt16.toInt32.toInt64.toBitVec.getLsbD i = _
  rw [Int32.toBitVec_toInt64, BitVec.getLsbD_signExtend, BitVec.msb_eq_getLsbD_last]
  by_cases c : i < 32
  · rw [if_pos c, s16b x c]; simp [hi]
  · rw [if_neg c, s16b x (show 32 - 1 < 32 by decide), if_neg (show ¬ (32 - 1 < 16) by decide), if_neg (show ¬ i < 16 by omega)]; simp [hi]
/-- a value cut to a sort -/
def cutS (s : Nat) (x : Int64) : Int64 := if s = 0 then x.toInt32.toInt8.toInt32.toInt64 else if s = 1 then x.toInt32.toInt16.toInt32.toInt64 else if s = 2 then x.toInt32.toInt64 else x
theorem cut_cls {t s : Nat} (hs : s < 4) (h : P.1 t 2 = nI s) (x : Int64) : Tr_cutToSort t x P = some (cutS s x) := by
  unfold Tr_cutToSort cutS
  rw [h]
  rcases (show s = 0 ∨ s = 1 ∨ s = 2 ∨ s = 3 by omega) with rfl | rfl | rfl | rfl <;> rfl
theorem cut_ref {s : Nat} (hs : s < 4) (x : Int64) : (x <<< (((64 : Int32) - ((8 : Int32) <<< (nI s &&& 31))).toInt64 &&& 63)) >>> (((64 : Int32) - ((8 : Int32) <<< (nI s &&& 31))).toInt64 &&& 63) = cutS s x := by
  refine bL_ext (fun i hi => ?_)
  rcases (show s = 0 ∨ s = 1 ∨ s = 2 ∨ s = 3 by omega) with rfl | rfl | rfl | rfl
  · rw [show (64 : Int32) - ((8 : Int32) <<< (nI 0 &&& 31)) = nI 56 by decide, shf (by decide) x hi]
    exact (s8l x hi).symm
  · rw [show (64 : Int32) - ((8 : Int32) <<< (nI 1 &&& 31)) = nI 48 by decide, shf (by decide) x hi]
    exact (s16l x hi).symm
  · rw [show (64 : Int32) - ((8 : Int32) <<< (nI 2 &&& 31)) = nI 32 by decide, shf (by decide) x hi]
    exact (s32 x hi).symm
  · rw [show (64 : Int32) - ((8 : Int32) <<< (nI 3 &&& 31)) = nI 0 by decide, shf (by decide) x hi, if_pos (by omega)]
    rfl
def clsL (l : List String) (r : Nat × Int64) : String ⊕ Int64 := if r.1 = 0 then .inr r.2 else .inl (l.getD (r.1 - 1) "")
def callLo (c : Option ((String ⊕ Int64) × PH)) (m : PH → Option (Int64 × PH)) (l : List String) (P : PH) : Prop := ∃ (r : Nat × Int64) (P1 : PH), r.1 ≤ l.length ∧ c = some (clsL l r, P1) ∧ ∀ P2, out2 P1 P2 → ∃ b Q, m P2 = some (b, Q) ∧ Q.1 1 5 = nI r.1 ∧ Q.2 2 = P2.2 2 ∧ (r.1 = 0 → b = r.2) ∧ INV Q
theorem call_write (h : INVx D N P) (v v2 : Int32) (x : Int64) : callLo (Bs_write v v2 x P) (Mo_write v v2 x) [NSE, ISE, IOB] P := by
  obtain ⟨hD, hN, hR, hRN, hC, hCN, hT, hI, hTP, hA0, hA1⟩ := id h
  have out : ∀ (t : Nat) (P2 : PH), out2 P P2 → INV (sI P2 1 5 (nI t)) := fun t P2 hP2 => ⟨D, N, h.scr (hP2.scr.sI _ rfl)⟩
  rcases three v 4 (by decide) with o | ⟨i, hi, rfl⟩
  · refine ⟨(1, 0), P, by decide, ?_, fun P2 hP2 => ⟨(0 : Int32).toInt64, sI P2 1 5 (nI 1), ?_, at5 _ _, rfl, fun q => absurd q (by decide), out 1 P2 hP2⟩⟩
    · unfold Bs_write; rw [ckTray_out o]; rfl
    · unfold Mo_write Mo_fails
      rw [Option.bind_some, isTray_out o, Option.bind_some, if_pos rfl, Option.bind_some, sI2]
      rfl
  · rcases hT i hi with ⟨t1, t2⟩ | ⟨s, M, hs, hM, t1, t2, t3, t4, t5, t6⟩
    · refine ⟨(2, 0), P, by decide, ?_, fun P2 hP2 => ⟨(0 : Int32).toInt64, sI P2 1 5 (nI 2), ?_, at5 _ _, rfl, fun q => absurd q (by decide), out 2 P2 hP2⟩⟩
      · unfold Bs_write Bs_checkThere
        rw [ckTray_in hi, Option.bind_some]
        show gdP (kd (53 + 2 * i) = 8) _ = _
        rw [gkd hi, if_pos (by rw [t2]; rfl)]
        rfl
      · unfold Mo_write Mo_fails
        rw [Option.bind_some, isTray_in hi, Option.bind_some, if_neg (by decide), z_gd hi (by decide), z_cl (by omega), off5 _ _ (by decide), hP2.1, if_pos (show P.1 108 i = (-1 : Int32) from t1), Option.bind_some, sI2]
        rfl
    · have up : ∀ Z, (if v2 < 0 then Bs_write_25 P else if v2 < nI M then (Tr_put (53 + 2 * i) v2 x P).bind fun (x40 : Int64 × PH) => some (Sum.inr (x40.1), x40.2) else Bs_write_25 P) = Z → Bs_write (nI i) v2 x P = Z := by
        intro Z hZ
        unfold Bs_write Bs_checkThere
        rw [ckTray_in hi, Option.bind_some]
        show gdP (kd (53 + 2 * i) = 8) _ = _
        rw [gkd hi, if_neg (by rw [t2]; decide)]
        rw [← t4] at hZ
        exact hZ
      have mo : ∀ (P2 : PH) Z, P2.1 = P.1 → (if (if (0 : Int32) ≤ v2 ∧ v2 < nI M then (1 : Int32) else 0) = 0 then ((Mo_fails (3 : Int32) (sI P2 1 5 0)).bind fun (x56 : Int32 × PH) => some ((x56.1).toInt64, x56.2)) else
          gdI (((40 : Int32) * nI i) + v2) 160 <| (some (sL (sI P2 1 5 0) 110 (((40 : Int32) * nI i) + v2).toNatClampNeg (cutS s x))).bind fun (P92 : PH) => gdI (((40 : Int32) * nI i) + v2) 160 <| some (P92.2 110 (((40 : Int32) * nI i) + v2).toNatClampNeg, P92)) = Z → Mo_write (nI i) v2 x P2 = Z := by
        intro P2 Z hP hZ
        unfold Mo_write
        rw [Option.bind_some, isTray_in hi, Option.bind_some, if_neg (by decide), z_gd hi (by decide), z_cl (by omega), off5 _ _ (by decide), off5 _ _ (by decide), hP, if_neg (show ¬ P.1 108 i = (-1 : Int32) from by rw [t1]; exact nI_nm (by omega)), z_gd hi (by decide), t3, win_n M (by omega), Option.bind_some, z_gd hi (by decide), t1, Option.bind_some, cut_ref hs]
        exact hZ
      rcases three v2 M (by omega) with o | ⟨k, hk, rfl⟩
      · refine ⟨(3, 0), P, by decide, up _ ?_, fun P2 hP2 => ⟨(0 : Int32).toInt64, sI P2 1 5 (nI 3), mo P2 _ hP2.1 ?_, at5 _ _, rfl, fun q => absurd q (by decide), out 3 P2 hP2⟩⟩
        · unfold Bs_write_25
          exact ck_gen (by omega) o _ _
        · unfold Mo_fails
          rw [if_neg (show ¬ ((0 : Int32) ≤ v2 ∧ v2 < nI M) from fun q => by
            rcases o with o | o
            · rw [fa_lt] at o; rw [fa_le] at q; omega
            · rw [fa_le] at o; rw [fa_lt] at q; omega), if_pos rfl, Option.bind_some, sI2]
          rfl
      · refine ⟨(0, cutS s x), sL P (53 + 2 * i + 1) k (cutS s x), Nat.zero_le _, up _ ?_, fun P2 hP2 => ⟨cutS s x, sL (sI P2 1 5 (nI 0)) 110 (40 * i + k) (cutS s x), mo P2 _ hP2.1 ?_, ?_, ?_, fun _ => rfl, D, N, ?_⟩⟩
        · rw [if_neg (nI_pos (by omega)), if_pos (nI_lt hk (by omega))]
          unfold Tr_put
          rw [if_neg (nI_pos (by omega)), if_pos (show nI k < (40 : Int32) from nI_lt (show k < 40 by omega) (by decide)), cut_cls hs t5, Option.bind_some, z_gd (show k < 40 by omega) (by decide), z_cl (by omega), Option.bind_some, z_gd (show k < 40 by omega) (by decide), Option.bind_some, rowL_s, pk_uLs]
          rfl
        · rw [if_pos (show (0 : Int32) ≤ nI k ∧ nI k < nI M from ⟨nI_pos' (by omega), nI_lt hk (by omega)⟩), if_neg (by decide), show ((40 : Int32) * nI i) + nI k = nI (40 * i + k) from by rw [show (40 : Int32) = nI 40 from rfl, pk_mul, nI_add], z_gd (by omega) (by decide), z_cl (by omega)]
          show (some (sL (sI P2 1 5 0) 110 (40 * i + k) (cutS s x))).bind _ = _
          rw [Option.bind_some, z_gd (by omega) (by decide), rowL_s, pk_uLs]
          rfl
        · exact at5 P2 (nI 0)
        · exact rowL_o _ _ _ (by decide)
        · have q1 : ∀ n, n ≠ 1 → (sL (sI P2 1 5 (nI 0)) 110 (40 * i + k) (cutS s x)).1 n = P.1 n := fun n a => by
            show (sI P2 1 5 (nI 0)).1 n = P.1 n
            rw [off5 _ _ a, hP2.1]
            rfl
          have q2 : ∀ n, n ≠ 53 + 2 * i + 1 → n ≠ 110 → n ≠ 2 → (sL (sI P2 1 5 (nI 0)) 110 (40 * i + k) (cutS s x)).2 n = P.2 n := fun n a b c => by
            rw [rowL_o _ _ _ b]
            show P2.2 n = P.2 n
            rw [hP2.2 n c, rowL_o _ _ _ a]
          have q3 : (sL (sI P2 1 5 (nI 0)) 110 (40 * i + k) (cutS s x)).2 (53 + 2 * i + 1) = vp_updL (P.2 (53 + 2 * i + 1)) k (cutS s x) := by
            rw [rowL_o _ _ _ (by omega)]
            show P2.2 (53 + 2 * i + 1) = _
            rw [hP2.2 _ (by omega), rowL_s]
          have q4 : (sL (sI P2 1 5 (nI 0)) 110 (40 * i + k) (cutS s x)).2 110 = vp_updL (P.2 110) (40 * i + k) (cutS s x) := by
            rw [rowL_s]
            show vp_updL (P2.2 110) _ _ = _
            rw [hP2.2 110 (by decide), rowL_o _ _ _ (by omega)]
          have q5 : ∀ a, a ≠ 5 → (sL (sI P2 1 5 (nI 0)) 110 (40 * i + k) (cutS s x)).1 1 a = P.1 1 a := fun a ha => by
            show (sI P2 1 5 (nI 0)).1 1 a = P.1 1 a
            rw [off5i _ _ ha, hP2.1]
            rfl
          generalize sL (sI P2 1 5 (nI 0)) 110 (40 * i + k) (cutS s x) = Q at *
          refine ⟨hD, hN, by rw [q1 88 (by decide)]; exact hR, by rw [q1 88 (by decide)]; exact hRN, ?_, ?_, fun j hj => ?_, fun j hj => ?_, ?_, ?_, ?_⟩
          · exact hC.keep (q1 _ (by decide)) (q1 _ (by decide)) (q1 _ (by decide)) (q1 _ (by decide)) (q1 _ (by decide)) (q2 _ (by omega) (by decide) (by decide)) (q2 _ (by omega) (by decide) (by decide)) (q1 _ (by decide))
          · exact hCN.rows (q1 _ (by decide)) (q1 _ (by decide)) (q2 _ (by omega) (by decide) (by decide))
          · by_cases c : j = i
            · subst c
              refine Or.inr ⟨s, M, hs, hM, by rw [q1 108 (by decide)]; exact t1, by rw [q1 _ (by omega)]; exact t2, by rw [q1 109 (by decide)]; exact t3, by rw [q1 _ (by omega)]; exact t4, by rw [q1 _ (by omega)]; exact t5, fun a ha => ?_⟩
              rw [show 54 + 2 * j = 53 + 2 * j + 1 by omega, q3, q4]
              by_cases e : a = k
              · rw [e, pk_uLs, pk_uLs]
              · rw [pk_uLn e, pk_uLn (by omega), show 53 + 2 * j + 1 = 54 + 2 * j by omega]
                exact t6 a ha
            · have t := hT j hj
              unfold TR at t ⊢
              rw [q1 108 (by decide), q1 109 (by decide), q1 (53 + 2 * j) (by omega), q2 (54 + 2 * j) (by omega) (by omega) (by omega), q4]
              rcases t with t | ⟨s', M', u1, u2, u3, u4, u5, u6, u7, u8⟩
              · exact Or.inl t
              · exact Or.inr ⟨s', M', u1, u2, u3, u4, u5, u6, u7, fun a ha => by rw [pk_uLn (by omega)]; exact u8 a ha⟩
          · have t := hI j hj
            unfold IM imT at t ⊢
            rw [q1 92 (by decide), q1 90 (by decide), q1 (61 + j) (by omega)]
            rcases t with t | ⟨u1, u2, D', N', u3, u4, u5, u6, u7, u8⟩
            · exact Or.inl t
            · exact Or.inr ⟨u1, u2, D', N', u3, u4, u5, u6, u7.keep (q1 _ (by omega)) (q1 _ (by omega)) (q1 _ (by omega)) (q1 _ (by omega)) (q1 _ (by omega)) (q2 _ (by omega) (by omega) (by omega)) (q2 _ (by omega) (by omega) (by omega)) (q1 _ (by omega)), u8.rows (q1 _ (by omega)) (q1 _ (by omega)) (q2 _ (by omega) (by omega) (by omega))⟩
          · obtain ⟨f, g1, g2, g3, g4⟩ := hTP
            exact ⟨f, g1, by rw [q1 71 (by decide)]; exact g2, by rw [q5 7 (by decide)]; exact g3, by rw [q1 93 (by decide), q1 72 (by decide)]; exact g4⟩
          · rw [q1 0 (by decide), q5 16 (by decide)]; exact hA0
          · rw [q1 0 (by decide), q5 17 (by decide)]; exact hA1
end WRT
