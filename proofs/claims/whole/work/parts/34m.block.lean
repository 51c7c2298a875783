/-! DRAWING: a block run by the pen, the whole script -/
section BLK
variable {A : Nat → Nat → Int32} {M : Nat → Int32} {d : Nat}
theorem itF_i {f : ST → ST ⊕ (Nat × Nat)} {u : ST → ST} (h : ∀ s, f s = .inl (u s)) (h2 : ∀ s, u (u s) = u s) : ∀ (m : Nat) (s : ST), itF (m + 1) f s = .inl (u s)
  | 0, s => by
    show oB (f s) (itF 0 f) = _
    rw [h]
    rfl
  | m + 1, s => by
    show oB (f s) (itF (m + 1) f) = _
    rw [h]
    show itF (m + 1) f (u s) = _
    rw [itF_i h h2 m (u s), h2]
theorem tr_or {a w : Nat} {sg : Bool} (h : orE a d) (hd : d < 5) : orE (trA sg w a) (d + 1) := by
  unfold orE trA at *
  split
  · split <;> omega
  · omega
theorem MPn.o {s : ST} {P Q : PH} (h : MPn s P) (h1 : Q.1 1 = P.1 1) (h2 : Q.1 89 = P.1 89) : MPn s Q := by
  unfold MPn at *
  rw [h1, h2]
  exact h
theorem pe_block {rec : Int32 → Int32 → Int32 → Int32 → Int32 → PH → Option (PH)} {P : PH} {i w a : Nat} {sg : Bool} (hi : i < 200) (hd : d < 5) (ho : orE a d) (hw : 11 ≤ w) (hw2 : w < 14) (h67 : P.1 67 i = nI w) : Pe_block rec (nI i) (nI d) (plV a) (sgV sg) P = Pe_block_62 rec (nI i) (nI d) (plV (trA sg w a)) (sgV (trS sg w)) bigN (nI 0) P := by
  have h21 := ho.lt (by omega)
  have h2 : 2 ≤ a := by unfold orE at ho; omega
  unfold Pe_block Pe_block_33
  rw [if_pos (show nI d < (5 : Int32) from (show nI d < nI 5 from nI_lt hd (by decide))), sc_word hi, Option.bind_some, h67]
  rcases (show w = 11 ∨ w = 12 ∨ w = 13 by omega) with rfl | rfl | rfl
  · rw [if_neg (by decide), if_pos (by decide)]
    rfl
  · rw [if_pos (by decide), if_neg (by decide), if_pos (by decide), pl_tr a h21 sg h2]
    rfl
  · rw [if_neg (by decide), if_neg (by decide), if_neg (by decide), Option.bind_some, sg_neg]
    rfl
theorem sv_it {f : ST → ST ⊕ (Nat × Nat)} (h : ∀ s, SV s → (∀ s', f s = .inl s' → SV s') ∧ ∀ x, f s = .inr x → 5 ≤ x.1 ∧ x.1 ≤ 7) : ∀ (m : Nat) (s : ST), SV s → (∀ s', itF m f s = .inl s' → SV s') ∧ ∀ x, itF m f s = .inr x → 5 ≤ x.1 ∧ x.1 ≤ 7 := by
  intro m
  induction m with
  | zero => intro s hs; exact ⟨fun s' e => by cases e; exact hs, fun x e => by cases e⟩
  | succ m ih =>
    intro s hs
    refine ⟨fun s' e => ?_, fun x e => ?_⟩
    · obtain ⟨t, t1, t2⟩ := oB_l e
      exact (ih t ((h s hs).1 t t1)).1 s' t2
    · rcases oB_r e with t1 | ⟨t, t1, t2⟩
      · exact (h s hs).2 x t1
      · exact (ih t ((h s hs).1 t t1)).2 x t2
theorem blk_bnd {ci cb d q N : Nat} (hd : d < 5) (h : ci + 1 ≤ cb) (hq : q + 1 ≤ 12) (hN : N ≤ (q + 1) * ((cb - (ci + 1)) * 12 ^ (5 - (d + 1)) + 1)) : N + 1 ≤ (cb + 1 - ci) * 12 ^ (5 - d) := by
  have e12 : 12 ^ (5 - d) = 12 * 12 ^ (5 - (d + 1)) := by rw [show 5 - d = (5 - (d + 1)) + 1 by omega, Nat.pow_succ, Nat.mul_comm]
  have k1 : 1 ≤ 12 ^ (5 - (d + 1)) := Nat.le_trans Nat.one_le_two_pow (Nat.pow_le_pow_left (by decide) _)
  rw [e12]
  generalize 12 ^ (5 - (d + 1)) = K at *
  obtain ⟨X, hX⟩ : ∃ X, X = cb - (ci + 1) := ⟨_, rfl⟩
  rw [← hX] at hN
  rw [show cb + 1 - ci = X + 2 by omega]
  have a1 : (q + 1) * (X * K + 1) ≤ 12 * (X * K + 1) := Nat.mul_le_mul_right _ hq
  have a2 : (X + 2) * (12 * K) = 12 * (X * K) + 24 * K := by
    rw [Nat.add_mul, Nat.mul_left_comm]
    omega
  omega
theorem pe_rec {P : PH} {i i' a : Nat} {sg : Bool} (hd : d < 5) : Pe_follow (6 - d) (nI i + (1 : Int32)) (nI i') (nI d + (1 : Int32)) (plV a) (sgV sg) P = flw (d + 1) i' a sg bigN (i + 1) (i + 1) P := by
  rw [show 6 - d = (6 - (d + 1)) + 1 by omega, nI_1, nI_1]
  rfl
theorem run_blo {i i' ci cb w r : Nat} (hd : d < 5) (hi' : i' ≤ 200) (hii : i < i') (hw : 11 ≤ w) (hw2 : w < 14) (hr : 1 ≤ r) (hr2 : r ≤ 12) (h67 : A 67 i = nI w) (h69 : A 69 i = nI i') (h68 : (drB A i i' ∧ A 68 i = nI r) ∨ (¬ drB A i i' ∧ A 68 i = nI 1)) (g0 : M (4 * ci) = nI w) (g1 : M (4 * ci + 1) = nI r) (g2 : M (4 * cb) = nI 14) (hW : ∀ k, i + 1 ≤ k → k < i' → ∃ w : Nat, w < 14 ∧ A 67 k = nI w) (hin : RUNp A M (d + 1) (i + 1) i' (ci + 1) cb) : RUNp A M d i i' ci (cb + 1) := by
  obtain ⟨G, c, m, sv, no, l1, l2⟩ := hin
  have hc0 : ∃ c0, 1 ≤ c0 ∧ c0 ≤ 12 ∧ A 68 i = nI c0 ∧ ∀ sg a s, itF c0 (G sg a) s = itF r (G sg a) s := by
    rcases h68 with ⟨-, e⟩ | ⟨nd, e⟩
    · exact ⟨r, hr, hr2, e, fun _ _ _ => rfl⟩
    · obtain ⟨p, k, K, e2⟩ := no (fun k a b => by
        obtain ⟨v, v1, v2⟩ := hW k a b
        refine ⟨v, ?_, v1, v2⟩
        by_cases z : v < 8
        · exact absurd ⟨k, v, by omega, b, z, v2⟩ nd
        · omega)
      refine ⟨1, by decide, by decide, e, fun sg a s => ?_⟩
      obtain ⟨r', rfl⟩ : ∃ r', r = r' + 1 := ⟨r - 1, by omega⟩
      rw [itF_i (f := G sg a) (fun s => e2 sg a s) (updS_i p k K) 0 s, itF_i (f := G sg a) (fun s => e2 sg a s) (updS_i p k K) r' s]
  obtain ⟨c0, c01, c02, c03, c04⟩ := hc0
  -- the class's rounds
  have rounds : ∀ (sg' : Bool) (a' : Nat), orE a' (d + 1) → ∀ (m c' f : Nat) (s : ST) (P : PH), SV s → CPn s P → rwE A P → c' + m = c0 → m < f → (∀ s', itF m (G sg' a') s = .inl s' → ∃ P' : PH, Pe_block_62 (Pe_follow (6 - d)) (nI i) (nI d) (plV a') (sgV sg') f (nI c') P = some P' ∧ CPn s' P' ∧ oCp P P') ∧ (∀ x, itF m (G sg' a') s = .inr x → ∃ P' : PH, Pe_block_62 (Pe_follow (6 - d)) (nI i) (nI d) (plV a') (sgV sg') f (nI c') P = some P' ∧ P'.1 74 0 = nI x.1 ∧ P'.1 74 1 = nI x.2 ∧ oCp P P') := by
    intro sg' a' hO m
    induction m with
    | zero =>
      intro c' f s P hs hC hA hc hf
      obtain ⟨f, rfl⟩ : ∃ f', f = f' + 1 := ⟨f - 1, by omega⟩
      refine ⟨fun s' h => ?_, fun x h => by cases h⟩
      cases h
      refine ⟨P, ?_, hC, oCp.rf P⟩
      rw [b62_eq, sc_first (by omega), Option.bind_some, hA 68 (by decide) (by decide), c03, if_pos (show nI c0 ≤ nI c' by rw [z_le (by omega) (by omega)]; omega)]
    | succ m ih =>
      intro c' f s P hs hC hA hc hf
      obtain ⟨f, rfl⟩ : ∃ f', f = f' + 1 := ⟨f - 1, by omega⟩
      obtain ⟨f0, hf0⟩ : ∃ f0, bigN = (f0 + 1) + (i' - (i + 1)) := ⟨bigN - (i' - (i + 1)) - 1, by unfold bigN; omega⟩
      have one := c sg' a' s P i' (f0 + 1) (i + 1) hO hs hC hA (Nat.le_refl _) hi' (Nat.le_refl _)
      rw [← hf0] at one
      have st : Pe_block_62 (Pe_follow (6 - d)) (nI i) (nI d) (plV a') (sgV sg') (f + 1) (nI c') P = (flw (d + 1) i' a' sg' bigN (i + 1) (i + 1) P).bind fun x => Pe_block_62 (Pe_follow (6 - d)) (nI i) (nI d) (plV a') (sgV sg') f (nI (c' + 1)) x := by
        rw [b62_eq, sc_first (by omega), Option.bind_some, hA 68 (by decide) (by decide), c03, if_neg (show ¬ nI c0 ≤ nI c' from nI_ge (by omega) (by omega)), if_pos hC.1, sc_second (by omega), Option.bind_some, hA 69 (by decide) (by decide), h69, pe_rec hd, nI_1]
      rw [st]
      cases e : G sg' a' s with
      | inl t =>
        have et : itF (m + 1) (G sg' a') s = itF m (G sg' a') t := by
          show oB (G sg' a' s) (itF m (G sg' a')) = _
          rw [e]
          rfl
        rw [et]
        obtain ⟨P1, v1, b1, b2, b3, b4⟩ := one.1 t e
        rw [b2, fl_end hi', Option.bind_some]
        obtain ⟨k1, k2⟩ := ih (c' + 1) f t P1 ((sv sg' a' s hs).1 t e) b3 (hA.kp b4) (by omega) (by omega)
        refine ⟨fun s' h => ?_, fun x h => ?_⟩
        · obtain ⟨P', d1, d2, d3⟩ := k1 s' h
          exact ⟨P', d1, d2, b4.tr d3⟩
        · obtain ⟨P', d1, d2, d3, d4⟩ := k2 x h
          exact ⟨P', d1, d2, d3, b4.tr d4⟩
      | inr y =>
        have et : itF (m + 1) (G sg' a') s = .inr y := by
          show oB (G sg' a' s) (itF m (G sg' a')) = _
          rw [e]
          rfl
        rw [et]
        obtain ⟨P1, b2, b3, b4, b5⟩ := one.2 y e (by omega)
        have y5 := (sv sg' a' s hs).2 y e
        refine ⟨fun s' h => (by cases h), fun x h => ?_⟩
        cases h
        obtain ⟨f, rfl⟩ : ∃ f', f = f' + 1 := ⟨f - 1, by omega⟩
        refine ⟨P1, ?_, b3, b4, b5⟩
        rw [b2, Option.bind_some, b62_eq, sc_first (by omega), Option.bind_some, if_neg (show ¬ P1.1 74 0 = 0 by rw [b3]; exact nI_ne0 (by omega) (by omega)), ite_self]
  -- the reference's rounds
  have rr : ∀ (sg' : Bool) (a' mz : Nat), orE a' (d + 1) → cb + 1 ≤ mz → mz ≤ 400 → ∀ (q : Nat) (s : ST) (Q : PH), q < 12 → SV s → MPn s Q → Q.1 94 = M → Q.1 1 19 = nI mz → Q.1 97 (d + 1) = nI ((a' + 6) % 8) → Q.1 98 (d + 1) = sgV sg' → Q.1 95 d = nI ci → Q.1 96 d = nI (q + 1) →
      (∀ s', itF (q + 1) (G sg' a') s = .inl s' → ∃ (N : Nat) (Q' : PH), N ≤ (q + 1) * ((cb - (ci + 1)) * 12 ^ (5 - (d + 1)) + 1) ∧ (∀ f, Mo_goesThrough_33 (f + N) (nI (d + 1)) (nI (ci + 1)) Q = Mo_goesThrough_33 f (nI d) (nI (cb + 1)) Q') ∧ MPn s' Q' ∧ oMr d Q Q') ∧
      (∀ x, itF (q + 1) (G sg' a') s = .inr x → ∃ (N : Nat) (Q' : PH), N ≤ (q + 1) * ((cb - (ci + 1)) * 12 ^ (5 - (d + 1)) + 1) ∧ (∀ f, Mo_goesThrough_33 (f + N) (nI (d + 1)) (nI (ci + 1)) Q = some Q') ∧ Q'.1 1 14 = nI x.1 ∧ Q'.1 1 15 = nI x.2 ∧ oMr d Q Q') := by
    intro sg' a' mz hO hcb hmz q
    obtain ⟨B, hB⟩ : ∃ B, B = (cb - (ci + 1)) * 12 ^ (5 - (d + 1)) := ⟨_, rfl⟩
    rw [← hB]
    induction q with
    | zero =>
      intro s Q hq hs hC hM hz h97 h98 h95 h96
      have one := m sg' a' s Q mz hO hs hC hM hz (by omega) hmz h97 h98
      rw [← hB] at one
      cases e : G sg' a' s with
      | inl t =>
        have et : itF (0 + 1) (G sg' a') s = .inl t := by
          show oB (G sg' a' s) (itF 0 (G sg' a')) = _
          rw [e]
          rfl
        rw [et]
        refine ⟨fun s' h => ?_, fun x h => by cases h⟩
        cases h
        obtain ⟨N1, Q1, b1, b2, b3, b4⟩ := one.1 t e
        have k96 : Q1.1 96 d = nI 1 := (b4.2.2.1 d (by omega)).2.trans h96
        refine ⟨N1 + 1, sI Q1 96 d (nI 0), by omega, fun f => ?_, b3.o (rowI_o _ _ _ (by decide)) (rowI_o _ _ _ (by decide)), ?_⟩
        · rw [show f + (N1 + 1) = (f + 1) + N1 by omega, b2]
          refine gt_at ((b4.2.1 19 (by omega)).trans hz) (by omega) hmz (by rw [b4.1 94 (by decide) (by decide) (by decide) (by decide) (by decide) (by decide), hM]; exact g2) rfl _ _ ?_
          rw [if_pos (by decide), if_neg (by decide), if_neg (by decide), if_neg (by decide), if_pos (by decide), show nI (d + 1) - (1 : Int32) = nI d from by rw [show (1 : Int32) = nI 1 from rfl, z_sub (by omega), show d + 1 - 1 = d by omega], z_gd (by omega) (by decide), z_gd (by omega) (by decide), z_cl (by omega), k96, show nI 1 - (1 : Int32) = nI 0 from by decide, Option.bind_some, z_gd (by omega) (by decide), rowI_s, pk_us, if_pos (by decide), show nI (d + 1) + (-1 : Int32) = nI d from (z_addm (by omega)).trans (by rw [show d + 1 - 1 = d by omega])]
        · have b5 := b4.dn
          exact ⟨fun n x1 x2 x3 x4 x5 x6 => by rw [rowI_o _ _ _ x4]; exact b5.1 n x1 x2 x3 x4 x5 x6, fun k a => by rw [rowI_o _ _ _ (by decide)]; exact b5.2.1 k a, fun k a => ⟨by rw [rowI_o _ _ _ (by decide)]; exact (b5.2.2.1 k a).1, by rw [rowI_s, pk_un (by omega)]; exact (b5.2.2.1 k a).2⟩, fun k a => by rw [rowI_o _ _ _ (by decide), rowI_o _ _ _ (by decide)]; exact b5.2.2.2.1 k a, b5.2.2.2.2⟩
      | inr y =>
        have et : itF (0 + 1) (G sg' a') s = .inr y := by
          show oB (G sg' a' s) (itF 0 (G sg' a')) = _
          rw [e]
          rfl
        rw [et]
        refine ⟨fun s' h => (by cases h), fun x h => ?_⟩
        cases h
        obtain ⟨N1, Q1, b1, b2, b3, b4, b5⟩ := one.2 y e
        exact ⟨N1, Q1, by omega, b2, b3, b4, b5.dn⟩
    | succ q ih =>
      intro s Q hq hs hC hM hz h97 h98 h95 h96
      have one := m sg' a' s Q mz hO hs hC hM hz (by omega) hmz h97 h98
      rw [← hB] at one
      have eB : (q + 1 + 1) * (B + 1) = (q + 1) * (B + 1) + (B + 1) := Nat.succ_mul _ _
      rw [eB]
      cases e : G sg' a' s with
      | inl t =>
        have et : itF (q + 1 + 1) (G sg' a') s = itF (q + 1) (G sg' a') t := by
          show oB (G sg' a' s) (itF (q + 1) (G sg' a')) = _
          rw [e]
          rfl
        rw [et]
        obtain ⟨N1, Q1, b1, b2, b3, b4⟩ := one.1 t e
        have k96 : Q1.1 96 d = nI (q + 1 + 1) := (b4.2.2.1 d (by omega)).2.trans h96
        have k95 : Q1.1 95 d = nI ci := (b4.2.2.1 d (by omega)).1.trans h95
        have o2 : oMr d Q (sI Q1 96 d (nI (q + 1))) := by
          have b5 := b4.dn
          exact ⟨fun n x1 x2 x3 x4 x5 x6 => by rw [rowI_o _ _ _ x4]; exact b5.1 n x1 x2 x3 x4 x5 x6, fun k a => by rw [rowI_o _ _ _ (by decide)]; exact b5.2.1 k a, fun k a => ⟨by rw [rowI_o _ _ _ (by decide)]; exact (b5.2.2.1 k a).1, by rw [rowI_s, pk_un (by omega)]; exact (b5.2.2.1 k a).2⟩, fun k a => by rw [rowI_o _ _ _ (by decide), rowI_o _ _ _ (by decide)]; exact b5.2.2.2.1 k a, b5.2.2.2.2⟩
        have st : ∀ f, Mo_goesThrough_33 (f + (N1 + 1)) (nI (d + 1)) (nI (ci + 1)) Q = Mo_goesThrough_33 f (nI (d + 1)) (nI (ci + 1)) (sI Q1 96 d (nI (q + 1))) := fun f => by
          rw [show f + (N1 + 1) = (f + 1) + N1 by omega, b2]
          refine gt_at ((b4.2.1 19 (by omega)).trans hz) (by omega) hmz (by rw [b4.1 94 (by decide) (by decide) (by decide) (by decide) (by decide) (by decide), hM]; exact g2) rfl _ _ ?_
          rw [if_pos (by decide), if_neg (by decide), if_neg (by decide), if_neg (by decide), if_pos (by decide), show nI (d + 1) - (1 : Int32) = nI d from by rw [show (1 : Int32) = nI 1 from rfl, z_sub (by omega), show d + 1 - 1 = d by omega], z_gd (by omega) (by decide), z_gd (by omega) (by decide), z_cl (by omega), k96, show nI (q + 1 + 1) - (1 : Int32) = nI (q + 1) from by rw [show (1 : Int32) = nI 1 from rfl, z_sub (by omega), show q + 1 + 1 - 1 = q + 1 by omega], Option.bind_some, z_gd (by omega) (by decide), rowI_s, pk_us, if_neg (show ¬ nI (q + 1) ≤ 0 from (show ¬ nI (q + 1) ≤ nI 0 by rw [z_le (by omega) (by omega)]; omega)), z_gd (by omega) (by decide), rowI_o _ _ _ (by decide), k95, Option.bind_some, nI_1]
        obtain ⟨k1, k2⟩ := ih t (sI Q1 96 d (nI (q + 1))) (by omega) ((sv sg' a' s hs).1 t e) (b3.o (rowI_o _ _ _ (by decide)) (rowI_o _ _ _ (by decide))) (by rw [rowI_o _ _ _ (by decide), b4.1 94 (by decide) (by decide) (by decide) (by decide) (by decide) (by decide)]; exact hM) (by rw [rowI_o _ _ _ (by decide), b4.2.1 19 (by omega)]; exact hz) (by rw [rowI_o _ _ _ (by decide), (b4.2.2.2.1 (d + 1) (Nat.le_refl _)).1]; exact h97) (by rw [rowI_o _ _ _ (by decide), (b4.2.2.2.1 (d + 1) (Nat.le_refl _)).2]; exact h98) (by rw [rowI_o _ _ _ (by decide)]; exact k95) (by rw [rowI_s, pk_us])
        refine ⟨fun s' h => ?_, fun x h => ?_⟩
        · obtain ⟨N2, Q', d1, d2, d3, d4⟩ := k1 s' h
          exact ⟨N2 + (N1 + 1), Q', by omega, fun f => by rw [show f + (N2 + (N1 + 1)) = (f + N2) + (N1 + 1) by omega, st, d2], d3, o2.tr d4⟩
        · obtain ⟨N2, Q', d1, d2, d3, d4, d5⟩ := k2 x h
          exact ⟨N2 + (N1 + 1), Q', by omega, fun f => by rw [show f + (N2 + (N1 + 1)) = (f + N2) + (N1 + 1) by omega, st, d2], d3, d4, o2.tr d5⟩
      | inr y =>
        have et : itF (q + 1 + 1) (G sg' a') s = .inr y := by
          show oB (G sg' a' s) (itF (q + 1) (G sg' a')) = _
          rw [e]
          rfl
        rw [et]
        refine ⟨fun s' h => (by cases h), fun x h => ?_⟩
        cases h
        obtain ⟨N1, Q1, b1, b2, b3, b4, b5⟩ := one.2 y e
        exact ⟨N1, Q1, by omega, b2, b3, b4, b5.dn⟩
  refine ⟨fun sg a s => itF r (G (trS sg w) (trA sg w a)) s, fun sg a s P e f v6 ho hs hC hA hj he h6 => ?_, fun sg a s Q mz ho hs hC hM hz hcj hmz h97 h98 => ?_, fun sg a s hs => ?_, fun hn => ?_, by omega, by omega⟩
  · have st : flw d e a sg (f + (i' - i)) v6 i P = (Pe_block_62 (Pe_follow (6 - d)) (nI i) (nI d) (plV (trA sg w a)) (sgV (trS sg w)) bigN (nI 0) P).bind fun x => flw d e a sg (f + (i' - (i + 1))) i' (i + 1) x := by
      rw [show f + (i' - i) = (f + (i' - (i + 1))) + 1 by omega]
      unfold flw
      rw [fl_eq, if_neg (show ¬ nI e ≤ nI i from nI_ge (by omega) (by omega)), if_pos hC.1, if_pos (show nI v6 ≤ nI i by rw [z_le (by omega) (by omega)]; exact h6), sc_word (by omega), Option.bind_some, hA 67 (by decide) (by decide), h67, if_neg (show ¬ nI w < (11 : Int32) from (show ¬ nI w < nI 11 by rw [z_lt (by omega) (by omega)]; omega)), sc_second (by omega), Option.bind_some, hA 69 (by decide) (by decide), h69, pe_block (by omega) hd ho hw hw2 (by rw [hA 67 (by decide) (by decide)]; exact h67), nI_1]
    obtain ⟨k1, k2⟩ := rounds (trS sg w) (trA sg w a) (tr_or ho hd) c0 0 bigN s P hs hC hA (by omega) (big_gt (by omega))
    rw [st]
    refine ⟨fun s' h => ?_, fun x h hf => ?_⟩
    · obtain ⟨P', b1, b2, b3⟩ := k1 s' ((c04 _ _ _).trans h)
      refine ⟨P', i', Nat.le_refl _, ?_, b2, b3⟩
      rw [b1, Option.bind_some, fl_skip he hj b2.1 (i' - (i + 1)) (i + 1) f (by omega)]
    · obtain ⟨P', b1, b2, b3, b4⟩ := k2 x ((c04 _ _ _).trans h)
      obtain ⟨f', hf'⟩ : ∃ f', f + (i' - (i + 1)) = f' + 1 := ⟨f + (i' - (i + 1)) - 1, by omega⟩
      have x5 := (sv_it (fun s hs => sv (trS sg w) (trA sg w a) s hs) r s hs).2 x h
      refine ⟨P', ?_, b2, b3, b4⟩
      rw [b1, Option.bind_some, hf', fl_stop (by rw [b2]; exact nI_ne0 (by omega) (by omega))]
  · have h21 := ho.lt (show d ≤ 5 by omega)
    have h2a : 2 ≤ a := by unfold orE at ho; omega
    obtain ⟨Q1, hQ1⟩ : ∃ Q1, Q1 = sI (sI (sI (sI Q 95 d (nI ci)) 96 d (nI r)) 97 (d + 1) (nI ((trA sg w a + 6) % 8))) 98 (d + 1) (sgV (trS sg w)) := ⟨_, rfl⟩
    have st : ∀ f, Mo_goesThrough_33 (f + 1) (nI d) (nI ci) Q = Mo_goesThrough_33 f (nI (d + 1)) (nI (ci + 1)) Q1 := fun f => by
      refine gt_at (vv := nI r) hz (by omega) hmz (by rw [hM]; exact g0) (by rw [hM]; exact g1) _ _ ?_
      have ed : (nI d + 1) - (1 : Int32) = nI d := by rw [nI_1, show (1 : Int32) = nI 1 from rfl, z_sub (by omega), show d + 1 - 1 = d by omega]
      have w8 : (8 : Int32) ≤ nI w := (show nI 8 ≤ nI w by rw [z_le (by omega) (by omega)]; omega)
      have wn : ∀ k : Nat, k < 11 ∨ k = 14 → ¬ nI w = nI k := fun k hk => by rw [z_eq (by omega) (by omega)]; omega
      rw [if_pos w8, if_neg (show ¬ nI w = (8 : Int32) from wn 8 (by omega)), if_neg (show ¬ nI w = (10 : Int32) from wn 10 (by omega)), if_neg (show ¬ nI w = (9 : Int32) from wn 9 (by omega)), if_neg (show ¬ nI w = (14 : Int32) from wn 14 (by omega)), z_gd (by omega) (by decide), z_cl (by omega), Option.bind_some, z_gd (by omega) (by decide), Option.bind_some, ed, z_gd (by omega) (by decide), z_gd (by omega) (by decide), z_cl (by omega), rowI_o _ _ _ (by decide), rowI_o _ _ _ (by decide), h98, rowI_o _ _ _ (by decide), rowI_o _ _ _ (by decide), h97]
      unfold Mo_goesThrough_296
      rw [ed, nI_1, nI_1, z_gd (by omega) (by decide)]
      rcases (show w = 11 ∨ w = 12 ∨ w = 13 by omega) with rfl | rfl | rfl
      · rw [show trA sg 11 a = a from rfl, show trS sg 11 = sg from rfl] at hQ1
        rw [if_neg (by decide), pl_id a h21, z_cl (by omega), Option.bind_some, if_neg (by decide), z_gd (by omega) (by decide), z_gd (by omega) (by decide), z_gd (by omega) (by decide), z_cl (by omega), rowI_o _ _ _ (by decide), rowI_o _ _ _ (by decide), rowI_o _ _ _ (by decide), h98, Option.bind_some, ← hQ1]
      · rw [show trS sg 12 = sg from rfl] at hQ1
        rw [if_pos (by decide), pl_trm a h21 sg h2a, z_cl (by omega), Option.bind_some, if_neg (by decide), z_gd (by omega) (by decide), z_gd (by omega) (by decide), z_cl (by omega), rowI_o _ _ _ (by decide), rowI_o _ _ _ (by decide), rowI_o _ _ _ (by decide), h98, Option.bind_some, ← hQ1]
      · rw [show trA sg 13 a = a from rfl, show trS sg 13 = !sg from rfl] at hQ1
        rw [if_neg (by decide), pl_id a h21, z_cl (by omega), Option.bind_some, if_pos (by decide), z_gd (by omega) (by decide), z_gd (by omega) (by decide), z_gd (by omega) (by decide), z_cl (by omega), rowI_o _ _ _ (by decide), rowI_o _ _ _ (by decide), rowI_o _ _ _ (by decide), h98, sg_neg, Option.bind_some, ← hQ1]
    have r1 : Q1.1 1 = Q.1 1 := by rw [hQ1, rowI_o _ _ _ (by decide), rowI_o _ _ _ (by decide), rowI_o _ _ _ (by decide), rowI_o _ _ _ (by decide)]
    have r89 : Q1.1 89 = Q.1 89 := by rw [hQ1, rowI_o _ _ _ (by decide), rowI_o _ _ _ (by decide), rowI_o _ _ _ (by decide), rowI_o _ _ _ (by decide)]
    have r94 : Q1.1 94 = Q.1 94 := by rw [hQ1, rowI_o _ _ _ (by decide), rowI_o _ _ _ (by decide), rowI_o _ _ _ (by decide), rowI_o _ _ _ (by decide)]
    have oQ1 : oMr d Q Q1 := by
      refine ⟨fun n x1 x2 x3 x4 x5 x6 => ?_, fun k _ => by rw [r1], fun k hk => ⟨?_, ?_⟩, fun k hk => ⟨?_, ?_⟩, by rw [hQ1]; rfl⟩
      · rw [hQ1, rowI_o _ _ _ x6, rowI_o _ _ _ x5, rowI_o _ _ _ x4, rowI_o _ _ _ x3]
      · rw [hQ1, rowI_o _ _ _ (by decide), rowI_o _ _ _ (by decide), rowI_o _ _ _ (by decide), rowI_s, pk_un (by omega)]
      · rw [hQ1, rowI_o _ _ _ (by decide), rowI_o _ _ _ (by decide), rowI_s, pk_un (by omega), rowI_o _ _ _ (by decide)]
      · rw [hQ1, rowI_o _ _ _ (by decide), rowI_s, pk_un (by omega), rowI_o _ _ _ (by decide), rowI_o _ _ _ (by decide)]
      · rw [hQ1, rowI_s, pk_un (by omega), rowI_o _ _ _ (by decide), rowI_o _ _ _ (by decide), rowI_o _ _ _ (by decide)]
    obtain ⟨q, hq⟩ : ∃ q, r = q + 1 := ⟨r - 1, by omega⟩
    obtain ⟨k1, k2⟩ := rr (trS sg w) (trA sg w a) mz (tr_or ho hd) hcj hmz q s Q1 (by omega) hs (hC.o r1 r89) (r94.trans hM) (by rw [r1]; exact hz) (by rw [hQ1, rowI_o _ _ _ (by decide), rowI_s, pk_us]) (by rw [hQ1, rowI_s, pk_us]) (by rw [hQ1, rowI_o _ _ _ (by decide), rowI_o _ _ _ (by decide), rowI_o _ _ _ (by decide), rowI_s, pk_us]) (by rw [hQ1, rowI_o _ _ _ (by decide), rowI_o _ _ _ (by decide), rowI_s, pk_us, hq])
    rw [← hq] at k1 k2
    refine ⟨fun s' h => ?_, fun x h => ?_⟩
    · obtain ⟨N, Q', d1, d2, d3, d4⟩ := k1 s' h
      exact ⟨N + 1, Q', blk_bnd (q := q) hd l2 (by omega) (by rw [← hq]; exact d1), fun f => by rw [show f + (N + 1) = (f + N) + 1 by omega, st, d2], d3, oQ1.tr d4⟩
    · obtain ⟨N, Q', d1, d2, d3, d4, d5⟩ := k2 x h
      exact ⟨N + 1, Q', blk_bnd (q := q) hd l2 (by omega) (by rw [← hq]; exact d1), fun f => by rw [show f + (N + 1) = (f + N) + 1 by omega, st, d2], d3, d4, oQ1.tr d5⟩
  · exact sv_it (fun s hs => sv (trS sg w) (trA sg w a) s hs) r s hs
  · obtain ⟨p, k, K, e⟩ := no (fun k a b => hn k (by omega) b)
    obtain ⟨r', hr'⟩ : ∃ r', r = r' + 1 := ⟨r - 1, by omega⟩
    refine ⟨p, k, K, fun sg a s => ?_⟩
    show itF r (G (trS sg w) (trA sg w a)) s = _
    rw [hr']
    exact itF_i (fun s => e (trS sg w) (trA sg w a) s) (updS_i p k K) r' s
/-- whatever was read -/
theorem run_sg : ∀ (g d i j ci cj : Nat), SG A M g d i j ci cj → j ≤ 200 → d ≤ 5 → RUNp A M d i j ci cj := by
  intro g
  induction g with
  | zero =>
    intro d i j ci cj h hj hd
    obtain ⟨rfl, rfl⟩ := h
    exact run_rf d i ci
  | succ g ih =>
    intro d i j ci cj h hj hd
    rcases h with ⟨rfl, rfl⟩ | ⟨i', ci', h1, h2⟩
    · exact run_rf d i ci
    · have le := SG_le _ _ _ _ _ _ h2
      refine run_tr ?_ (ih d i' j ci' cj h2 hj hd)
      rcases h1 with h1 | h1
      · obtain ⟨rfl, rfl, w, o, t, a1, a2, a3, a4, a5, a6, a7, a8, a9⟩ := h1
        by_cases c : w < 8
        · obtain ⟨c1, c2, b, c3, c4⟩ := a7 c
          rw [if_neg (by omega)] at a6
          exact run_go hd (by omega) c c2 a2 a3 c3 a5 a6 c4
        · exact run_set (by omega) (by omega) a1 a8 a9 a2 a3 a4 a5 a6
      · obtain ⟨w, r, cb, a1, a2, a3, a4, a5, rfl, a7, a8, a9, b1, b2, b3, b4⟩ := h1
        have l4 := SG_le _ _ _ _ _ _ b4
        exact run_blo a5 (by omega) (by omega) a1 a2 a3 a4 a7 a8 a9 b1 b2 b3 (SG_w _ _ _ _ _ _ b4) (ih (d + 1) (i + 1) i' (ci + 1) cb b4 (by omega) (by omega))
end BLK
