/-! DRAWING: the call -/
section DCL
variable {P Q : PH} {T : Nat → Nat} {n : Nat}
theorem d81_eq (G : Nat) (P : PH) : Mo_drawing_81 (G + 1) P = if (P.1 1 14) = 0 then (if (P.1 1 11) = 0 then Mo_drawing_102 P else (Mo_readStatement 8 P).bind fun (x96 : PH) => Mo_drawing_81 G x96) else Mo_drawing_102 P := rfl
theorem d57_eq (G : Nat) (v : Int32) (P : PH) : Mo_drawing_57 (G + 1) v P = if (512 : Int32) ≤ v then Mo_drawing_77 P else gdI v 512 ((some (sI P 89 v.toNatClampNeg (0 : Int32))).bind fun (P70 : PH) => Mo_drawing_57 G (v + 1) P70) := rfl
theorem parse_top (hc : CSx T n 0 0 0 P) (hm : MSx T n 0 0 0 Q) : ∃ P1 Q1, Re_read_47 bigN (nI 0) P = some P1 ∧ Mo_drawing_81 bigN Q = Mo_drawing_102 Q1 ∧ oCf P P1 ∧ oPs Q Q1 ∧
    ((P1.1 71 1 = 0 ∧ P1.1 71 2 = m1 ∧ Q1.1 1 14 = 0 ∧ ∃ g sz mz, SG P1.1 (Q1.1 94) g 0 0 sz 0 mz ∧ P1.1 66 0 = nI sz ∧ sz ≤ 200 ∧ Q1.1 1 19 = nI mz ∧ mz ≤ 400) ∨
     ∃ f b : Nat, 1 ≤ f ∧ f ≤ 4 ∧ P1.1 71 1 = nI f ∧ P1.1 71 2 = nI b ∧ Q1.1 1 14 = nI f ∧ Q1.1 1 15 = nI b) := by
  have nn := hc.1.1
  rcases lp_run (Lp := Mo_drawing_81) (En := Mo_drawing_102) (d := 0) (g := 8) (T := T) (n := n) (fun G Q h => by rw [d81_eq, if_neg h]) (fun G p Q h1 h2 h3 h4 h5 => by
    have h5 : tK T n p = 0 := h5
    rw [d81_eq, if_pos h4, if_pos (by rw [h3.2.2.1, h5]; rfl)]) (fun G p Q h1 h2 h3 h4 h5 => by
    have h5 : ¬ tK T n p = 0 := h5
    have kl := tK_le T n p
    rw [d81_eq, if_pos h4, if_neg (by rw [h3.2.2.1]; exact nI_ne0 (by omega) (by omega))]) (n - 0) 0 (Nat.le_refl _) (Nat.zero_le _) (fun p' _ h => stm 8 0 p' (by decide) (by decide) h) 0 0 P Q bigN 0 bigN hc hm (Nat.le_refl _) (by unfold bigN; omega) (big_gt (by omega)) with ⟨p', sz', mz', k', F', g', P', Q', o1, o2, ⟨u1, u2, u3, u4, u5, u6, u7, u8⟩, ⟨y1, y2, y3, y4, y5, y6⟩, o5, o6, o7, o8, o9, o10, o11⟩ | ⟨f, b, P', Q', f1, f2, f3, f4, f5, f6, f7, f8, f9, f10⟩
  · have o2 : tK T n p' = 0 := o2
    obtain ⟨F2, rfl⟩ : ∃ F2, F' = F2 + 1 := ⟨F' - 1, by omega⟩
    obtain ⟨x, e1, e2, e3, e4, e5, e6, e7, e8, -, e9⟩ := rd_0 (F := F2) u1 u2 u3 u5 (show k' ≤ n by omega)
    have e5 := e5 (by omega)
    have e9 := e9 o2 u6
    refine ⟨x, Q', o5.trans e9, o8, o10.2.2.tr e7.cf, o11.2, Or.inl ⟨e5.1, e5.2.trans u4, y2, g', sz', mz', ?_, ?_, by omega, y5, by omega⟩⟩
    · exact SG_cong _ _ _ _ _ _ (fun r k a b _ _ => by rw [e7.1 r (by omega)]) (fun _ _ _ => rfl) o9
    · rw [e7.1 66 (by decide)]; exact u7
  · exact ⟨P', Q', f3, f4, f9, f10, Or.inr ⟨f, b, f1, f2, f5, f6, f7, f8⟩⟩
/-- the class begins to read -/
theorem cls_start (hn : n ≤ 700) (hT : ∀ k, k < n → T k < 256 ∧ P.1 72 k &&& 255 = nI (T k)) : ∃ P0, Re_read (nI n) P = Re_read_47 bigN (nI 0) P0 ∧ CSx T n 0 0 0 P0 ∧ P0.1 71 0 = 0 ∧ (∀ m, m ≠ 66 → m ≠ 71 → P0.1 m = P.1 m) ∧ P0.2 = P.2 := by
  obtain ⟨P0, h0⟩ : ∃ P0, P0 = sI (sI (sI (sI (sI (sI (sI P 71 0 (0 : Int32)) 71 5 (nI n)) 71 6 (0 : Int32)) 71 10 (0 : Int32)) 71 1 (0 : Int32)) 71 2 (-1 : Int32)) 66 0 (0 : Int32) := ⟨_, rfl⟩
  have jm : jMin (nI n) (700 : Int32) = nI n := by
    unfold jMin
    rw [if_neg (show ¬ (700 : Int32) < nI n from (show ¬ nI 700 < nI n by rw [z_lt (by omega) (by omega)]; omega))]
  have r : ∀ m, m ≠ 66 → m ≠ 71 → P0.1 m = P.1 m := fun m a b => by rw [h0, rowI_o _ _ _ a, rowI_o _ _ _ b, rowI_o _ _ _ b, rowI_o _ _ _ b, rowI_o _ _ _ b, rowI_o _ _ _ b, rowI_o _ _ _ b]
  refine ⟨P0, ?_, ⟨⟨hn, fun k hk => by rw [r 72 (by decide) (by decide)]; exact hT k hk, ?_⟩, Nat.zero_le _, ?_, ?_, ?_, ?_, ?_, Nat.le_refl _⟩, ?_, r, by rw [h0]; rfl⟩
  · unfold Re_read Sc_clear
    rw [Option.bind_some, jm, Option.bind_some, Option.bind_some, Option.bind_some, Option.bind_some, Option.bind_some, Option.bind_some, Option.bind_some, ← h0]
    rfl
  · rw [h0, rowI_o _ _ _ (by decide), rowI_s, pk_un (by decide), rowI_s, pk_un (by decide), rowI_s, pk_un (by decide), rowI_s, pk_un (by decide), rowI_s, pk_us]
  · rw [h0, rowI_o _ _ _ (by decide), rowI_s, pk_un (by decide), rowI_s, pk_us]
  · rw [h0, rowI_o _ _ _ (by decide), rowI_s, pk_us]; rfl
  · rw [h0, rowI_o _ _ _ (by decide), rowI_s, pk_un (by decide), rowI_s, pk_un (by decide), rowI_s, pk_un (by decide), rowI_s, pk_us]; rfl
  · rw [h0, rowI_o _ _ _ (by decide), rowI_s, pk_un (by decide), rowI_s, pk_un (by decide), rowI_s, pk_us]; rfl
  · rw [h0, rowI_s, pk_us]; rfl
  · rw [h0, rowI_o _ _ _ (by decide), rowI_s, pk_un (by decide), rowI_s, pk_un (by decide), rowI_s, pk_un (by decide), rowI_s, pk_un (by decide), rowI_s, pk_un (by decide), rowI_s, pk_us]
/-- the fresh row emptied -/
theorem mo_57 : ∀ (m k f : Nat) (Q : PH), k + m = 512 → m < f → (∀ j, j < k → Q.1 89 j = 0) → ∃ Q', Mo_drawing_57 f (nI k) Q = Mo_drawing_77 Q' ∧ (∀ j, j < 512 → Q'.1 89 j = 0) ∧ (∀ c, c ≠ 89 → Q'.1 c = Q.1 c) ∧ Q'.2 = Q.2 := by
  intro m
  induction m with
  | zero =>
    intro k f Q hk hf h
    obtain ⟨f, rfl⟩ : ∃ q, f = q + 1 := ⟨f - 1, by omega⟩
    obtain rfl : k = 512 := by omega
    refine ⟨Q, ?_, h, fun _ _ => rfl, rfl⟩
    rw [d57_eq, if_pos (by decide)]
  | succ m ih =>
    intro k f Q hk hf h
    obtain ⟨f, rfl⟩ : ∃ q, f = q + 1 := ⟨f - 1, by omega⟩
    obtain ⟨Q', e1, e2, e3, e4⟩ := ih (k + 1) f (sI Q 89 k (0 : Int32)) (by omega) (by omega) (fun j hj => by
      rw [rowI_s]
      by_cases q : j = k
      · rw [q, pk_us]
      · rw [pk_un q]; exact h j (by omega))
    refine ⟨Q', ?_, e2, fun c hc => by rw [e3 c hc, rowI_o _ _ _ hc], e4⟩
    rw [d57_eq, if_neg (show ¬ (512 : Int32) ≤ nI k from (show ¬ nI 512 ≤ nI k from nI_ge (by omega) (by decide))), z_gd (by omega) (by decide), z_cl (by omega), Option.bind_some, nI_1, e1]
theorem ref_start {f : Nat} (hn : n ≤ f) (hf : f ≤ 700) (hT : ∀ k, k < n → T k < 256 ∧ Q.1 93 k = nI (T k)) (h7 : Q.1 1 7 = nI f) : ∃ Q0, Mo_drawing (nI n) Q = Mo_drawing_81 bigN Q0 ∧ MSx T n 0 0 0 Q0 ∧ (∀ k, k < 512 → Q0.1 89 k = 0) ∧ Q0.1 1 5 = 0 ∧ Q0.1 1 7 = 0 ∧ (∀ m, m ≠ 1 → m ≠ 89 → Q0.1 m = Q.1 m) ∧ Q0.2 = Q.2 := by
  obtain ⟨A, h0⟩ : ∃ A, A = sI (sI (sI (sI (sI (sI (sI Q 1 5 (0 : Int32)) 1 8 (nI n)) 1 7 (0 : Int32)) 1 9 (0 : Int32)) 1 14 (0 : Int32)) 1 13 (0 : Int32)) 1 19 (0 : Int32) := ⟨_, rfl⟩
  obtain ⟨B, b1, b2, b3, b4⟩ := mo_57 512 0 bigN A rfl (big_gt (by decide)) (fun j hj => absurd hj (Nat.not_lt_zero j))
  have rA : ∀ m, m ≠ 1 → A.1 m = Q.1 m := fun m a => by rw [h0, rowI_o _ _ _ a, rowI_o _ _ _ a, rowI_o _ _ _ a, rowI_o _ _ _ a, rowI_o _ _ _ a, rowI_o _ _ _ a, rowI_o _ _ _ a]
  have B1 : B.1 1 = A.1 1 := b3 1 (by decide)
  have hTB : TXm T n B := by
    refine ⟨by omega, fun k hk => ?_, ?_⟩
    · rw [b3 93 (by decide), rA 93 (by decide)]; exact hT k hk
    · rw [B1, h0, rowI_s, pk_un (by decide), rowI_s, pk_un (by decide), rowI_s, pk_un (by decide), rowI_s, pk_un (by decide), rowI_s, pk_un (by decide), rowI_s, pk_us]
  obtain ⟨C, c1, c2, c3⟩ := mo_reads (p := 0) hTB (Nat.zero_le _) (by rw [B1, h0, rowI_s, pk_un (by decide), rowI_s, pk_un (by decide), rowI_s, pk_un (by decide), rowI_s, pk_us]; rfl)
  have kC : ∀ k, k ≠ 9 → k ≠ 10 → k ≠ 11 → k ≠ 12 → C.1 1 k = A.1 1 k := fun k a b c d => by rw [c3.2.1 k a b c d, B1]
  refine ⟨C, ?_, ⟨hTB.keep c3, ?_, c2, ?_, ?_, Nat.le_refl _⟩, fun k hk => by rw [c3.1 89 (by decide)]; exact b2 k hk, ?_, ?_, fun m a b => by rw [c3.1 m a, b3 m b, rA m a], by rw [c3.2.2, b4, h0]; rfl⟩
  · unfold Mo_drawing
    rw [Option.bind_some, win0 (nI n) f _ (by rw [rowI_s, pk_un (by decide), h7]), if_pos (show (0 : Int32) ≤ nI n ∧ nI n ≤ nI f from ⟨(show nI 0 ≤ nI n by rw [z_le (by omega) (by omega)]; omega), by rw [z_le (by omega) (by omega)]; exact hn⟩), Option.bind_some, if_neg (by decide), Option.bind_some, Option.bind_some, Option.bind_some, Option.bind_some, Option.bind_some, Option.bind_some, ← h0]
    show Mo_drawing_57 bigN (nI 0) A = _
    rw [b1]
    unfold Mo_drawing_77
    rw [c1, Option.bind_some]
  · rw [kC 14 (by decide) (by decide) (by decide) (by decide), h0, rowI_s, pk_un (by decide), rowI_s, pk_un (by decide), rowI_s, pk_us]
  · rw [kC 13 (by decide) (by decide) (by decide) (by decide), h0, rowI_s, pk_un (by decide), rowI_s, pk_us]; rfl
  · rw [kC 19 (by decide) (by decide) (by decide) (by decide), h0, rowI_s, pk_us]; rfl
  · rw [kC 5 (by decide) (by decide) (by decide) (by decide), h0, rowI_s, pk_un (by decide), rowI_s, pk_un (by decide), rowI_s, pk_un (by decide), rowI_s, pk_un (by decide), rowI_s, pk_un (by decide), rowI_s, pk_un (by decide), rowI_s, pk_us]
  · rw [kC 7 (by decide) (by decide) (by decide) (by decide), h0, rowI_s, pk_un (by decide), rowI_s, pk_un (by decide), rowI_s, pk_un (by decide), rowI_s, pk_un (by decide), rowI_s, pk_us]
/-- what the class's call may change, what the reference's -/
def oWc (P Q : PH) : Prop := (∀ m, m = 1 ∨ m = 2 ∨ (18 < m ∧ m < 66 ∧ m ≠ 43) ∨ m = 72 ∨ 74 < m → Q.1 m = P.1 m) ∧ ∀ m, m < 3 ∨ (18 < m ∧ m ≠ 43) → Q.2 m = P.2 m
def oWm (P Q : PH) : Prop := (∀ m, m ≠ 1 → m ≠ 88 → m ≠ 89 → m < 94 ∨ 98 < m → Q.1 m = P.1 m) ∧ Q.2 = P.2
theorem oMx.wm (h : oMx P Q) : oWm P Q := ⟨fun m a _ c d => h.1 m a c (by omega) (by omega) (by omega) (by omega), h.2.2⟩
theorem oPs.wm (h : oPs P Q) : oWm P Q := ⟨fun m a _ _ d => h.1 m a (by omega), h.2.2⟩
theorem oWm.tr {R : PH} (h : oWm P Q) (h2 : oWm Q R) : oWm P R := ⟨fun m a b c d => (h2.1 m a b c d).trans (h.1 m a b c d), h2.2.trans h.2⟩
theorem oWc.tr {R : PH} (h : oWc P Q) (h2 : oWc Q R) : oWc P R := ⟨fun m a => (h2.1 m a).trans (h.1 m a), fun m a => (h2.2 m a).trans (h.2 m a)⟩
theorem oCf.wc (h : oCf P Q) : oWc P Q := ⟨fun m a => h.1 m (by omega), fun m _ => by rw [h.2.2]⟩
theorem oCp.wc (h : oCp P Q) : oWc P Q := ⟨fun m a => h.1 m (by omega) (by omega), fun m a => h.2 m (by omega)⟩
theorem ref_bad {f b : Nat} (hf : 1 ≤ f) (hf2 : f ≤ 9) (h14 : Q.1 1 14 = nI f) (h15 : Q.1 1 15 = nI b) : Mo_drawing_113 Q = some ((-10 : Int32) - nI f, sI (sI Q 1 16 (nI f)) 1 17 (nI b)) := by
  unfold Mo_drawing_113 Mo_drawing_137
  have nz : ¬ nI f = (0 : Int32) := nI_ne0 (by omega) (by omega)
  have e14 : (sI Q 1 16 (nI f)).1 1 14 = nI f := by rw [rowI_s, pk_un (by decide)]; exact h14
  have e15 : (sI Q 1 16 (nI f)).1 1 15 = nI b := by rw [rowI_s, pk_un (by decide)]; exact h15
  have e14' : (sI (sI Q 1 16 (nI f)) 1 17 (nI b)).1 1 14 = nI f := by rw [rowI_s, pk_un (by decide)]; exact e14
  rw [h14, Option.bind_some, e14, if_neg nz, e15, Option.bind_some, e14', if_neg nz]
theorem ref_good {D : DT} (hD : WD D) (h14 : Q.1 1 14 = 0) (hR : RD D (Q.1 89)) (hN : RN D N00 (Q.1 89)) : ∃ Q', Mo_drawing_113 Q = some (nI (dN D), Q') ∧ RD D (Q'.1 88) ∧ RN D N00 (Q'.1 88) ∧ Q'.1 1 16 = 0 ∧ Q'.1 1 17 = m1 ∧ (∀ k, k ≠ 16 → k ≠ 17 → Q'.1 1 k = Q.1 1 k) ∧ oWm Q Q' := by
  obtain ⟨A, hA⟩ : ∃ A, A = sI (sI Q 1 16 (0 : Int32)) 1 17 (-1 : Int32) := ⟨_, rfl⟩
  obtain ⟨Q', c1, c2, c3, c4⟩ := mo_copies (a := 89) (b := 88) (by decide) 512 0 bigN A rfl (big_gt (by decide)) (fun j hj => absurd hj (Nat.not_lt_zero j))
  have a89 : A.1 89 = Q.1 89 := by rw [hA, rowI_o _ _ _ (by decide), rowI_o _ _ _ (by decide)]
  have e14 : (sI Q 1 16 (0 : Int32)).1 1 14 = 0 := by rw [rowI_s, pk_un (by decide)]; exact h14
  have e14' : A.1 1 14 = 0 := by rw [hA, rowI_s, pk_un (by decide)]; exact e14
  have eq88 : ∀ k, k < 512 → Q'.1 88 k = Q.1 89 k := fun k hk => by rw [c4 k hk, a89]
  have hR' := hR.cp hD eq88
  refine ⟨Q', ?_, hR', hN.cp hD (fun q => by cases q) eq88, ?_, ?_, fun k a b => ?_, ⟨fun m a b c d => ?_, ?_⟩⟩
  · unfold Mo_drawing_113 Mo_drawing_137 Mo_copies
    rw [h14, Option.bind_some, e14, if_pos rfl, Option.bind_some, ← hA, e14', if_pos rfl, show (0 : Int32) = nI 0 from rfl, c1, Option.bind_some, show (gdI (nI 0) 512 : Option (Int32 × PH) → Option (Int32 × PH)) = fun o => o from gdf 0 512 (by decide) (by decide)]
    show some (Q'.1 88 0, Q') = _
    rw [hR'.1]
  · rw [c3 1 (by decide), hA, rowI_s, pk_un (by decide), rowI_s, pk_us]
  · rw [c3 1 (by decide), hA, rowI_s, pk_us]; rfl
  · rw [c3 1 (by decide), hA, rowI_s, pk_un b, rowI_s, pk_un a]
  · rw [c3 m b, hA, rowI_o _ _ _ a, rowI_o _ _ _ a]
  · rw [c2, hA]; rfl
theorem drw_both {f : Nat} (hn : n ≤ f) (hf : f ≤ 700) (p71 : P.1 71 0 = nI f) (q7 : Q.1 1 7 = nI f) (hb : ∀ k, k < f → ∃ b : Nat, b < 256 ∧ P.1 93 k = nI b ∧ P.1 72 k &&& 255 = nI b) (h93 : Q.1 93 = P.1 93) : ∃ (a : Int32) (P1 Q1 : PH), Bs_drawing (nI n) P = some (Sum.inr a, P1) ∧ Mo_drawing (nI n) Q = some (a, Q1) ∧ P1.1 71 0 = 0 ∧ Q1.1 1 7 = 0 ∧ Q1.1 1 5 = 0 ∧ P1.1 0 0 = Q1.1 1 16 ∧ P1.1 0 1 = Q1.1 1 17 ∧ oWc P P1 ∧ oWm Q Q1 ∧
    ((∃ D', WD D' ∧ CD 3 D' P1 ∧ P1.2 43 0 = 0 ∧ P1.2 43 1 = 0 ∧ P1.1 43 2 = 0 ∧ P1.1 43 7 = 0 ∧ P1.1 43 8 = P.1 43 8 ∧ RD D' (Q1.1 88) ∧ RN D' N00 (Q1.1 88)) ∨
     ((∀ m, (3 ≤ m ∧ m ≤ 10) ∨ m = 43 → P1.1 m = P.1 m ∧ P1.2 m = P.2 m) ∧ Q1.1 88 = Q.1 88)) := by
  obtain ⟨T, hTe⟩ : ∃ T : Nat → Nat, T = fun k => (P.1 93 k).toNatClampNeg := ⟨_, rfl⟩
  have hT : ∀ k, k < n → T k < 256 ∧ P.1 93 k = nI (T k) ∧ P.1 72 k &&& 255 = nI (T k) := fun k hk => by
    obtain ⟨b, b1, b2, b3⟩ := hb k (by omega)
    have e : T k = b := by rw [hTe]; show (P.1 93 k).toNatClampNeg = b; rw [b2, z_cl (by omega)]
    rw [e]
    exact ⟨b1, b2, b3⟩
  obtain ⟨P0, s1, s2, s3, s4, s5⟩ := cls_start (P := P) (show n ≤ 700 by omega) (fun k hk => ⟨(hT k hk).1, (hT k hk).2.2⟩)
  obtain ⟨Q0, t1, t2, t3, t4, t5, t6, t7⟩ := ref_start (Q := Q) hn hf (fun k hk => ⟨(hT k hk).1, by rw [h93]; exact (hT k hk).2.1⟩) q7
  obtain ⟨P2, Q2, u1, u2, u3, u4, u5⟩ := parse_top s2 t2
  have oc0 : oWc P P0 := ⟨fun m a => s4 m (by omega) (by omega), fun m _ => by rw [s5]⟩
  have om0 : oWm Q Q0 := ⟨fun m a _ c _ => t6 m a c, t7⟩
  have read : Re_read (nI n) P = some P2 := s1.trans u1
  have ge0 : ¬ nI n < 0 := nI_pos (by omega)
  have lef : nI n ≤ P.1 71 0 := by rw [p71, z_le (by omega) (by omega)]; exact hn
  have z71 : P2.1 71 0 = 0 := (u3.2.1 0 (by omega)).trans s3
  have z5 : Q2.1 1 5 = 0 := (u4.2.1 5 (by omega)).trans t4
  have z7 : Q2.1 1 7 = 0 := (u4.2.1 7 (by omega)).trans t5
  have oc2 : oWc P P2 := oc0.tr u3.wc
  have om2 : oWm Q Q2 := om0.tr u4.wm
  have q88 : Q2.1 88 = Q.1 88 := (u4.1 88 (by decide) (by decide)).trans (t6 88 (by decide) (by decide))
  have pOld : ∀ m, (3 ≤ m ∧ m ≤ 10) ∨ m = 43 → P2.1 m = P.1 m ∧ P2.2 m = P.2 m := fun m hm => ⟨(u3.1 m (by omega)).trans (s4 m (by omega) (by omega)), by rw [u3.2.2, s5]⟩
  rcases u5 with ⟨v1, v2, v3, g, sz, mz, v4, v5, v6, v7, v8⟩ | ⟨f', b, f1, f2, v1, v2, v3, v4⟩
  · obtain ⟨A, hA⟩ : ∃ A, A = sI (sI P2 0 0 (0 : Int32)) 0 1 m1 := ⟨_, rfl⟩
    have aR : ∀ m, m ≠ 0 → A.1 m = P2.1 m := fun m a => by rw [hA, rowI_o _ _ _ a, rowI_o _ _ _ a]
    have aL : A.2 = P2.2 := by rw [hA]; rfl
    have st : ∀ B, Pe_draw A = some B → Bs_drawing (nI n) P = Bs_drawing_91 (sI (sI B 0 0 (B.1 74 0)) 0 1 (B.1 74 1)) := fun B hB => by
      unfold Bs_drawing
      rw [if_neg ge0, if_pos lef, read, Option.bind_some, v1, Option.bind_some, rowI_o _ _ _ (by decide), v2, Option.bind_some, ← hA, if_pos (by rw [hA, rowI_s, pk_un (by decide), rowI_s, pk_us]), hB, Option.bind_some, Option.bind_some, rowI_o _ _ _ (by decide), Option.bind_some]
    have sg' : SG A.1 (Q2.1 94) g 0 0 sz 0 mz := SG_cong _ _ _ _ _ _ (fun r k a b _ _ => by rw [aR r (by omega)]) (fun _ _ _ => rfl) v4
    have mo102 : Mo_drawing (nI n) Q = (Mo_goesThrough Q2).bind fun x => Mo_drawing_113 x := by
      rw [t1, u2]
      unfold Mo_drawing_102
      rw [if_pos v3]
    have oA : oWc P2 A := ⟨fun m a => aR m (by omega), fun m _ => by rw [aL]⟩
    have h89 : ∀ k, k < 512 → Q2.1 89 k = 0 := fun k hk => by rw [u4.1 89 (by decide) (by decide)]; exact t3 k hk
    rcases draw_run (P := A) (Q := Q2) sg' (by rw [aR 66 (by decide)]; exact v5) v6 v3 v7 v8 h89 with ⟨s, B, C, w1, w2, ⟨x1, x2, x3, x4, x5, x6⟩, w4, w5, ⟨y1, y2, y3, y4, y5, y6⟩, w7⟩ | ⟨f', b, B, C, f1, f2, w2, w3, w3', w4, w5, w6, w6', w7⟩
    · have hD := w1.2.2.2
      obtain ⟨Q', c1, c2, c3, c4, c5, c6, c7⟩ := ref_good hD y1 y5 y6
      obtain ⟨E, hE⟩ : ∃ E, E = sI (sI B 0 0 (0 : Int32)) 0 1 m1 := ⟨_, rfl⟩
      have eR : ∀ m, m ≠ 0 → E.1 m = B.1 m := fun m a => by rw [hE, rowI_o _ _ _ a, rowI_o _ _ _ a]
      have eL : E.2 = B.2 := by rw [hE]; rfl
      have hC11 : CD 11 s.2.2.2 E := x6.keep (eR _ (by decide)) (eR _ (by decide)) (eR _ (by decide)) (eR _ (by decide)) (eR _ (by decide)) (by rw [eL]) (by rw [eL]) (eR _ (by decide))
      obtain ⟨K, k1, k2, k3⟩ := dr_copy (t := 3) (v := 11) (Or.inl (by decide)) hD hC11
      obtain ⟨L, hL⟩ : ∃ L, L = sI (sI (sL (sL K 43 0 (0 : Int64)) 43 1 (0 : Int64)) 43 2 (0 : Int32)) 43 7 (0 : Int32) := ⟨_, rfl⟩
      have lR : ∀ m, m ≠ 43 → L.1 m = K.1 m := fun m a => by
        rw [hL, rowI_o _ _ _ a, rowI_o _ _ _ a]
        rfl
      have lL : ∀ m, m ≠ 43 → L.2 m = K.2 m := fun m a => by
        rw [hL]
        show (sL (sL K 43 0 (0 : Int64)) 43 1 (0 : Int64)).2 m = _
        rw [rowL_o _ _ _ a, rowL_o _ _ _ a]
      have hC3 : CD 3 s.2.2.2 L := k2.keep (lR _ (by decide)) (lR _ (by decide)) (lR _ (by decide)) (lR _ (by decide)) (lR _ (by decide)) (lL _ (by decide)) (lL _ (by decide)) (lR _ (by decide))
      have l0 : L.1 0 = E.1 0 := (lR 0 (by decide)).trans (k3 0 (by decide)).1
      refine ⟨nI (dN s.2.2.2), L, Q', ?_, ?_, ?_, ?_, ?_, ?_, ?_, ?_, ?_, Or.inl ⟨s.2.2.2, hD, hC3, ?_, ?_, ?_, ?_, ?_, c2, c3⟩⟩
      · rw [st B w2, x1, x2, ← hE]
        unfold Bs_drawing_91 Ne_clear
        rw [if_pos (by rw [hE, rowI_s, pk_un (by decide), rowI_s, pk_us]), k1, Option.bind_some, Option.bind_some, Option.bind_some, gd0, Option.bind_some, Option.bind_some, ← hL, Option.bind_some, hC3.1]
      · rw [mo102, w5, Option.bind_some, c1]
      · rw [lR 71 (by decide), (k3 71 (by omega)).1, eR 71 (by decide), w4.1 71 (by omega) (by decide), aR 71 (by decide)]; exact z71
      · rw [c6 7 (by decide) (by decide), w7.2.1 7 (by omega)]; exact z7
      · rw [c6 5 (by decide) (by decide), w7.2.1 5 (by omega)]; exact z5
      · rw [l0, c4, hE, rowI_s, pk_un (by decide), rowI_s, pk_us]
      · rw [l0, c5, hE, rowI_s, pk_us]
      · refine (oc2.tr oA).tr (w4.wc.tr ⟨fun m a => ?_, fun m a => ?_⟩)
        · rw [lR m (by omega), (k3 m (by omega)).1, eR m (by omega)]
        · rw [lL m (by omega), (k3 m (by omega)).2, eL]
      · exact om2.tr (w7.wm.tr c7)
      · rw [hL]
        show (sL (sL K 43 0 (0 : Int64)) 43 1 (0 : Int64)).2 43 0 = 0
        rw [rowL_s, pk_uLn (by decide), rowL_s, pk_uLs]
      · rw [hL]
        show (sL (sL K 43 0 (0 : Int64)) 43 1 (0 : Int64)).2 43 1 = 0
        rw [rowL_s, pk_uLs]
      · rw [hL, rowI_s, pk_un (by decide), rowI_s, pk_us]
      · rw [hL, rowI_s, pk_us]
      · rw [hL, rowI_s, pk_un (by decide), rowI_s, pk_un (by decide)]
        show K.1 43 8 = _
        rw [(k3 43 (by omega)).1, eR 43 (by decide), w4.1 43 (by omega) (by decide), aR 43 (by decide), (pOld 43 (Or.inr rfl)).1]
    · obtain ⟨E, hE⟩ : ∃ E, E = sI (sI B 0 0 (nI f')) 0 1 (nI b) := ⟨_, rfl⟩
      have eR : ∀ m, m ≠ 0 → E.1 m = B.1 m := fun m a => by rw [hE, rowI_o _ _ _ a, rowI_o _ _ _ a]
      have eL : E.2 = B.2 := by rw [hE]; rfl
      have e00 : E.1 0 0 = nI f' := by rw [hE, rowI_s, pk_un (by decide), rowI_s, pk_us]
      refine ⟨(-10 : Int32) - nI f', E, sI (sI C 1 16 (nI f')) 1 17 (nI b), ?_, ?_, ?_, ?_, ?_, ?_, ?_, ?_, ?_, Or.inr ⟨fun m hm => ⟨?_, ?_⟩, ?_⟩⟩
      · rw [st B w2, w3, w3', ← hE]
        unfold Bs_drawing_91
        rw [e00, if_neg (nI_ne0 (by omega) (by omega))]
      · rw [mo102, w5, Option.bind_some, ref_bad (by omega) (by omega) w6 w6']
      · rw [eR 71 (by decide), w4.1 71 (by omega) (by decide), aR 71 (by decide)]; exact z71
      · rw [rowI_s, pk_un (by decide), rowI_s, pk_un (by decide), w7.2.1 7 (by omega)]; exact z7
      · rw [rowI_s, pk_un (by decide), rowI_s, pk_un (by decide), w7.2.1 5 (by omega)]; exact z5
      · rw [e00, rowI_s, pk_un (by decide), rowI_s, pk_us]
      · rw [rowI_s, pk_us, hE, rowI_s, pk_us]
      · exact (oc2.tr oA).tr (w4.wc.tr ⟨fun m a => eR m (by omega), fun m _ => by rw [eL]⟩)
      · exact om2.tr (w7.wm.tr ⟨fun m a _ _ _ => by rw [rowI_o _ _ _ a, rowI_o _ _ _ a], rfl⟩)
      · rw [eR m (by omega), w4.1 m (by omega) (by omega), aR m (by omega)]; exact (pOld m hm).1
      · rw [eL, w4.2 m (by omega), aL]; exact (pOld m hm).2
      · rw [rowI_o _ _ _ (by decide), rowI_o _ _ _ (by decide), w7.1 88 (by decide) (by decide) (by decide) (by decide) (by decide) (by decide)]; exact q88
  · obtain ⟨E, hE⟩ : ∃ E, E = sI (sI P2 0 0 (nI f')) 0 1 (nI b) := ⟨_, rfl⟩
    have eR : ∀ m, m ≠ 0 → E.1 m = P2.1 m := fun m a => by rw [hE, rowI_o _ _ _ a, rowI_o _ _ _ a]
    have eL : E.2 = P2.2 := by rw [hE]; rfl
    have e00 : E.1 0 0 = nI f' := by rw [hE, rowI_s, pk_un (by decide), rowI_s, pk_us]
    have nz : ¬ nI f' = (0 : Int32) := nI_ne0 (by omega) (by omega)
    refine ⟨(-10 : Int32) - nI f', E, sI (sI Q2 1 16 (nI f')) 1 17 (nI b), ?_, ?_, ?_, ?_, ?_, ?_, ?_, ?_, ?_, Or.inr ⟨fun m hm => ⟨?_, ?_⟩, ?_⟩⟩
    · unfold Bs_drawing
      rw [if_neg ge0, if_pos lef, read, Option.bind_some, v1, Option.bind_some, rowI_o _ _ _ (by decide), v2, Option.bind_some, ← hE, e00, if_neg nz]
      unfold Bs_drawing_91
      rw [e00, if_neg nz]
    · rw [t1, u2]
      unfold Mo_drawing_102
      rw [v3, if_neg nz, ref_bad (by omega) (by omega) v3 v4]
    · rw [eR 71 (by decide)]; exact z71
    · rw [rowI_s, pk_un (by decide), rowI_s, pk_un (by decide)]; exact z7
    · rw [rowI_s, pk_un (by decide), rowI_s, pk_un (by decide)]; exact z5
    · rw [e00, rowI_s, pk_un (by decide), rowI_s, pk_us]
    · rw [rowI_s, pk_us, hE, rowI_s, pk_us]
    · exact oc2.tr ⟨fun m a => eR m (by omega), fun m _ => by rw [eL]⟩
    · exact om2.tr ⟨fun m a _ _ _ => by rw [rowI_o _ _ _ a, rowI_o _ _ _ a], rfl⟩
    · rw [eR m (by omega)]; exact (pOld m hm).1
    · rw [eL]; exact (pOld m hm).2
    · rw [rowI_o _ _ _ (by decide), rowI_o _ _ _ (by decide)]; exact q88
end DCL
