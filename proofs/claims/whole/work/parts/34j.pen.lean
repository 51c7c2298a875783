/-! DRAWING: the pen, on both sides -/
abbrev ST : Type := Nat × Nat × Nat × DT
def SV (s : ST) : Prop := s.1 < 144 ∧ s.2.1 < 4 ∧ s.2.2.1 ≤ 1000 ∧ WD s.2.2.2
def CPn (s : ST) (P : PH) : Prop := P.1 74 0 = 0 ∧ P.1 74 1 = m1 ∧ P.1 74 4 = nI s.1 ∧ P.1 74 5 = nI s.2.1 ∧ P.1 74 6 = nI s.2.2.1 ∧ CD 11 s.2.2.2 P
def MPn (s : ST) (Q : PH) : Prop := Q.1 1 14 = 0 ∧ Q.1 1 24 = nI s.1 ∧ Q.1 1 25 = nI s.2.1 ∧ Q.1 1 26 = nI s.2.2.1 ∧ RD s.2.2.2 (Q.1 89) ∧ RN s.2.2.2 N00 (Q.1 89)
def goS (s : ST) (w : Nat) : ST ⊕ Nat := match stp s.1 w with
  | none => .inr 5
  | some t => match lnA s.2.2.2 s.1 w with
    | some _ => if s.2.2.1 < 1000 then .inl (t, s.2.1, s.2.2.1 + 1, s.2.2.2) else .inr 7
    | none => if dN s.2.2.2 < 60 then (if s.2.2.1 < 1000 then .inl (t, s.2.1, s.2.2.1 + 1, addL s.2.2.2 s.1 w s.2.1) else .inr 7) else .inr 6
def goK (w : Nat) : Nat → ST → ST ⊕ Nat
  | 0 => fun s => .inl s
  | k + 1 => fun s => match goS s w with
    | .inl s' => goK w k s'
    | .inr f => .inr f
def oCp (P Q : PH) : Prop := (∀ n, n < 11 ∨ 18 < n → n ≠ 74 → Q.1 n = P.1 n) ∧ ∀ n, n < 11 ∨ 18 < n → Q.2 n = P.2 n
def oMp (P Q : PH) : Prop := (∀ n, n ≠ 1 → n ≠ 89 → Q.1 n = P.1 n) ∧ (∀ k, k < 24 ∨ 26 < k → Q.1 1 k = P.1 1 k) ∧ Q.2 = P.2
section PEN
variable {s : ST} {w : Nat} {P Q : PH}
theorem oCp.rf (P : PH) : oCp P P := ⟨fun _ _ _ => rfl, fun _ _ => rfl⟩
theorem oCp.tr {P Q R : PH} (h : oCp P Q) (h2 : oCp Q R) : oCp P R := ⟨fun n a b => (h2.1 n a b).trans (h.1 n a b), fun n a => (h2.2 n a).trans (h.2 n a)⟩
theorem oDr.cp {P Q : PH} (h : oDr 11 P Q) : oCp P Q := ⟨fun n a _ => (h n (by omega)).1, fun n a => (h n (by omega)).2⟩
theorem oCp.si {P Q : PH} (h : oCp P Q) (k : Nat) (v : Int32) : oCp P (sI Q 74 k v) := ⟨fun n a b => by rw [rowI_o _ _ _ b]; exact h.1 n a b, h.2⟩
theorem oMp.rf (P : PH) : oMp P P := ⟨fun _ _ _ => rfl, fun _ _ => rfl, rfl⟩
theorem oMp.tr {P Q R : PH} (h : oMp P Q) (h2 : oMp Q R) : oMp P R := ⟨fun n a b => (h2.1 n a b).trans (h.1 n a b), fun k a => (h2.2.1 k a).trans (h.2.1 k a), h2.2.2.trans h.2.2⟩
theorem oMp.si {P Q : PH} (h : oMp P Q) {k : Nat} (hk : 24 ≤ k ∧ k ≤ 26) (v : Int32) : oMp P (sI Q 1 k v) := ⟨fun n a b => by rw [rowI_o _ _ _ a]; exact h.1 n a b, fun j a => by rw [rowI_s, pk_un (by omega)]; exact h.2.1 j a, h.2.2⟩
theorem oMp.c {P Q : PH} (h : oMp P Q) (k : Nat) (v : Int32) : oMp P (sI Q 89 k v) := ⟨fun n a b => by rw [rowI_o _ _ _ b]; exact h.1 n a b, fun j a => by rw [rowI_o _ _ _ (by decide)]; exact h.2.1 j a, h.2.2⟩
theorem CD.t74 {D : DT} (h : CD 11 D P) (k : Nat) (v : Int32) : CD 11 D (sI P 74 k v) := h.keep (rowI_o _ _ _ (by decide)) (rowI_o _ _ _ (by decide)) (rowI_o _ _ _ (by decide)) (rowI_o _ _ _ (by decide)) (rowI_o _ _ _ (by decide)) rfl rfl (rowI_o _ _ _ (by decide))
theorem goS_sv (hs : SV s) (hw : w < 8) : match goS s w with
    | .inl s' => SV s'
    | .inr f => 5 ≤ f ∧ f ≤ 7 := by
  obtain ⟨h1, h2, h3, h4⟩ := hs
  unfold goS
  cases e : stp s.1 w with
  | none => exact ⟨by decide, by decide⟩
  | some t =>
    have st := stp_some h1 hw e
    cases e2 : lnA s.2.2.2 s.1 w with
    | some l =>
      by_cases c : s.2.2.1 < 1000
      · simp only [if_pos c]
        exact ⟨st.1, h2, c, h4⟩
      · simp only [if_neg c]
        exact ⟨by decide, by decide⟩
    | none =>
      by_cases c2 : dN s.2.2.2 < 60
      · by_cases c : s.2.2.1 < 1000
        · simp only [if_pos c, if_pos c2]
          exact ⟨st.1, h2, c, add_WD h4 c2 h1 hw h2 e e2⟩
        · simp only [if_neg c, if_pos c2]
          exact ⟨by decide, by decide⟩
      · simp only [if_neg c2]
        exact ⟨by decide, by decide⟩
theorem goK_sv (hw : w < 8) : ∀ (k : Nat) (s : ST), SV s → match goK w k s with
    | .inl s' => SV s'
    | .inr f => 5 ≤ f ∧ f ≤ 7
  | 0, s, hs => hs
  | k + 1, s, hs => by
    have g := goS_sv hs hw
    unfold goK
    cases e : goS s w with
    | inl s' => rw [e] at g; exact goK_sv hw k s' g
    | inr f => rw [e] at g; exact g
/-- one step, the class -/
theorem cl_go1 (hs : SV s) (hC : CPn s P) (hw : w < 8) : ∃ P', Pe_goOne (nI w) P = some P' ∧ oCp P P' ∧ match goS s w with
    | .inl s' => CPn s' P'
    | .inr f => P'.1 74 0 = nI f := by
  obtain ⟨h1, h2, h3, h4⟩ := hs
  obtain ⟨c0, c1, c2, c3, c4, c5⟩ := hC
  have go : ∀ Z, ((if (enc (lnA s.2.2.2 s.1 w)) = (-1 : Int32) then Pe_goOne_30 (nI w) (enc (stp s.1 w)) (1 : Int32) P else Pe_goOne_30 (nI w) (enc (stp s.1 w)) (0 : Int32) P) = Z) → Pe_goOne (nI w) P = Z := fun Z h => by
    unfold Pe_goOne
    rw [c2, bs_step h1 hw, Option.bind_some, dr_lineBy h4 c5 h1 hw, Option.bind_some]
    exact h
  have fl : ∀ f : Nat, ∃ P', some (sI P 74 0 (nI f)) = some P' ∧ oCp P P' ∧ P'.1 74 0 = nI f := fun f => ⟨_, rfl, (oCp.rf P).si _ _, by rw [rowI_s, pk_us]⟩
  have en : ∀ (P1 : PH) (t : Nat) (D' : DT), oCp P P1 → CD 11 D' P1 → P1.1 74 = P.1 74 → ∃ P', Pe_goOne_109 (nI t) P1 = some P' ∧ oCp P P' ∧ CPn (t, s.2.1, s.2.2.1 + 1, D') P' := fun P1 t D' o c e => by
    unfold Pe_goOne_109
    rw [e, c4, nI_1, Option.bind_some, Option.bind_some]
    refine ⟨_, rfl, (o.si _ _).si _ _, ?_, ?_, ?_, ?_, ?_, (c.t74 _ _).t74 _ _⟩
    · rw [rowI_s, pk_un (by decide), rowI_s, pk_un (by decide), e]; exact c0
    · rw [rowI_s, pk_un (by decide), rowI_s, pk_un (by decide), e]; exact c1
    · rw [rowI_s, pk_us]
    · rw [rowI_s, pk_un (by decide), rowI_s, pk_un (by decide), e]; exact c3
    · rw [rowI_s, pk_un (by decide), rowI_s, pk_us]
  unfold goS
  cases e : stp s.1 w with
  | none =>
    obtain ⟨P', f1, f2, f3⟩ := fl 5
    refine ⟨P', go _ ?_, f2, f3⟩
    rw [e]
    unfold Pe_goOne_30
    rw [show enc none = (-1 : Int32) from rfl, if_pos rfl, if_pos rfl, ite_self, Option.bind_some]
    exact f1
  | some t =>
    have st := stp_some h1 hw e
    have nt : ¬ nI t = (-1 : Int32) := nI_nm (by omega)
    cases e2 : lnA s.2.2.2 s.1 w with
    | some l =>
      have hl := (lnA_some e2).choose_spec.2.1
      have h60 := h4.1
      have nl : ¬ nI l = (-1 : Int32) := nI_nm (by omega)
      have g2 : Pe_goOne (nI w) P = Pe_goOne_69 (nI w) (nI t) (0 : Int32) P := go _ (by
        rw [e, e2, show enc (some l) = nI l from rfl, show enc (some t) = nI t from rfl, if_neg nl]
        unfold Pe_goOne_30
        rw [if_neg nt, if_pos rfl])
      by_cases c : s.2.2.1 < 1000
      · obtain ⟨P', f1, f2, f3⟩ := en P t s.2.2.2 (oCp.rf P) c5 rfl
        simp only [if_pos c]
        refine ⟨P', ?_, f2, f3⟩
        rw [g2]
        unfold Pe_goOne_69
        rw [c4, if_pos (show nI s.2.2.1 < (1000 : Int32) from (show nI s.2.2.1 < nI 1000 from nI_lt c (by decide))), if_pos rfl]
        exact f1
      · obtain ⟨P', f1, f2, f3⟩ := fl 7
        simp only [if_neg c]
        refine ⟨P', ?_, f2, f3⟩
        rw [g2]
        unfold Pe_goOne_69
        rw [c4, if_neg (show ¬ nI s.2.2.1 < (1000 : Int32) from (show ¬ nI s.2.2.1 < nI 1000 by rw [z_lt (by omega) (by omega)]; exact c)), Option.bind_some]
        exact f1
    | none =>
      have h60 := h4.1
      have g2 : Pe_goOne (nI w) P = if (P.1 11 0) < (60 : Int32) then Pe_goOne_69 (nI w) (nI t) (1 : Int32) P else (some (sI P 74 0 (6 : Int32))).bind fun (P63 : PH) => some P63 := go _ (by
        rw [e, e2, show enc none = (-1 : Int32) from rfl, show enc (some t) = nI t from rfl, if_pos rfl]
        unfold Pe_goOne_30
        rw [if_neg nt, if_neg (by decide)])
      rw [show P.1 11 0 = nI (dN s.2.2.2) from c5.1] at g2
      by_cases c2' : dN s.2.2.2 < 60
      · rw [if_pos (show nI (dN s.2.2.2) < (60 : Int32) from (show nI (dN s.2.2.2) < nI 60 from nI_lt c2' (by decide)))] at g2
        by_cases c : s.2.2.1 < 1000
        · obtain ⟨P1, d1, d2, d3⟩ := dr_draw h4 c5 c2' h1 hw h2 e e2
          obtain ⟨P', f1, f2, f3⟩ := en P1 t _ d3.cp d2 (d3 74 (by omega)).1
          simp only [if_pos c, if_pos c2']
          refine ⟨P', ?_, f2, f3⟩
          rw [g2]
          unfold Pe_goOne_69
          rw [c4, if_pos (show nI s.2.2.1 < (1000 : Int32) from (show nI s.2.2.1 < nI 1000 from nI_lt c (by decide))), if_neg (by decide), c2, c3, d1, Option.bind_some]
          exact f1
        · obtain ⟨P', f1, f2, f3⟩ := fl 7
          simp only [if_neg c, if_pos c2']
          refine ⟨P', ?_, f2, f3⟩
          rw [g2]
          unfold Pe_goOne_69
          rw [c4, if_neg (show ¬ nI s.2.2.1 < (1000 : Int32) from (show ¬ nI s.2.2.1 < nI 1000 by rw [z_lt (by omega) (by omega)]; exact c)), Option.bind_some]
          exact f1
      · obtain ⟨P', f1, f2, f3⟩ := fl 6
        simp only [if_neg c2']
        refine ⟨P', ?_, f2, f3⟩
        rw [g2, if_neg (show ¬ nI (dN s.2.2.2) < (60 : Int32) from (show ¬ nI (dN s.2.2.2) < nI 60 by rw [z_lt (by omega) (by omega)]; exact c2')), Option.bind_some]
        exact f1
/-- one step, the reference -/
theorem mo_go1 (hs : SV s) (hC : MPn s Q) (hw : w < 8) : ∃ (v : Int32) (Q' : PH), Mo_draws (nI w) Q = some (v, Q') ∧ oMp Q Q' ∧ match goS s w with
    | .inl s' => v = 0 ∧ MPn s' Q'
    | .inr f => v = nI f := by
  obtain ⟨h1, h2, h3, h4⟩ := hs
  obtain ⟨c0, c1, c2, c3, c4, c5⟩ := hC
  have h60 := h4.1
  obtain ⟨A, hA⟩ : ∃ A, A = sI Q 1 26 (nI (s.2.2.1 + 1)) := ⟨_, rfl⟩
  have oA : oMp Q A := by rw [hA]; exact (oMp.rf Q).si (by omega) _
  have a89 : A.1 89 = Q.1 89 := by rw [hA, rowI_o _ _ _ (by decide)]
  have ak : ∀ k, k ≠ 26 → A.1 1 k = Q.1 1 k := fun k hk => by rw [hA, rowI_s, pk_un hk]
  have a26 : A.1 1 26 = nI (s.2.2.1 + 1) := by rw [hA, rowI_s, pk_us]
  have go : ∀ Z, ((if (enc (stp s.1 w)) = (-1 : Int32) then some ((5 : Int32), A) else if (enc (lnA s.2.2.2 s.1 w)) = (-1 : Int32) then Mo_draws_47 (nI w) (enc (stp s.1 w)) (1 : Int32) A else Mo_draws_47 (nI w) (enc (stp s.1 w)) (0 : Int32) A) = Z) → Mo_draws (nI w) Q = Z := fun Z h => by
    unfold Mo_draws
    rw [c3, nI_1, Option.bind_some, ← hA, ak 24 (by decide), c1, mo_step h1 hw, Option.bind_some, mo_find (v0 := 89) h4 (by rw [a89]; exact c4) h1 hw, Option.bind_some]
    exact h
  unfold goS
  cases e : stp s.1 w with
  | none =>
    refine ⟨5, A, go _ ?_, oA, rfl⟩
    rw [e, show enc none = (-1 : Int32) from rfl, if_pos rfl]
  | some t =>
    have st := stp_some h1 hw e
    have nt : ¬ nI t = (-1 : Int32) := nI_nm (by omega)
    cases e2 : lnA s.2.2.2 s.1 w with
    | some l =>
      have hl := (lnA_some e2).choose_spec.2.1
      have nl : ¬ nI l = (-1 : Int32) := nI_nm (by omega)
      have g2 : Mo_draws (nI w) Q = Mo_draws_66 (nI w) (nI t) (0 : Int32) A := go _ (by
        rw [e, e2, show enc (some l) = nI l from rfl, show enc (some t) = nI t from rfl, if_neg nt, if_neg nl]
        unfold Mo_draws_47
        rw [if_pos rfl])
      by_cases c : s.2.2.1 < 1000
      · simp only [if_pos c]
        refine ⟨0, sI A 1 24 (nI t), ?_, oA.si (by omega) _, rfl, ?_, ?_, ?_, ?_, ?_, ?_⟩
        · rw [g2]
          unfold Mo_draws_66
          rw [a26, if_pos (show nI (s.2.2.1 + 1) ≤ (1000 : Int32) from (show nI (s.2.2.1 + 1) ≤ nI 1000 by rw [z_le (by omega) (by omega)]; omega)), if_pos rfl, Option.bind_some]
        · rw [rowI_s, pk_un (by decide), ak 14 (by decide)]; exact c0
        · rw [rowI_s, pk_us]
        · rw [rowI_s, pk_un (by decide), ak 25 (by decide)]; exact c2
        · rw [rowI_s, pk_un (by decide)]; exact a26
        · rw [rowI_o _ _ _ (by decide), a89]; exact c4
        · rw [rowI_o _ _ _ (by decide), a89]; exact c5
      · simp only [if_neg c]
        refine ⟨7, A, ?_, oA, rfl⟩
        rw [g2]
        unfold Mo_draws_66
        rw [a26, if_neg (show ¬ nI (s.2.2.1 + 1) ≤ (1000 : Int32) from (show ¬ nI (s.2.2.1 + 1) ≤ nI 1000 by rw [z_le (by omega) (by omega)]; omega))]
    | none =>
      have g2 : Mo_draws (nI w) Q = if (A.1 89 0) = (60 : Int32) then some ((6 : Int32), A) else Mo_draws_66 (nI w) (nI t) (1 : Int32) A := go _ (by
        rw [e, e2, show enc none = (-1 : Int32) from rfl, show enc (some t) = nI t from rfl, if_neg nt, if_pos rfl]
        unfold Mo_draws_47
        rw [if_neg (by decide), show (gdI (0 : Int32) 512 : Option (Int32 × PH) → Option (Int32 × PH)) = fun o => o from gdf 0 512 (by decide) (by decide)]
        rfl)
      rw [a89, c4.1] at g2
      by_cases c2' : dN s.2.2.2 < 60
      · rw [if_neg (show ¬ nI (dN s.2.2.2) = (60 : Int32) from (show ¬ nI (dN s.2.2.2) = nI 60 by rw [z_eq (by omega) (by omega)]; omega))] at g2
        by_cases c : s.2.2.1 < 1000
        · simp only [if_pos c, if_pos c2']
          obtain ⟨N, hN⟩ : ∃ N, N = dN s.2.2.2 := ⟨_, rfl⟩
          obtain ⟨B, hB⟩ : ∃ B, B = sI (sI (sI (sI (sI A 89 (8 + 4 * N) (nI s.1)) 89 (8 + 4 * N + 1) (nI w)) 89 (8 + 4 * N + 2) (nI s.2.1)) 89 (8 + 4 * N + 3) (0 : Int32)) 89 0 (nI (N + 1)) := ⟨_, rfl⟩
          have oB : oMp Q B := by rw [hB]; exact ((((oA.c _ _).c _ _).c _ _).c _ _).c _ _
          have b1 : B.1 1 = A.1 1 := by rw [hB, rowI_o _ _ _ (by decide), rowI_o _ _ _ (by decide), rowI_o _ _ _ (by decide), rowI_o _ _ _ (by decide), rowI_o _ _ _ (by decide)]
          have rr := rd_add (i := s.2.1) (R' := B.1 89) e h4 c2' c4 c5 (by rw [hB, rowI_s, pk_us, hN]) (by rw [hB, rowI_s, pk_un (by omega), rowI_s, pk_un (by omega), rowI_s, pk_un (by omega), rowI_s, pk_un (by omega), rowI_s, hN, pk_us]) (by rw [hB, rowI_s, pk_un (by omega), rowI_s, pk_un (by omega), rowI_s, pk_un (by omega), rowI_s, hN, pk_us]) (by rw [hB, rowI_s, pk_un (by omega), rowI_s, pk_un (by omega), rowI_s, hN, pk_us]) (by rw [hB, rowI_s, pk_un (by omega), rowI_s, hN, pk_us]; rfl) (fun k k0 kk => by rw [hB, rowI_s, pk_un k0, rowI_s, pk_un (by omega), rowI_s, pk_un (by omega), rowI_s, pk_un (by omega), rowI_s, pk_un (by omega), a89])
          refine ⟨0, sI B 1 24 (nI t), ?_, oB.si (by omega) _, rfl, ?_, ?_, ?_, ?_, ?_, ?_⟩
          · rw [g2]
            unfold Mo_draws_66
            have q0 : (8 : Int32) + (4 : Int32) * (A.1 89 (0 : Int32).toNatClampNeg) = nI (8 + 4 * N) := by
              rw [show A.1 89 (0 : Int32).toNatClampNeg = nI N by rw [a89, hN]; exact c4.1, show (8 : Int32) = nI 8 from rfl, show (4 : Int32) = nI 4 from rfl, pk_mul, nI_add]
            have q00 : nI (8 + 4 * N) + (0 : Int32) = nI (8 + 4 * N) := by rw [show (0 : Int32) = nI 0 from rfl, nI_add, Nat.add_zero]
            have q1 : nI (8 + 4 * N) + (1 : Int32) = nI (8 + 4 * N + 1) := nI_1 _
            have q2 : nI (8 + 4 * N) + (2 : Int32) = nI (8 + 4 * N + 2) := by rw [show (2 : Int32) = nI 2 from rfl, nI_add]
            have q3 : nI (8 + 4 * N) + (3 : Int32) = nI (8 + 4 * N + 3) := by rw [show (3 : Int32) = nI 3 from rfl, nI_add]
            rw [a26, if_pos (show nI (s.2.2.1 + 1) ≤ (1000 : Int32) from (show nI (s.2.2.1 + 1) ≤ nI 1000 by rw [z_le (by omega) (by omega)]; omega)), if_neg (by decide), show (gdI (0 : Int32) 512 : Option (Int32 × PH) → Option (Int32 × PH)) = fun o => o from gdf 0 512 (by decide) (by decide), q0]
            show (some (nI (8 + 4 * N))).bind _ = _
            rw [Option.bind_some, q00, q1, q2, q3, z_gd (by omega) (by decide), z_cl (by omega), Option.bind_some, z_gd (by omega) (by decide), z_cl (by omega), Option.bind_some, z_gd (by omega) (by decide), z_cl (by omega), Option.bind_some, z_gd (by omega) (by decide), z_cl (by omega), Option.bind_some]
            rw [ak 24 (by decide), c1]
            have k25 : (sI (sI A 89 (8 + 4 * N) (nI s.1)) 89 (8 + 4 * N + 1) (nI w)).1 1 25 = nI s.2.1 := by rw [rowI_o _ _ _ (by decide), rowI_o _ _ _ (by decide), ak 25 (by decide)]; exact c2
            have k0 : (sI (sI (sI (sI A 89 (8 + 4 * N) (nI s.1)) 89 (8 + 4 * N + 1) (nI w)) 89 (8 + 4 * N + 2) (nI s.2.1)) 89 (8 + 4 * N + 3) (0 : Int32)).1 89 0 = nI N := by rw [rowI_s, pk_un (by omega), rowI_s, pk_un (by omega), rowI_s, pk_un (by omega), rowI_s, pk_un (by omega), a89, hN]; exact c4.1
            rw [k25, show Int32.toNatClampNeg 0 = 0 from rfl, k0, nI_1]
            show (some _).bind _ = _
            rw [Option.bind_some, ← hB, Option.bind_some]
          · rw [rowI_s, pk_un (by decide), b1, ak 14 (by decide)]; exact c0
          · rw [rowI_s, pk_us]
          · rw [rowI_s, pk_un (by decide), b1, ak 25 (by decide)]; exact c2
          · rw [rowI_s, pk_un (by decide), b1]; exact a26
          · rw [rowI_o _ _ _ (by decide)]; exact rr.1
          · rw [rowI_o _ _ _ (by decide)]; exact rr.2
        · simp only [if_neg c, if_pos c2']
          refine ⟨7, A, ?_, oA, rfl⟩
          rw [g2]
          unfold Mo_draws_66
          rw [a26, if_neg (show ¬ nI (s.2.2.1 + 1) ≤ (1000 : Int32) from (show ¬ nI (s.2.2.1 + 1) ≤ nI 1000 by rw [z_le (by omega) (by omega)]; omega))]
      · simp only [if_neg c2']
        refine ⟨6, A, ?_, oA, rfl⟩
        rw [g2, if_pos (show nI (dN s.2.2.2) = (60 : Int32) by rw [show dN s.2.2.2 = 60 by omega]; rfl)]
end PEN
