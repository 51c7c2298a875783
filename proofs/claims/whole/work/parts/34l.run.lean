/-! DRAWING: the pen runs the script as it runs the codes -/
def rwE (A : Nat → Nat → Int32) (P : PH) : Prop := ∀ r, 67 ≤ r → r ≤ 70 → P.1 r = A r
def orE (a d : Nat) : Prop := 10 ≤ a + 2 * d ∧ a ≤ 10 + 2 * d
def flw (d e a : Nat) (sg : Bool) (f v6 v7 : Nat) (P : PH) : Option PH := Pe_follow_6 (Pe_follow (6 - d)) (nI e) (nI d) (plV a) (sgV sg) f (nI v6) (nI v7) P
def oMr (d : Nat) (P Q : PH) : Prop := (∀ n, n ≠ 1 → n ≠ 89 → n ≠ 95 → n ≠ 96 → n ≠ 97 → n ≠ 98 → Q.1 n = P.1 n) ∧ (∀ k, k < 14 ∨ (15 < k ∧ k < 24) ∨ 26 < k → Q.1 1 k = P.1 1 k) ∧ (∀ k, k < d → Q.1 95 k = P.1 95 k ∧ Q.1 96 k = P.1 96 k) ∧ (∀ k, k ≤ d → Q.1 97 k = P.1 97 k ∧ Q.1 98 k = P.1 98 k) ∧ Q.2 = P.2
abbrev FTy : Type := Bool → Nat → ST → ST ⊕ (Nat × Nat)
def RCl (A : Nat → Nat → Int32) (d i j : Nat) (F : FTy) : Prop := ∀ (sg : Bool) (a : Nat) (s : ST) (P : PH) (e f v6 : Nat), orE a d → SV s → CPn s P → rwE A P → j ≤ e → e ≤ 200 → v6 ≤ i →
  (∀ s', F sg a s = .inl s' → ∃ (P' : PH) (v6' : Nat), v6' ≤ j ∧ flw d e a sg (f + (j - i)) v6 i P = flw d e a sg f v6' j P' ∧ CPn s' P' ∧ oCp P P') ∧
  (∀ x, F sg a s = .inr x → 1 ≤ f → ∃ P' : PH, flw d e a sg (f + (j - i)) v6 i P = some P' ∧ P'.1 74 0 = nI x.1 ∧ P'.1 74 1 = nI x.2 ∧ oCp P P')
def RMo (M : Nat → Int32) (d ci cj : Nat) (F : FTy) : Prop := ∀ (sg : Bool) (a : Nat) (s : ST) (Q : PH) (mz : Nat), orE a d → SV s → MPn s Q → Q.1 94 = M → Q.1 1 19 = nI mz → cj ≤ mz → mz ≤ 400 → Q.1 97 d = nI ((a + 6) % 8) → Q.1 98 d = sgV sg →
  (∀ s', F sg a s = .inl s' → ∃ (N : Nat) (Q' : PH), N ≤ (cj - ci) * 12 ^ (5 - d) ∧ (∀ f, Mo_goesThrough_33 (f + N) (nI d) (nI ci) Q = Mo_goesThrough_33 f (nI d) (nI cj) Q') ∧ MPn s' Q' ∧ oMr d Q Q') ∧
  (∀ x, F sg a s = .inr x → ∃ (N : Nat) (Q' : PH), N ≤ (cj - ci) * 12 ^ (5 - d) ∧ (∀ f, Mo_goesThrough_33 (f + N) (nI d) (nI ci) Q = some Q') ∧ Q'.1 1 14 = nI x.1 ∧ Q'.1 1 15 = nI x.2 ∧ oMr d Q Q')
def RSv (F : FTy) : Prop := ∀ (sg : Bool) (a : Nat) (s : ST), SV s → (∀ s', F sg a s = .inl s' → SV s') ∧ ∀ x, F sg a s = .inr x → 5 ≤ x.1 ∧ x.1 ≤ 7
def RNo (A : Nat → Nat → Int32) (i j : Nat) (F : FTy) : Prop := (∀ k, i ≤ k → k < j → ∃ w : Nat, 8 ≤ w ∧ w < 14 ∧ A 67 k = nI w) → ∃ (p k : Option Nat) (K : Nat → Bool), ∀ sg a s, F sg a s = .inl (updS p k K s)
def RUNp (A : Nat → Nat → Int32) (M : Nat → Int32) (d i j ci cj : Nat) : Prop := ∃ F : FTy, RCl A d i j F ∧ RMo M d ci cj F ∧ RSv F ∧ RNo A i j F ∧ i ≤ j ∧ ci ≤ cj
def oB (r : ST ⊕ (Nat × Nat)) (f : ST → ST ⊕ (Nat × Nat)) : ST ⊕ (Nat × Nat) := match r with
  | .inl s => f s
  | .inr x => .inr x
def itF : Nat → (ST → ST ⊕ (Nat × Nat)) → ST → ST ⊕ (Nat × Nat)
  | 0, _, s => .inl s
  | k + 1, f, s => oB (f s) (itF k f)
def gfx (b : Nat) : ST ⊕ Nat → ST ⊕ (Nat × Nat)
  | .inl s => .inl s
  | .inr e => .inr (e, b)
section RUN
variable {A : Nat → Nat → Int32} {M : Nat → Int32} {d : Nat}
theorem oB_l {r : ST ⊕ (Nat × Nat)} {f : ST → ST ⊕ (Nat × Nat)} {t : ST} (h : oB r f = .inl t) : ∃ s, r = .inl s ∧ f s = .inl t := by
  cases r with
  | inl s => exact ⟨s, rfl, h⟩
  | inr x => cases h
theorem oB_r {r : ST ⊕ (Nat × Nat)} {f : ST → ST ⊕ (Nat × Nat)} {x : Nat × Nat} (h : oB r f = .inr x) : r = .inr x ∨ ∃ s, r = .inl s ∧ f s = .inr x := by
  cases r with
  | inl s => exact Or.inr ⟨s, rfl, h⟩
  | inr y => exact Or.inl h
theorem oMr.rf (d : Nat) (P : PH) : oMr d P P := ⟨fun _ _ _ _ _ _ _ => rfl, fun _ _ => rfl, fun _ _ => ⟨rfl, rfl⟩, fun _ _ => ⟨rfl, rfl⟩, rfl⟩
theorem oMr.tr {P Q R : PH} (h : oMr d P Q) (h2 : oMr d Q R) : oMr d P R := ⟨fun n a b c e f g => (h2.1 n a b c e f g).trans (h.1 n a b c e f g), fun k a => (h2.2.1 k a).trans (h.2.1 k a), fun k a => ⟨(h2.2.2.1 k a).1.trans (h.2.2.1 k a).1, (h2.2.2.1 k a).2.trans (h.2.2.1 k a).2⟩, fun k a => ⟨(h2.2.2.2.1 k a).1.trans (h.2.2.2.1 k a).1, (h2.2.2.2.1 k a).2.trans (h.2.2.2.1 k a).2⟩, h2.2.2.2.2.trans h.2.2.2.2⟩
theorem oMp.mr {P Q : PH} (h : oMp P Q) (d : Nat) : oMr d P Q := ⟨fun n a b _ _ _ _ => h.1 n a b, fun k a => h.2.1 k (by omega), fun k _ => ⟨by rw [h.1 95 (by decide) (by decide)], by rw [h.1 96 (by decide) (by decide)]⟩, fun k _ => ⟨by rw [h.1 97 (by decide) (by decide)], by rw [h.1 98 (by decide) (by decide)]⟩, h.2.2⟩
theorem oMr.s {P Q : PH} (h : oMr d P Q) {k : Nat} (hk : k = 14 ∨ k = 15) (v : Int32) : oMr d P (sI Q 1 k v) := ⟨fun n a b c e f g => by rw [rowI_o _ _ _ a]; exact h.1 n a b c e f g, fun j a => by rw [rowI_s, pk_un (by omega)]; exact h.2.1 j a, fun j a => by rw [rowI_o _ _ _ (by decide), rowI_o _ _ _ (by decide)]; exact h.2.2.1 j a, fun j a => by rw [rowI_o _ _ _ (by decide), rowI_o _ _ _ (by decide)]; exact h.2.2.2.1 j a, h.2.2.2.2⟩
theorem oMr.dn {P Q : PH} (h : oMr (d + 1) P Q) : oMr d P Q := ⟨h.1, h.2.1, fun k a => h.2.2.1 k (by omega), fun k a => h.2.2.2.1 k (by omega), h.2.2.2.2⟩
theorem rwE.kp {P Q : PH} (h : rwE A P) (o : oCp P Q) : rwE A Q := fun r a b => (o.1 r (by omega) (by omega)).trans (h r a b)
theorem orE.lt {a : Nat} (h : orE a d) (hd : d ≤ 5) : a < 21 := by unfold orE at h; omega
theorem fl_stop {e a f v6 v7 : Nat} {sg : Bool} {P : PH} (h : ¬ P.1 74 0 = 0) : flw d e a sg (f + 1) v6 v7 P = some P := by
  unfold flw
  rw [fl_eq, if_neg h, ite_self]
theorem fl_end {e a f v6 : Nat} {sg : Bool} {P : PH} (he : e ≤ 200) : flw d e a sg (f + 1) v6 e P = some P := by
  unfold flw
  rw [fl_eq, if_pos (show nI e ≤ nI e by rw [z_le (by omega) (by omega)]; omega)]
theorem fl_skip {e a i' : Nat} {sg : Bool} {P : PH} (he : e ≤ 200) (hi : i' ≤ e) (h : P.1 74 0 = 0) : ∀ (m k f : Nat), k + m = i' → flw d e a sg (f + m) i' k P = flw d e a sg f i' i' P
  | 0, k, f, hk => by rw [show k = i' by omega]; rfl
  | m + 1, k, f, hk => by
    rw [show f + (m + 1) = (f + m) + 1 by omega, ← fl_skip (sg := sg) (a := a) he hi h m (k + 1) f (by omega)]
    unfold flw
    rw [fl_eq, if_neg (show ¬ nI e ≤ nI k from nI_ge (by omega) (by omega)), if_pos h, if_neg (show ¬ nI i' ≤ nI k from nI_ge (by omega) (by omega)), nI_1]
theorem run_rf (d i ci : Nat) : RUNp A M d i i ci ci := by
  refine ⟨fun _ _ s => .inl s, fun sg a s P e f v6 _ hs hC _ _ _ h6 => ⟨fun s' h => ?_, fun x h => by cases h⟩, fun sg a s Q mz _ hs hC _ _ _ _ _ _ => ⟨fun s' h => ?_, fun x h => by cases h⟩, fun sg a s hs => ⟨fun s' h => by cases h; exact hs, fun x h => by cases h⟩, fun _ => ⟨none, none, fun _ => false, fun sg a s => rfl⟩, Nat.le_refl _, Nat.le_refl _⟩
  · cases h
    exact ⟨P, v6, h6, by rw [Nat.sub_self, Nat.add_zero], hC, oCp.rf P⟩
  · cases h
    exact ⟨0, Q, Nat.zero_le _, fun f => rfl, hC, oMr.rf d Q⟩
theorem run_tr {i i' j ci ci' cj : Nat} (h1 : RUNp A M d i i' ci ci') (h2 : RUNp A M d i' j ci' cj) : RUNp A M d i j ci cj := by
  obtain ⟨F1, c1, m1', s1, n1, l1, k1⟩ := h1
  obtain ⟨F2, c2, m2, s2, n2, l2, k2⟩ := h2
  refine ⟨fun sg a s => oB (F1 sg a s) (F2 sg a), fun sg a s P e f v6 ho hs hC hA hj he h6 => ?_, fun sg a s Q mz ho hs hC hM hz hcj hmz h97 h98 => ?_, fun sg a s hs => ?_, fun hn => ?_, by omega, by omega⟩
  · have g1 := c1 sg a s P e (f + (j - i')) v6 ho hs hC hA (by omega) he h6
    have ef : f + (j - i) = f + (j - i') + (i' - i) := by omega
    rw [ef]
    refine ⟨fun s' h => ?_, fun x h hf => ?_⟩
    · obtain ⟨t, t1, t2⟩ := oB_l h
      obtain ⟨P1, v1, b1, b2, b3, b4⟩ := g1.1 t t1
      obtain ⟨P', v2, d1, d2, d3, d4⟩ := (c2 sg a t P1 e f v1 ho ((s1 sg a s hs).1 t t1) b3 (hA.kp b4) hj he b1).1 s' t2
      exact ⟨P', v2, d1, b2.trans d2, d3, b4.tr d4⟩
    · rcases oB_r h with t1 | ⟨t, t1, t2⟩
      · exact g1.2 x t1 (by omega)
      · obtain ⟨P1, v1, b1, b2, b3, b4⟩ := g1.1 t t1
        obtain ⟨P', d1, d2, d3, d4⟩ := (c2 sg a t P1 e f v1 ho ((s1 sg a s hs).1 t t1) b3 (hA.kp b4) hj he b1).2 x t2 hf
        exact ⟨P', b2.trans d1, d2, d3, b4.tr d4⟩
  · have g1 := m1' sg a s Q mz ho hs hC hM hz (by omega) hmz h97 h98
    have eK : (cj - ci) * 12 ^ (5 - d) = (ci' - ci) * 12 ^ (5 - d) + (cj - ci') * 12 ^ (5 - d) := by
      rw [← Nat.add_mul]
      congr 1
      omega
    rw [eK]
    have nxt' : ∀ t Q1, F1 sg a s = .inl t → MPn t Q1 → oMr d Q Q1 → _ := fun t Q1 t1 b3 b4 => m2 sg a t Q1 mz ho ((s1 sg a s hs).1 t t1) b3 ((b4.1 94 (by decide) (by decide) (by decide) (by decide) (by decide) (by decide)).trans hM) ((b4.2.1 19 (by omega)).trans hz) hcj hmz ((b4.2.2.2.1 d (Nat.le_refl _)).1.trans h97) ((b4.2.2.2.1 d (Nat.le_refl _)).2.trans h98)
    refine ⟨fun s' h => ?_, fun x h => ?_⟩
    · obtain ⟨t, t1, t2⟩ := oB_l h
      obtain ⟨N1, Q1, b1, b2, b3, b4⟩ := g1.1 t t1
      obtain ⟨N2, Q', d1, d2, d3, d4⟩ := (nxt' t Q1 t1 b3 b4).1 s' t2
      exact ⟨N1 + N2, Q', Nat.add_le_add b1 d1, fun f => by rw [show f + (N1 + N2) = (f + N2) + N1 by omega, b2, d2], d3, b4.tr d4⟩
    · rcases oB_r h with t1 | ⟨t, t1, t2⟩
      · obtain ⟨N1, Q1, b1, b2, b3, b4, b5⟩ := g1.2 x t1
        exact ⟨N1, Q1, by omega, b2, b3, b4, b5⟩
      · obtain ⟨N1, Q1, b1, b2, b3, b4⟩ := g1.1 t t1
        obtain ⟨N2, Q', d1, d2, d3, d4, d5⟩ := (nxt' t Q1 t1 b3 b4).2 x t2
        exact ⟨N1 + N2, Q', Nat.add_le_add b1 d1, fun f => by rw [show f + (N1 + N2) = (f + N2) + N1 by omega, b2, d2], d3, d4, b4.tr d5⟩
  · refine ⟨fun s' h => ?_, fun x h => ?_⟩
    · obtain ⟨t, t1, t2⟩ := oB_l h
      exact (s2 sg a t ((s1 sg a s hs).1 t t1)).1 s' t2
    · rcases oB_r h with t1 | ⟨t, t1, t2⟩
      · exact (s1 sg a s hs).2 x t1
      · exact (s2 sg a t ((s1 sg a s hs).1 t t1)).2 x t2
  · obtain ⟨p, k, K, e1⟩ := n1 (fun x a b => hn x a (by omega))
    obtain ⟨p', k', K', e2⟩ := n2 (fun x a b => hn x (by omega) b)
    obtain ⟨p2, k2, K2, e3⟩ := updS_2 p k p' k' K K' (0, 0, 0, (0, fun _ => 0, fun _ => 0, fun _ => 0, fun _ => false))
    refine ⟨p2, k2, K2, fun sg a s => ?_⟩
    show oB (F1 sg a s) (F2 sg a) = _
    rw [e1]
    show F2 sg a (updS p k K s) = _
    rw [e2, e3]
/-- the codes' first cells -/
theorem gt_at {Q : PH} {ci mz u : Nat} {vv : Int32} {f : Nat} (hz : Q.1 1 19 = nI mz) (hc : ci < mz) (hm : mz ≤ 400) (h0 : Q.1 94 (4 * ci) = nI u) (h1 : Q.1 94 (4 * ci + 1) = vv) (v1 : Int32) (Z : Option PH) (h : (if (8 : Int32) ≤ nI u then
        if nI u = (8 : Int32) then
          (some (sI Q 1 24 vv)).bind fun (P156 : PH) =>
          Mo_goesThrough_33  f v1 (nI (ci + 1)) P156
        else
          if nI u = (10 : Int32) then
            gdI ((248 : Int32) + vv) 512 <|
            (some (sI Q 89 ((248 : Int32) + vv).toNatClampNeg (1 : Int32))).bind fun (P179 : PH) =>
            Mo_goesThrough_33  f v1 (nI (ci + 1)) P179
          else
            if nI u = (9 : Int32) then
              (some (sI Q 1 25 vv)).bind fun (P192 : PH) =>
              Mo_goesThrough_33  f v1 (nI (ci + 1)) P192
            else
              if nI u = (14 : Int32) then
                gdI (v1 - (1 : Int32)) 6 <|
                gdI (v1 - (1 : Int32)) 6 <|
                (some (sI Q 96 (v1 - (1 : Int32)).toNatClampNeg ((Q.1 96 (v1 - (1 : Int32)).toNatClampNeg) - (1 : Int32)))).bind fun (P215 : PH) =>
                gdI (v1 - (1 : Int32)) 6 <|
                if (P215.1 96 (v1 - (1 : Int32)).toNatClampNeg) ≤ 0 then
                  Mo_goesThrough_33  f (v1 + (-1)) (nI (ci + 1)) P215
                else
                  gdI (v1 - (1 : Int32)) 6 <|
                  (some (P215.1 95 (v1 - (1 : Int32)).toNatClampNeg)).bind fun (u2_235 : Int32) =>
                  Mo_goesThrough_33  f v1 (u2_235 + 1) P215
              else
                gdI v1 6 <|
                (some (sI Q 95 v1.toNatClampNeg (nI ci))).bind fun (P251 : PH) =>
                gdI v1 6 <|
                (some (sI P251 96 v1.toNatClampNeg vv)).bind fun (P259 : PH) =>
                gdI ((v1 + 1) - (1 : Int32)) 7 <|
                if nI u = (12 : Int32) then
                  gdI ((v1 + 1) - (1 : Int32)) 7 <|
                  Mo_goesThrough_296 (Mo_goesThrough_33  f) (v1 + 1) (nI ci) (nI u) ((2 : Int32) * (P259.1 98 ((v1 + 1) - (1 : Int32)).toNatClampNeg)) (P259.1 97 ((v1 + 1) - (1 : Int32)).toNatClampNeg) (v1 + 1) P259
                else
                  Mo_goesThrough_296 (Mo_goesThrough_33  f) (v1 + 1) (nI ci) (nI u) (0 : Int32) (P259.1 97 ((v1 + 1) - (1 : Int32)).toNatClampNeg) (v1 + 1) P259
      else
        gdI v1 7 <|
        gdI v1 7 <|
        (some ((((Q.1 97 v1.toNatClampNeg) + ((Q.1 98 v1.toNatClampNeg) * nI u)) + (64 : Int32)) - (((Q.1 97 v1.toNatClampNeg) + ((Q.1 98 v1.toNatClampNeg) * nI u)) + (64 : Int32)) / (8 : Int32) * (8 : Int32))).bind fun (u5_89 : Int32) =>
        Mo_goesThrough_94 (Mo_goesThrough_33  f) v1 (nI ci) vv u5_89 bigN (0 : Int32) Q) = Z) : Mo_goesThrough_33 (f + 1) v1 (nI ci) Q = Z := by
  have e0 : (4 : Int32) * nI ci = nI (4 * ci) := by rw [show (4 : Int32) = nI 4 from rfl, pk_mul]
  rw [gt_eq, hz, if_neg (show ¬ nI mz ≤ nI ci from nI_ge hc (by omega)), e0, nI_1, z_gd (by omega) (by decide), z_cl (by omega), h0, Option.bind_some, z_gd (by omega) (by decide), z_cl (by omega), h1, Option.bind_some, nI_1]
  exact h
/-- a way and a number -/
theorem run_go {i ci w o b : Nat} (hd : d ≤ 5) (hi : i < 200) (hw : w < 8) (ho : o ≤ 11) (h67 : A 67 i = nI w) (h68 : A 68 i = nI o) (h70 : A 70 i = nI b) (g0 : M (4 * ci) = nI w) (g1 : M (4 * ci + 1) = nI o) (g3 : M (4 * ci + 3) = nI b) : RUNp A M d i (i + 1) ci (ci + 1) := by
  refine ⟨fun sg a s => gfx b (goK (wyN sg a w) o s), fun sg a s P e f v6 hO hs hC hA hj he h6 => ?_, fun sg a s Q mz hO hs hC hM hz hcj hmz h97 h98 => ?_, fun sg a s hs => ?_, fun hn => ?_, by omega, by omega⟩
  · have wy := wyN_lt sg a w
    obtain ⟨P', a1, a2, a3⟩ := cl_goK (i := i) (o := o) (b := b) (w := wyN sg a w) hi wy (by omega) o 0 bigN s P hs hC (by rw [hA 68 (by decide) (by decide)]; exact h68) (by rw [hA 70 (by decide) (by decide)]; exact h70) (by omega) (big_gt (by omega))
    have st : flw d e a sg (f + (i + 1 - i)) v6 i P = flw d e a sg f v6 (i + 1) P' := by
      rw [show f + (i + 1 - i) = f + 1 by omega]
      unfold flw
      rw [fl_eq, if_neg (show ¬ nI e ≤ nI i from nI_ge (by omega) (by omega)), if_pos hC.1, if_pos (show nI v6 ≤ nI i by rw [z_le (by omega) (by omega)]; exact h6), sc_word hi, Option.bind_some, hA 67 (by decide) (by decide), h67, if_pos (show nI w < (11 : Int32) from (show nI w < nI 11 from nI_lt (by omega) (by decide))), if_neg (show ¬ (8 : Int32) ≤ nI w from (show ¬ nI 8 ≤ nI w from nI_ge hw (by decide))), wy_cls a (hO.lt hd) sg w hw]
      unfold Pe_go
      rw [show (0 : Int32) = nI 0 from rfl, a1, Option.bind_some, nI_1]
    rw [st]
    refine ⟨fun s' h => ?_, fun x h hf => ?_⟩
    · have h : gfx b (goK (wyN sg a w) o s) = .inl s' := h
      cases q : goK (wyN sg a w) o s with
      | inl t =>
        rw [q] at a3 h
        cases h
        exact ⟨P', v6, by omega, rfl, a3, a2⟩
      | inr t => rw [q] at h; cases h
    · have h : gfx b (goK (wyN sg a w) o s) = .inr x := h
      cases q : goK (wyN sg a w) o s with
      | inl t => rw [q] at h; cases h
      | inr t =>
        have sv := goK_sv wy o s hs
        rw [q] at a3 h sv
        have sv : 5 ≤ t ∧ t ≤ 7 := sv
        have a3 : P'.1 74 0 = nI t ∧ P'.1 74 1 = nI b := a3
        cases h
        obtain ⟨f, rfl⟩ : ∃ f', f = f' + 1 := ⟨f - 1, by omega⟩
        exact ⟨P', fl_stop (by rw [a3.1]; exact nI_ne0 (by omega) (by omega)), a3.1, a3.2, a2⟩
  · have wy := wyN_lt sg a w
    have K1 : 1 ≤ (ci + 1 - ci) * 12 ^ (5 - d) := by
      rw [show ci + 1 - ci = 1 by omega, Nat.one_mul]
      exact Nat.le_trans Nat.one_le_two_pow (Nat.pow_le_pow_left (by decide) _)
    have st : ∀ f, Mo_goesThrough_33 (f + 1) (nI d) (nI ci) Q = Mo_goesThrough_94 (Mo_goesThrough_33 f) (nI d) (nI ci) (nI o) (nI (wyN sg a w)) bigN (nI 0) Q := fun f => by
      refine gt_at (vv := nI o) hz (by omega) hmz (by rw [hM]; exact g0) (by rw [hM]; exact g1) _ _ ?_
      rw [if_neg (show ¬ (8 : Int32) ≤ nI w from (show ¬ nI 8 ≤ nI w from nI_ge hw (by decide))), z_gd (by omega) (by decide), z_gd (by omega) (by decide), z_cl (by omega), h97, h98, wy_ref a (hO.lt hd) sg w hw, Option.bind_some]
      rfl
    obtain ⟨Q', b1, b2⟩ := mo_goK (o := o) wy (by omega) o 0 bigN s Q hs hC (by omega) (big_gt (by omega))
    refine ⟨fun s' h => ?_, fun x h => ?_⟩
    · have h : gfx b (goK (wyN sg a w) o s) = .inl s' := h
      cases q : goK (wyN sg a w) o s with
      | inl t =>
        rw [q] at h b2
        cases h
        exact ⟨1, Q', K1, fun f => by rw [st, b2.1, nI_1], b2.2, b1.mr d⟩
      | inr t => rw [q] at h; cases h
    · have h : gfx b (goK (wyN sg a w) o s) = .inr x := h
      cases q : goK (wyN sg a w) o s with
      | inl t => rw [q] at h; cases h
      | inr t =>
        rw [q] at h b2
        cases h
        refine ⟨1, sI (sI Q' 1 14 (nI t)) 1 15 (nI b), K1, fun f => ?_, ?_, ?_, ((b1.mr d).s (by omega) _).s (by omega) _⟩
        · rw [st, b2]
          exact mo_117 (by omega) (by rw [b1.1 94 (by decide) (by decide), hM]; exact g3) _
        · rw [rowI_s, pk_un (by decide), rowI_s, pk_us]
        · rw [rowI_s, pk_us]
  · have wy := wyN_lt sg a w
    have sv := goK_sv wy o s hs
    refine ⟨fun s' h => ?_, fun x h => ?_⟩
    · have h : gfx b (goK (wyN sg a w) o s) = .inl s' := h
      cases q : goK (wyN sg a w) o s with
      | inl t => rw [q] at h sv; cases h; exact sv
      | inr t => rw [q] at h; cases h
    · have h : gfx b (goK (wyN sg a w) o s) = .inr x := h
      cases q : goK (wyN sg a w) o s with
      | inl t => rw [q] at h; cases h
      | inr t => rw [q] at h sv; cases h; exact sv
  · obtain ⟨v, v1, v2, v3⟩ := hn i (Nat.le_refl _) (by omega)
    rw [h67, z_eq (by omega) (by omega)] at v3
    omega
/-- at, ink, knot -/
theorem mo_set {ci mz w o t : Nat} {s : ST} {Q : PH} (hC : MPn s Q) (hs : SV s) (hz : Q.1 1 19 = nI mz) (hc : ci < mz) (hm : mz ≤ 400) (h0 : Q.1 94 (4 * ci) = nI w) (h1 : Q.1 94 (4 * ci + 1) = nI (if w = 8 ∨ w = 10 then 12 * t + o else o)) (hw : 8 ≤ w) (hw2 : w < 11) (h8 : w = 8 ∨ w = 10 → o < 12 ∧ t < 12) : ∃ Q', (∀ f v1, Mo_goesThrough_33 (f + 1) v1 (nI ci) Q = Mo_goesThrough_33 f v1 (nI (ci + 1)) Q') ∧ MPn (setS w o t s) Q' ∧ oMp Q Q' := by
  obtain ⟨c0, c1, c2, c3, c4, c5⟩ := hC
  have w8 : (8 : Int32) ≤ nI w := (show nI 8 ≤ nI w by rw [z_le (by omega) (by omega)]; omega)
  unfold setS
  by_cases a : w = 8
  · rw [if_pos a]
    rw [if_pos (Or.inl a)] at h1
    refine ⟨sI Q 1 24 (nI (12 * t + o)), fun f v1 => ?_, ⟨?_, ?_, ?_, ?_, ?_, ?_⟩, (oMp.rf Q).si (by omega) _⟩
    · refine gt_at hz hc hm h0 h1 _ _ ?_
      rw [if_pos w8, if_pos (show nI w = (8 : Int32) by rw [a]; rfl), Option.bind_some]
    · rw [rowI_s, pk_un (by decide)]; exact c0
    · rw [rowI_s, pk_us]
    · rw [rowI_s, pk_un (by decide)]; exact c2
    · rw [rowI_s, pk_un (by decide)]; exact c3
    · rw [rowI_o _ _ _ (by decide)]; exact c4
    · rw [rowI_o _ _ _ (by decide)]; exact c5
  · have n8 : ¬ nI w = (8 : Int32) := (show ¬ nI w = nI 8 by rw [z_eq (by omega) (by omega)]; exact a)
    by_cases b : w = 10
    · rw [if_neg a, if_pos b]
      rw [if_pos (Or.inr b)] at h1
      have hh := h8 (Or.inr b)
      have e : (248 : Int32) + nI (12 * t + o) = nI (248 + (12 * t + o)) := by rw [show (248 : Int32) = nI 248 from rfl, nI_add]
      have rr := rd_tie (h := 12 * t + o) (R' := (sI Q 89 (248 + (12 * t + o)) (1 : Int32)).1 89) hs.2.2.2 (by omega) c4 c5 (by rw [rowI_s, pk_us]; rfl) (fun k hk => by rw [rowI_s, pk_un hk])
      refine ⟨sI Q 89 (248 + (12 * t + o)) (1 : Int32), fun f v1 => ?_, ⟨?_, ?_, ?_, ?_, rr.1, rr.2⟩, (oMp.rf Q).c _ _⟩
      · refine gt_at hz hc hm h0 h1 _ _ ?_
        rw [if_pos w8, if_neg n8, if_pos (show nI w = (10 : Int32) by rw [b]; rfl), e, z_gd (by omega) (by decide), z_cl (by omega), Option.bind_some]
      · rw [rowI_o _ _ _ (by decide)]; exact c0
      · rw [rowI_o _ _ _ (by decide)]; exact c1
      · rw [rowI_o _ _ _ (by decide)]; exact c2
      · rw [rowI_o _ _ _ (by decide)]; exact c3
    · rw [if_neg a, if_neg b]
      rw [if_neg (by omega)] at h1
      refine ⟨sI Q 1 25 (nI o), fun f v1 => ?_, ⟨?_, ?_, ?_, ?_, ?_, ?_⟩, (oMp.rf Q).si (by omega) _⟩
      · refine gt_at hz hc hm h0 h1 _ _ ?_
        rw [if_pos w8, if_neg n8, if_neg (show ¬ nI w = (10 : Int32) from (show ¬ nI w = nI 10 by rw [z_eq (by omega) (by omega)]; exact b)), if_pos (show nI w = (9 : Int32) by rw [show w = 9 by omega]; rfl), Option.bind_some]
      · rw [rowI_s, pk_un (by decide)]; exact c0
      · rw [rowI_s, pk_un (by decide)]; exact c1
      · rw [rowI_s, pk_us]
      · rw [rowI_s, pk_un (by decide)]; exact c3
      · rw [rowI_o _ _ _ (by decide)]; exact c4
      · rw [rowI_o _ _ _ (by decide)]; exact c5
theorem run_set {i ci w o t : Nat} (hi : i < 200) (hw : 8 ≤ w) (hw2 : w < 11) (h9 : w = 9 → o < 4) (h8 : w = 8 ∨ w = 10 → o < 12 ∧ t < 12) (h67 : A 67 i = nI w) (h68 : A 68 i = nI o) (h69 : A 69 i = nI t) (g0 : M (4 * ci) = nI w) (g1 : M (4 * ci + 1) = nI (if w = 8 ∨ w = 10 then 12 * t + o else o)) : RUNp A M d i (i + 1) ci (ci + 1) := by
  refine ⟨fun _ _ s => .inl (setS w o t s), fun sg a s P e f v6 hO hs hC hA hj he h6 => ⟨fun s' h => ?_, fun x h => by cases h⟩, fun sg a s Q mz hO hs hC hM hz hcj hmz h97 h98 => ⟨fun s' h => ?_, fun x h => by cases h⟩, fun sg a s hs => ⟨fun s' h => ?_, fun x h => by cases h⟩, fun hn => ?_, by omega, by omega⟩
  · cases h
    obtain ⟨P', a1, a2, a3⟩ := cl_set (i := i) (o := o) (t := t) (w := w) hi hC (by rw [hA 68 (by decide) (by decide)]; exact h68) (by rw [hA 69 (by decide) (by decide)]; exact h69) h8 hw hw2
    refine ⟨P', v6, by omega, ?_, a3, a2⟩
    rw [show f + (i + 1 - i) = f + 1 by omega]
    unfold flw
    rw [fl_eq, if_neg (show ¬ nI e ≤ nI i from nI_ge (by omega) (by omega)), if_pos hC.1, if_pos (show nI v6 ≤ nI i by rw [z_le (by omega) (by omega)]; exact h6), sc_word hi, Option.bind_some, hA 67 (by decide) (by decide), h67, if_pos (show nI w < (11 : Int32) from (show nI w < nI 11 from nI_lt (by omega) (by decide))), if_pos (show (8 : Int32) ≤ nI w from (show nI 8 ≤ nI w by rw [z_le (by omega) (by omega)]; omega)), a1, Option.bind_some, nI_1]
  · cases h
    obtain ⟨Q', a1, a2, a3⟩ := mo_set (ci := ci) (t := t) (o := o) hC hs hz (by omega) hmz (by rw [hM]; exact g0) (by rw [hM]; exact g1) hw hw2 h8
    refine ⟨1, Q', ?_, fun f => a1 f (nI d), a2, a3.mr d⟩
    rw [show ci + 1 - ci = 1 by omega, Nat.one_mul]
    exact Nat.le_trans Nat.one_le_two_pow (Nat.pow_le_pow_left (by decide) _)
  · cases h
    exact setS_sv hs h9 h8 hw hw2
  · obtain ⟨p, k, K, e⟩ := setS_u w o t
    exact ⟨p, k, K, fun sg a s => congrArg Sum.inl (e s)⟩
end RUN
