/-! THE CLASS'S NEEDLE GOES, AND GOES BACK -/
def onlyN (nd : Nat) (P Q : PH) : Prop := (∀ n, n ≠ nd → n ≠ nd + 1 → Q.1 n = P.1 n) ∧ ∀ n, n ≠ nd → Q.2 n = P.2 n
theorem onlyN.rf (nd : Nat) (P : PH) : onlyN nd P P := ⟨fun _ _ _ => rfl, fun _ _ => rfl⟩
theorem onlyN.tr {nd : Nat} {P Q R : PH} (h : onlyN nd P Q) (h2 : onlyN nd Q R) : onlyN nd P R := ⟨fun n a b => (h2.1 n a b).trans (h.1 n a b), fun n a => (h2.2 n a).trans (h.2 n a)⟩
theorem onlyN.i0 {nd : Nat} {P Q : PH} (h : onlyN nd P Q) (k : Nat) (v : Int32) : onlyN nd P (sI Q nd k v) := ⟨fun n a b => (u2_off _ _ a).trans (h.1 n a b), h.2⟩
theorem onlyN.i1 {nd : Nat} {P Q : PH} (h : onlyN nd P Q) (k : Nat) (v : Int32) : onlyN nd P (sI Q (nd + 1) k v) := ⟨fun n a b => (u2_off _ _ b).trans (h.1 n a b), h.2⟩
theorem onlyN.l0 {nd : Nat} {P Q : PH} (h : onlyN nd P Q) (k : Nat) (v : Int64) : onlyN nd P (sL Q nd k v) := ⟨h.1, fun n a => (u2_off _ _ a).trans (h.2 n a)⟩
/-- a needle's cells are not its drawing's -/
def apt (nd : Nat) : Prop := ∀ j, j < 8 → ndD nd + j ≠ nd ∧ ndD nd + j ≠ nd + 1
theorem CD.only {nd : Nat} {D : DT} {P Q : PH} (ha : apt nd) (h : CD (ndD nd) D P) (o : onlyN nd P Q) : CD (ndD nd) D Q :=
  h.keep (o.1 _ (ha 0 (by omega)).1 (ha 0 (by omega)).2) (o.1 _ (ha 1 (by omega)).1 (ha 1 (by omega)).2) (o.1 _ (ha 2 (by omega)).1 (ha 2 (by omega)).2) (o.1 _ (ha 3 (by omega)).1 (ha 3 (by omega)).2) (o.1 _ (ha 4 (by omega)).1 (ha 4 (by omega)).2) (o.2 _ (ha 5 (by omega)).1) (o.2 _ (ha 6 (by omega)).1) (o.1 _ (ha 7 (by omega)).1 (ha 7 (by omega)).2)
theorem rowI_s (P : PH) (n k : Nat) (v : Int32) : (sI P n k v).1 n = upd (P.1 n) k v := sI_row P n k v
theorem rowI_o (P : PH) {n m : Nat} (k : Nat) (v : Int32) (h : m ≠ n) : (sI P n k v).1 m = P.1 m := u2_off _ _ h
theorem rowL_s (P : PH) (n k : Nat) (v : Int64) : (sL P n k v).2 n = vp_updL (P.2 n) k v := sL_row P n k v
theorem rowL_o (P : PH) {n m : Nat} (k : Nat) (v : Int64) (h : m ≠ n) : (sL P n k v).2 m = P.2 m := u2_off _ _ h
section NDL
variable {nd : Nat} {D : DT} {N : NT} {P : PH}
theorem CN.fl (hC : CN nd D N P) (h60 : dN D ≤ 60) {l : Nat} (hl : l < dN D) (v : Bool) : CN nd D (flN v l N) (sL P nd (if v then 0 else 1) ((P.2 nd (if v then 0 else 1)) ^^^ ((1 : Int64) <<< ((nI l).toInt64 &&& 63)))) := by
  have hb : ∀ (x : Int64) (p : Nat → Bool), (∀ i, i < 64 → bL x i = (decide (i < dN D) && p i)) → ∀ i, i < 64 → bL (x ^^^ ((1 : Int64) <<< ((nI l).toInt64 &&& 63))) i = (decide (i < dN D) && (p i ^^ decide (i = l))) := by
    intro x p hx i hi
    rw [bL_xor, hx i hi, bL_sh (by omega)]
    by_cases c : i = l
    · rw [c]; simp [hl]
    · simp [c]
  obtain ⟨c1, c2, c3⟩ := hC
  cases v
  · refine ⟨fun i hi => ?_, fun i hi => ?_, c3⟩
    · rw [rowL_s, if_neg (by decide), pk_uLn (by decide)]
      exact c1 i hi
    · rw [rowL_s, if_neg (by decide), pk_uLs]
      exact hb _ _ c2 i hi
  · refine ⟨fun i hi => ?_, fun i hi => ?_, c3⟩
    · rw [rowL_s, if_pos rfl, pk_uLs]
      exact hb _ _ c1 i hi
    · rw [rowL_s, if_pos rfl, pk_uLn (by decide)]
      exact c2 i hi
theorem ne_mark (hC : CN nd D N P) (ht : xT N = true) (hM : xM N < 1000) {l : Nat} : Ne_mark nd (nI l) P = some (sL P nd (if ovN N (xM N) then 0 else 1) ((P.2 nd (if ovN N (xM N) then 0 else 1)) ^^^ ((1 : Int64) <<< ((nI l).toInt64 &&& 63)))) := by
  unfold Ne_mark
  rw [ne_next hC ht hM]
  cases ovN N (xM N) <;> rfl
theorem ne_go (ha : apt nd) (hD : WD D) (hCD : CD (ndD nd) D P) (hN : WN D N) (hC : CN nd D N P) {w l : Nat} (hw : w < 8) (hr : rsn D N (some w) = 0) (e : lnA D (xH N (xM N)) w = some l) :
    ∃ Q, Ne_go nd (nI w) P = some ((0 : Int32), Q) ∧ CN nd D (goN N w l) Q ∧ onlyN nd P Q := by
  have h60 := hD.1
  obtain ⟨ht, w', l', q1, q2, q3, q4⟩ := rsn_0 hr
  cases q1
  rw [e] at q2
  cases q2
  have hl := (lnA_stp e hD).2.1
  have hM := most_free hD hN ht hl q4
  obtain ⟨n1, n2, n3, n4, n5, n6⟩ := hN ht
  obtain ⟨e3, e4, e5, e6, e8, e9⟩ := hC.2.2.2.2.2 ht
  have hh := WN.hole hD hN ht _ (Nat.le_refl _)
  obtain ⟨P1, hP1⟩ : ∃ P1, P1 = sL P nd (if ovN N (xM N) then 0 else 1) ((P.2 nd (if ovN N (xM N) then 0 else 1)) ^^^ ((1 : Int64) <<< ((nI l).toInt64 &&& 63))) := ⟨_, rfl⟩
  have o1 : onlyN nd P P1 := by rw [hP1]; exact (onlyN.rf nd P).l0 _ _
  have f1 : P1.1 = P.1 := by rw [hP1]; rfl
  have c1 : CN nd D (flN (ovN N (xM N)) l N) P1 := by rw [hP1]; exact hC.fl h60 hl _
  have o2 := o1.i1 (xM N) (nI w)
  have o3 := o2.i0 6 (nI (xM N + 1))
  have r5 : (sI (sI P1 (nd + 1) (xM N) (nI w)) nd 6 (nI (xM N + 1))).1 nd 5 = nI (xH N (xM N)) := by
    rw [rowI_s, pk_un (by decide), rowI_o _ _ _ (by omega), f1]; exact e5
  have hot := dr_other hD (hCD.only ha o3) hl hh
  refine ⟨sI (sI (sI P1 (nd + 1) (xM N) (nI w)) nd 6 (nI (xM N + 1))) nd 5 (nI (oth D l (xH N (xM N)))), ?_, ?_, o3.i0 _ _⟩
  · unfold Ne_go
    rw [ne_hind_way hD hCD hN hC hw, hr, e5, dr_lineBy hD hCD hh hw, e, e6]
    simp only [Option.bind_some]
    rw [if_pos (show nI 0 = 0 from rfl), if_neg (nI_pos (by omega)), if_neg (show ¬ (120 : Int32) ≤ nI (xM N) from nI_ge hM (by decide))]
    show (Ne_mark nd (nI l) P).bind _ = _
    rw [ne_mark hC ht (by omega), ← hP1]
    simp only [Option.bind_some]
    rw [show P1.1 nd 6 = nI (xM N) by rw [f1]; exact e6, z_cl (by omega), z_gd (by omega) (by decide)]
    have r6 : (sI P1 (nd + 1) (xM N) (nI w)).1 nd 6 = nI (xM N) := by rw [rowI_o _ _ _ (by omega), f1]; exact e6
    rw [r6, show nI (xM N) + (1 : Int32) = nI (xM N + 1) from nI_1 _, r5]
    show (Dr_otherEnd (ndD nd) (nI l) (nI (xH N (xM N))) _).bind _ = _
    rw [hot]
    rfl
  · obtain ⟨b1, b2, b3, b4, b5, b6⟩ := c1
    refine ⟨b1, b2, ?_, ?_, ?_, fun _ => ?_⟩
    · rw [rowI_s, pk_un (by decide), rowI_s, pk_un (by decide), rowI_o _ _ _ (by omega)]; exact b3
    · rw [rowI_s, pk_un (by decide), rowI_s, pk_un (by decide), rowI_o _ _ _ (by omega)]; exact b4
    · rw [rowI_s, pk_un (by decide), rowI_s, pk_un (by decide), rowI_o _ _ _ (by omega)]; exact b5
    · obtain ⟨d3, d4, d5, d6, d8, d9⟩ := b6 ht
      refine ⟨?_, ?_, ?_, ?_, ?_, fun k hk => ?_⟩
      · rw [rowI_s, pk_un (by decide), rowI_s, pk_un (by decide), rowI_o _ _ _ (by omega)]; exact d3
      · rw [rowI_s, pk_un (by decide), rowI_s, pk_un (by decide), rowI_o _ _ _ (by omega)]; exact d4
      · rw [rowI_s, pk_us]
        show nI (oth D l (xH N (xM N))) = nI (xH (goN N w l) (xM N + 1))
        rw [xH_succ (N := goN N w l) hD (l := l) (by rw [go_H (Nat.le_refl _)]; show lnA D (xH N (xM N)) (if xM N = xM N then w else xD N (xM N)) = some l; rw [if_pos rfl]; exact e), go_H (Nat.le_refl _)]
      · rw [rowI_s, pk_un (by decide), rowI_s, pk_us]; rfl
      · rw [rowI_s, pk_un (by decide), rowI_s, pk_un (by decide), rowI_o _ _ _ (by omega)]; exact d8
      · rw [rowI_o _ _ _ (by omega), rowI_o _ _ _ (by omega), rowI_s]
        show upd (P1.1 (nd + 1)) (xM N) (nI w) k = nI (if k = xM N then w else xD N k)
        by_cases c : k = xM N
        · rw [if_pos c, c, pk_us]
        · rw [if_neg c, pk_un c]
          exact d9 k (by have : k < xM N + 1 := hk; show k < xM N; omega)
theorem ne_go_not (hD : WD D) (hCD : CD (ndD nd) D P) (hN : WN D N) (hC : CN nd D N P) {o : Option Nat} {v : Int32} (hv : ∀ h, h < 144 → Dr_lineBy (ndD nd) (nI h) v P = some (enc (o.bind (lnA D h)))) (hr : rsn D N o ≠ 0) : Ne_go nd v P = some (nI (rsn D N o), P) := by
  have := rsn_le D N o
  unfold Ne_go
  rw [ne_hind hD hCD hN hC o v hv]
  simp only [Option.bind_some]
  rw [if_neg (nI_ne0 (by omega) (by omega))]
theorem ne_back (ha : apt nd) (hD : WD D) (hCD : CD (ndD nd) D P) (hN : WN D N) (hC : CN nd D N P) (ht : xT N = true) (h0 : 0 < xM N) {l : Nat} (e : lnA D (xH N (xM N - 1)) (xD N (xM N - 1)) = some l) :
    ∃ Q, Ne_goBack nd P = some Q ∧ CN nd D (bkN N l) Q ∧ onlyN nd P Q := by
  have h60 := hD.1
  obtain ⟨e1, hl, hat⟩ := lnA_stp e hD
  obtain ⟨n1, n2, n3, n4, n5, n6⟩ := hN ht
  obtain ⟨e3, e4, e5, e6, e8, e9⟩ := hC.2.2.2.2.2 ht
  have hh := WN.hole hD hN ht (xM N - 1) (by omega)
  have hw := (n4 (xM N - 1) (by omega)).1
  have hs : xH N (xM N) = oth D l (xH N (xM N - 1)) := by
    have := xH_succ hD e
    rw [show xM N - 1 + 1 = xM N by omega] at this
    exact this
  obtain ⟨p1, p2, p3, p4⟩ := oth_oth hD hl hat
  have hb := lnA_back hD hh hw e
  rw [← hs] at hb p1 p3
  obtain ⟨v, hv⟩ : ∃ v, v = ovN N (xM N - 1) := ⟨_, rfl⟩
  obtain ⟨P0, hP0⟩ : ∃ P0, P0 = sI P nd 6 (nI (xM N - 1)) := ⟨_, rfl⟩
  obtain ⟨P1, hP1⟩ : ∃ P1, P1 = sL P0 nd (if v then 0 else 1) ((P0.2 nd (if v then 0 else 1)) ^^^ ((1 : Int64) <<< ((nI l).toInt64 &&& 63))) := ⟨_, rfl⟩
  have o0 : onlyN nd P P0 := by rw [hP0]; exact (onlyN.rf nd P).i0 _ _
  have o1 : onlyN nd P P1 := by rw [hP1]; exact o0.l0 _ _
  have f1 : P1.1 = P0.1 := by rw [hP1]; rfl
  have hnx : Ne_nextOver nd P0 = some (if v then 1 else 0) := by
    unfold Ne_nextOver
    rw [hP0, rowI_s, pk_us, pk_un (by decide), e8, show nI (xM N - 1) &&& (1 : Int32) = nI ((xM N - 1) % 2 ^ 1) from fa_mask (xM N - 1) 1, gd1, gd0, hv]
    unfold ovN
    rcases Nat.mod_two_eq_zero_or_one (xM N - 1) with q | q
    · rw [Nat.pow_one, q]
      cases xVf N <;> rfl
    · rw [Nat.pow_one, q]
      cases xVf N <;> rfl
  have hmk : Ne_mark nd (nI l) P0 = some P1 := by
    unfold Ne_mark
    rw [hnx, hP1]
    cases v <;> rfl
  have r5 : P1.1 nd 5 = nI (xH N (xM N)) := by rw [f1, hP0, rowI_s, pk_un (by decide)]; exact e5
  have hot := dr_other hD (hCD.only ha o1) hl p3
  refine ⟨sI P1 nd 5 (nI (xH N (xM N - 1))), ?_, ?_, o1.i0 _ _⟩
  · unfold Ne_goBack Ne_wayOf
    rw [e6, show nI (xM N) - (1 : Int32) = nI (xM N - 1) from z_sub (b := 1) h0, if_neg (nI_pos (by omega)), if_neg (nI_ge (by omega) (by omega)), if_neg (show ¬ (120 : Int32) ≤ nI (xM N - 1) from (show ¬ nI 120 ≤ nI (xM N - 1) from nI_ge (by omega) (by decide))), z_cl (by omega), z_gd (by omega) (by decide), e9 _ (by omega)]
    simp only [Option.bind_some]
    rw [if_neg (show ¬ nI (xD N (xM N - 1)) = (-1 : Int32) from nI_nm (by omega)), e5, show (nI (xD N (xM N - 1)) + (4 : Int32)) &&& (7 : Int32) = nI ((xD N (xM N - 1) + 4) % 8) from by rw [show (4 : Int32) = nI 4 from rfl, nI_add]; exact fa_mask _ 3, dr_lineBy hD hCD (by rw [hs]; rw [hs] at p3; exact p3) (by omega), hb]
    simp only [Option.bind_some]
    show (Ne_mark nd (nI l) (sI P nd 6 (nI (xM N - 1)))).bind _ = _
    rw [← hP0, hmk]
    simp only [Option.bind_some]
    rw [r5]
    show (Dr_otherEnd (ndD nd) (nI l) (nI (xH N (xM N))) P1).bind _ = _
    rw [hot, p1]
    rfl
  · have b1 : ∀ i, i < 64 → bL (P1.2 nd 0) i = (decide (i < dN D) && xO (flN v l N) i) := by
      have := (hC.fl h60 hl v).1
      intro i hi
      rw [← this i hi, hP1, hP0]
      rfl
    have b2 : ∀ i, i < 64 → bL (P1.2 nd 1) i = (decide (i < dN D) && xU (flN v l N) i) := by
      have := (hC.fl h60 hl v).2.1
      intro i hi
      rw [← this i hi, hP1, hP0]
      rfl
    have g : ∀ k, k ≠ 5 → k ≠ 6 → (sI P1 nd 5 (nI (xH N (xM N - 1)))).1 nd k = P.1 nd k := fun k q1 q2 => by rw [rowI_s, pk_un q1, f1, hP0, rowI_s, pk_un q2]
    refine ⟨by rw [hv] at b1; exact b1, by rw [hv] at b2; exact b2, ?_, ?_, ?_, fun _ => ⟨?_, ?_, ?_, ?_, ?_, fun k hk => ?_⟩⟩
    · rw [g 2 (by decide) (by decide)]; exact hC.2.2.1
    · rw [g 7 (by decide) (by decide)]; exact hC.2.2.2.1
    · rw [g 8 (by decide) (by decide)]; exact hC.2.2.2.2.1
    · rw [g 3 (by decide) (by decide)]; exact e3
    · rw [g 4 (by decide) (by decide)]; exact e4
    · rw [rowI_s, pk_us]; rfl
    · rw [rowI_s, pk_un (by decide), f1, hP0, rowI_s, pk_us]; rfl
    · rw [g 8 (by decide) (by decide)]; exact e8
    · rw [rowI_o _ _ _ (by omega), f1, hP0, rowI_o _ _ _ (by omega)]
      exact e9 k (by have : k < xM N - 1 := hk; omega)
end NDL
