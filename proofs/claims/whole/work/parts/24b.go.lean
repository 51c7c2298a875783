/-! A STITCH, AND BACK -/
theorem ct_flip {p : Nat → Bool} {l n : Nat} (hl : l < n) (h : p l = false) : fb_ct (fun i => p i ^^ decide (i = l)) n = fb_ct p n + 1 := by
  have e := fb_ct_upd p true hl
  rw [h] at e
  rw [fb_ct_cong (q := fun k => if k = l then true else p k) (fun k hk => by
    by_cases c : k = l
    · rw [c, h]; simp
    · simp [c])]
  simpa using e
theorem ct_flop {p : Nat → Bool} {l n : Nat} (hl : l < n) (h : p l = true) : fb_ct (fun i => p i ^^ decide (i = l)) n + 1 = fb_ct p n := by
  have e := fb_ct_upd p false hl
  rw [h] at e
  rw [fb_ct_cong (q := fun k => if k = l then false else p k) (fun k hk => by
    by_cases c : k = l
    · rw [c, h]; simp
    · simp [c])]
  simpa using e
theorem fl_wk (N : NT) (v u : Bool) (l i : Nat) : xWk (flN v l N) u i = (xWk N u i ^^ (decide (u = v) && decide (i = l))) := by
  unfold xWk flN
  cases v <;> cases u <;> simp
theorem fl_cnt {D : DT} {N : NT} {v : Bool} {l : Nat} (hl : l < dN D) : (xWk N v l = false → fb_ct (xO (flN v l N)) (dN D) + fb_ct (xU (flN v l N)) (dN D) = fb_ct (xO N) (dN D) + fb_ct (xU N) (dN D) + 1) ∧ (xWk N v l = true → fb_ct (xO (flN v l N)) (dN D) + fb_ct (xU (flN v l N)) (dN D) + 1 = fb_ct (xO N) (dN D) + fb_ct (xU N) (dN D)) := by
  cases v
  · refine ⟨fun h => ?_, fun h => ?_⟩
    · have := ct_flip (p := xU N) hl h
      show fb_ct (xO N) (dN D) + fb_ct (fun i => xU N i ^^ decide (i = l)) (dN D) = _
      omega
    · have := ct_flop (p := xU N) hl h
      show fb_ct (xO N) (dN D) + fb_ct (fun i => xU N i ^^ decide (i = l)) (dN D) + 1 = _
      omega
  · refine ⟨fun h => ?_, fun h => ?_⟩
    · have := ct_flip (p := xO N) hl h
      show fb_ct (fun i => xO N i ^^ decide (i = l)) (dN D) + fb_ct (xU N) (dN D) = _
      omega
    · have := ct_flop (p := xO N) hl h
      show fb_ct (fun i => xO N i ^^ decide (i = l)) (dN D) + fb_ct (xU N) (dN D) + 1 = _
      omega
section GOB
variable {D : DT} {N : NT}
theorem go_H {w l k : Nat} (hk : k ≤ xM N) : xH (goN N w l) k = xH N k := hbN_cong (fun j hj => if_neg (by omega))
theorem go_ov {w l k : Nat} : ovN (goN N w l) k = ovN N k := rfl
theorem bk_ov {l k : Nat} : ovN (bkN N l) k = ovN N k := rfl
theorem most_free (hD : WD D) (hN : WN D N) (ht : xT N = true) {l : Nat} {v : Bool} (hl : l < dN D) (hf : xWk N v l = false) : xM N < 120 := by
  have h1 := (hN ht).2.2.2.2.2
  have h2 := (fl_cnt (D := D) (N := N) (v := v) hl).1 hf
  have h3 := fb_ct_le (xO (flN v l N)) (dN D)
  have h4 := fb_ct_le (xU (flN v l N)) (dN D)
  have h60 := hD.1
  omega
theorem WN.go (hD : WD D) (hN : WN D N) (ht : xT N = true) {w l : Nat} (hw : w < 8) (e : lnA D (xH N (xM N)) w = some l) (hi : dI D l = xIk N) (hf : xWk N (ovN N (xM N)) l = false) : WN D (goN N w l) := by
  have hl := (lnA_stp e hD).2.1
  have hM := most_free hD hN ht hl hf
  obtain ⟨n1, n2, n3, n4, n5, n6⟩ := hN ht
  intro _
  refine ⟨n1, n2, ?_, fun k hk => ?_, fun j k hjk hk hov => ?_, ?_⟩
  · show xM N + 1 ≤ 120
    omega
  · have hk2 : k < xM N + 1 := hk
    rw [go_H (by omega), go_ov]
    show (if k = xM N then w else xD N k) < 8 ∧ ∃ l', lnA D (xH N k) (if k = xM N then w else xD N k) = some l' ∧ dI D l' = xIk N ∧ xWk (flN (ovN N (xM N)) l N) (ovN N k) l' = true
    by_cases c : k = xM N
    · rw [if_pos c, c]
      refine ⟨hw, l, e, hi, ?_⟩
      rw [fl_wk, hf]
      simp
    · rw [if_neg c]
      obtain ⟨a, l', b1, b2, b3⟩ := n4 k (by omega)
      refine ⟨a, l', b1, b2, ?_⟩
      rw [fl_wk, b3]
      by_cases c2 : ovN N k = ovN N (xM N) ∧ l' = l
      · rw [← c2.1, ← c2.2] at hf
        rw [hf] at b3
        cases b3
      · by_cases c3 : ovN N k = ovN N (xM N)
        · have : ¬ l' = l := fun q => c2 ⟨c3, q⟩
          simp [this]
        · simp [c3]
  · have hk2 : k < xM N + 1 := hk
    rw [go_H (by omega), go_H (by omega)]
    show lnA D (xH N j) (if j = xM N then w else xD N j) ≠ lnA D (xH N k) (if k = xM N then w else xD N k)
    rw [if_neg (show ¬ j = xM N by omega)]
    by_cases c : k = xM N
    · rw [if_pos c, c, e]
      obtain ⟨a, l', b1, b2, b3⟩ := n4 j (by omega)
      rw [b1]
      intro q
      cases q
      have hov2 : ovN N j = ovN N k := hov
      rw [hov2, c, hf] at b3
      cases b3
    · rw [if_neg c]
      exact n5 j k hjk (by omega) hov
  · have h2 := (fl_cnt (D := D) (N := N) (v := ovN N (xM N)) hl).1 hf
    show xM N + 1 ≤ fb_ct (xO (flN (ovN N (xM N)) l N)) (dN D) + fb_ct (xU (flN (ovN N (xM N)) l N)) (dN D)
    omega
theorem WN.bk (hD : WD D) (hN : WN D N) (ht : xT N = true) {l : Nat} (h0 : 0 < xM N) (e : lnA D (xH N (xM N - 1)) (xD N (xM N - 1)) = some l) : WN D (bkN N l) := by
  have hl := (lnA_stp e hD).2.1
  obtain ⟨n1, n2, n3, n4, n5, n6⟩ := hN ht
  obtain ⟨a0, l0, a1, a2, a3⟩ := n4 (xM N - 1) (by omega)
  rw [e] at a1
  cases a1
  intro _
  refine ⟨n1, n2, ?_, fun k hk => ?_, fun j k hjk hk hov => ?_, ?_⟩
  · show xM N - 1 ≤ 120
    omega
  · have hk2 : k < xM N - 1 := hk
    obtain ⟨a, l', b1, b2, b3⟩ := n4 k (by omega)
    refine ⟨a, l', b1, b2, ?_⟩
    show xWk (flN (ovN N (xM N - 1)) l N) (ovN N k) l' = true
    rw [fl_wk, b3]
    by_cases c3 : ovN N k = ovN N (xM N - 1)
    · have : ¬ l' = l := fun q => n5 k (xM N - 1) (by omega) (by omega) c3 (by rw [b1, e, q])
      simp [this]
    · simp [c3]
  · have hk2 : k < xM N - 1 := hk
    exact n5 j k hjk (by omega) hov
  · have h2 := (fl_cnt (D := D) (N := N) (v := ovN N (xM N - 1)) hl).2 a3
    show xM N - 1 ≤ fb_ct (xO (flN (ovN N (xM N - 1)) l N)) (dN D) + fb_ct (xU (flN (ovN N (xM N - 1)) l N)) (dN D)
    omega
/-! the reference's: only its row changes -/
def only88 (P Q : PH) : Prop := (∀ n, n ≠ 88 → Q.1 n = P.1 n) ∧ Q.2 = P.2
theorem only88.rf (P : PH) : only88 P P := ⟨fun _ _ => rfl, rfl⟩
theorem only88.tr {P Q R : PH} (h : only88 P Q) (h2 : only88 Q R) : only88 P R := ⟨fun n q => (h2.1 n q).trans (h.1 n q), h2.2.trans h.2⟩
theorem only88.s {P Q : PH} (h : only88 P Q) (k : Nat) (v : Int32) : only88 P (sI Q 88 k v) := ⟨fun n q => (u2_off _ _ q).trans (h.1 n q), h.2⟩
theorem s88 (P : PH) (k : Nat) (v : Int32) : (sI P 88 k v).1 88 = upd (P.1 88) k v := sI_row P 88 k v
/-- what the row tells of the drawing stands while only places of what is worked and of the thread change -/
theorem RD.upd {D : DT} {T : Nat → Int32} (h : RD D T) (h60 : dN D ≤ 60) {k : Nat} {v : Int32} (hk : (1 ≤ k ∧ k < 8) ∨ (392 ≤ k) ∨ ∃ l, l < 60 ∧ k = 8 + 4 * l + 3) : RD D (upd T k v) := by
  refine ⟨?_, fun l hl => ?_, fun hh hlt => ?_⟩
  · rw [pk_un (by rcases hk with q | q | ⟨l, -, q⟩ <;> omega)]; exact h.1
  · obtain ⟨a, b, c⟩ := h.2.1 l hl
    refine ⟨?_, ?_, ?_⟩
    · rw [pk_un (by rcases hk with q | q | ⟨l, -, q⟩ <;> omega)]; exact a
    · rw [pk_un (by rcases hk with q | q | ⟨l, -, q⟩ <;> omega)]; exact b
    · rw [pk_un (by rcases hk with q | q | ⟨l, -, q⟩ <;> omega)]; exact c
  · rw [pk_un (by rcases hk with q | q | ⟨l, q9, q⟩ <;> omega)]; exact h.2.2 hh hlt
theorem xor_face (N : NT) (v : Bool) (l : Nat) : nI (wkN N l) ^^^ (if v then (1 : Int32) else 2) = nI (wkN (flN v l N) l) := by
  have e1 : xO (flN v l N) l = (xO N l ^^ v) := by
    cases v
    · show xO N l = (xO N l ^^ false); simp
    · show (xO N l ^^ decide (l = l)) = (xO N l ^^ true); simp
  have e2 : xU (flN v l N) l = (xU N l ^^ !v) := by
    cases v
    · show (xU N l ^^ decide (l = l)) = (xU N l ^^ !false); simp
    · show xU N l = (xU N l ^^ !true); simp
  unfold wkN
  rw [e1, e2]
  cases v <;> cases xO N l <;> cases xU N l <;> decide
theorem wk_off (N : NT) (v : Bool) {l i : Nat} (h : i ≠ l) : wkN (flN v l N) i = wkN N i := by
  have e1 : xO (flN v l N) i = xO N i := by
    cases v
    · rfl
    · show (xO N i ^^ decide (i = l)) = xO N i; simp [h]
  have e2 : xU (flN v l N) i = xU N i := by
    cases v
    · show (xU N i ^^ decide (i = l)) = xU N i; simp [h]
    · rfl
  unfold wkN
  rw [e1, e2]
theorem mo_turns {P : PH} (hD : WD D) (hR : RN D N (P.1 88)) {l : Nat} (hl : l < dN D) (v : Bool) : Mo_turns (nI l) (if v then 1 else 0) P = some (sI P 88 (8 + 4 * l + 3) (nI (wkN (flN v l N) l))) := by
  have h60 := hD.1
  have r := hR.1 l hl
  unfold Mo_turns
  rw [mo_face]
  simp only [Option.bind_some]
  rw [show ((8 : Int32) + (4 : Int32) * nI l) + (3 : Int32) = nI (8 + 4 * l + 3) from by rw [show (8 : Int32) = nI 8 from rfl, show (4 : Int32) = nI 4 from rfl, show (3 : Int32) = nI 3 from rfl, pk_mul, nI_add, nI_add], z_cl (by omega), z_gd (by omega) (by omega), z_gd (by omega) (by omega), r, xor_face]
theorem RN.fl {T : Nat → Int32} (hR : RN D N T) (h60 : dN D ≤ 60) {l : Nat} (hl : l < dN D) (v : Bool) : RN D (flN v l N) (upd T (8 + 4 * l + 3) (nI (wkN (flN v l N) l))) := by
  refine ⟨fun i hi => ?_, ?_, ?_, fun ht => ?_⟩
  · by_cases c : i = l
    · rw [c, pk_us]
    · rw [pk_un (by omega), wk_off _ _ c]
      exact hR.1 i hi
  · rw [pk_un (by omega)]; exact hR.2.1
  · rw [pk_un (by omega)]; exact hR.2.2.1
  · obtain ⟨a, b, c, d, e⟩ := hR.2.2.2 ht
    refine ⟨?_, ?_, ?_, ?_, fun k hk => ?_⟩
    · rw [pk_un (by omega)]; exact a
    · rw [pk_un (by omega)]; exact b
    · rw [pk_un (by omega)]; exact c
    · rw [pk_un (by omega)]; exact d
    · rw [pk_un (by omega)]; exact e k hk
theorem RN.setM {T : Nat → Int32} (hR : RN D N T) (h60 : dN D ≤ 60) {m : Nat} {f : Nat → Nat} (hf : xT N = true → ∀ k, k < m → T (392 + k) = nI (f k)) : RN D (setM N m f) (upd T 6 (nI m)) := by
  refine ⟨fun i hi => ?_, ?_, ?_, fun ht => ?_⟩
  · rw [pk_un (by omega)]; exact hR.1 i hi
  · rw [pk_un (by omega)]; exact hR.2.1
  · rw [pk_un (by omega)]; exact hR.2.2.1
  · obtain ⟨a, b, c, d, e⟩ := hR.2.2.2 ht
    refine ⟨?_, ?_, ?_, pk_us, fun k hk => ?_⟩
    · rw [pk_un (by omega)]; exact a
    · rw [pk_un (by omega)]; exact b
    · rw [pk_un (by omega)]; exact c
    · rw [pk_un (by omega)]; exact hf ht k hk
theorem RN.done {T : Nat → Int32} (hR : RN D N T) (h60 : dN D ≤ 60) {v : Int32} {m : Nat} (hm : xM N ≤ m) : RN D N (upd T (392 + m) v) := by
  refine ⟨fun i hi => ?_, ?_, ?_, fun ht => ?_⟩
  · rw [pk_un (by omega)]; exact hR.1 i hi
  · rw [pk_un (by omega)]; exact hR.2.1
  · rw [pk_un (by omega)]; exact hR.2.2.1
  · obtain ⟨a, b, c, d, e⟩ := hR.2.2.2 ht
    refine ⟨?_, ?_, ?_, ?_, fun k hk => ?_⟩
    · rw [pk_un (by omega)]; exact a
    · rw [pk_un (by omega)]; exact b
    · rw [pk_un (by omega)]; exact c
    · rw [pk_un (by omega)]; exact d
    · rw [pk_un (by omega)]; exact e k hk
theorem gdf {T : Type} (k N : Nat) (h : k < N) (hN : N < 2147483648) : (gdI (nI k) N : Option T → Option T) = fun o => o := funext (fun _ => z_gd h hN)
theorem mo_goes {P : PH} (hD : WD D) (hN : WN D N) (hRD : RD D (P.1 88)) (hR : RN D N (P.1 88)) (ht : xT N = true) {w l : Nat} (hw : w < 8) (e : lnA D (xH N (xM N)) w = some l) (hf : xWk N (ovN N (xM N)) l = false) :
    ∃ Q, Mo_goes (nI w) P = some Q ∧ RD D (Q.1 88) ∧ RN D (goN N w l) (Q.1 88) ∧ only88 P Q := by
  have h60 := hD.1
  have hl := (lnA_stp e hD).2.1
  have hM := most_free hD hN ht hl hf
  have r6 := mo_6 hR ht
  have R1 := hR.fl h60 hl (ovN N (xM N))
  have r6b : (sI P 88 (8 + 4 * l + 3) (nI (wkN (flN (ovN N (xM N)) l N) l))).1 88 (6 : Int32).toNatClampNeg = nI (xM N) := by
    rw [s88, show (6 : Int32).toNatClampNeg = 6 from rfl, pk_un (by omega)]; exact r6
  have R2 := R1.done h60 (v := nI w) (m := xM N) (Nat.le_refl _)
  have r6c : (sI (sI P 88 (8 + 4 * l + 3) (nI (wkN (flN (ovN N (xM N)) l N) l))) 88 (392 + xM N) (nI w)).1 88 (6 : Int32).toNatClampNeg = nI (xM N) := by
    rw [s88, show (6 : Int32).toNatClampNeg = 6 from rfl, pk_un (by omega)]; exact r6b
  have R3 := R2.setM h60 (m := xM N + 1) (f := fun k => if k = xM N then w else xD N k) (fun ht2 k hk => by
    by_cases c : k = xM N
    · rw [if_pos c, c, pk_us]
    · rw [if_neg c, pk_un (by omega)]
      exact (R1.2.2.2 ht2).2.2.2.2 k (show k < xM N by omega))
  refine ⟨sI (sI (sI P 88 (8 + 4 * l + 3) (nI (wkN (flN (ovN N (xM N)) l N) l))) 88 (392 + xM N) (nI w)) 88 6 (nI (xM N + 1)), ?_, ?_, ?_, (((only88.rf P).s _ _).s _ _).s _ _⟩
  · unfold Mo_goes
    rw [mo_hole hD hN hR ht]
    simp only [Option.bind_some]
    rw [mo_find hD hRD (WN.hole hD hN ht _ (Nat.le_refl _)) hw, e]
    simp only [Option.bind_some]
    rw [r6, mo_isOver hR ht (by omega), show (gdI (6 : Int32) 512 : Option PH → Option PH) = fun o => o from gdf 6 512 (by decide) (by decide)]
    simp only [Option.bind_some]
    show (Mo_turns (nI l) (if ovN N (xM N) then 1 else 0) P).bind _ = _
    rw [mo_turns hD hR hl]
    simp only [Option.bind_some]
    rw [r6b, show (392 : Int32) + nI (xM N) = nI (392 + xM N) from by rw [show (392 : Int32) = nI 392 from rfl, nI_add], z_cl (by omega), z_gd (by omega) (by omega), r6c, show nI (xM N) + (1 : Int32) = nI (xM N + 1) from nI_1 _]
    rfl
  · rw [s88, s88, s88]
    exact ((hRD.upd h60 (Or.inr (Or.inr ⟨l, by omega, rfl⟩))).upd h60 (Or.inr (Or.inl (by omega)))).upd h60 (Or.inl (by omega))
  · rw [s88, s88, s88]
    exact R3
theorem mo_backs {P : PH} (hD : WD D) (hN : WN D N) (hRD : RD D (P.1 88)) (hR : RN D N (P.1 88)) (ht : xT N = true) (h0 : 0 < xM N) {l : Nat} (e : lnA D (xH N (xM N - 1)) (xD N (xM N - 1)) = some l) :
    ∃ Q, Mo_backs P = some Q ∧ RD D (Q.1 88) ∧ RN D (bkN N l) (Q.1 88) ∧ only88 P Q := by
  have h60 := hD.1
  have hl := (lnA_stp e hD).2.1
  obtain ⟨n1, n2, n3, n4, n5, n6⟩ := hN ht
  have r6 := mo_6 hR ht
  have R1 := hR.setM h60 (m := xM N - 1) (f := xD N) (fun ht2 k hk => (hR.2.2.2 ht2).2.2.2.2 k (by omega))
  have hRD1 := hRD.upd h60 (k := 6) (v := nI (xM N - 1)) (Or.inl (by omega))
  have hN1 : WN D (setM N (xM N - 1) (xD N)) := fun _ => ⟨n1, n2, by show xM N - 1 ≤ 120; omega, fun k hk => n4 k (by have : k < xM N - 1 := hk; omega), fun j k hjk hk hov => n5 j k hjk (by have : k < xM N - 1 := hk; omega) hov, by show xM N - 1 ≤ _; exact Nat.le_trans (by omega) n6⟩
  have R2 := R1.fl h60 hl (ovN N (xM N - 1))
  have s6 : (sI P 88 6 (nI (xM N - 1))).1 88 = upd (P.1 88) 6 (nI (xM N - 1)) := s88 _ _ _
  refine ⟨sI (sI P 88 6 (nI (xM N - 1))) 88 (8 + 4 * l + 3) (nI (wkN (flN (ovN N (xM N - 1)) l (setM N (xM N - 1) (xD N))) l)), ?_, ?_, ?_, ((only88.rf P).s _ _).s _ _⟩
  · unfold Mo_backs
    simp only [Option.bind_some]
    rw [r6, show nI (xM N) - (1 : Int32) = nI (xM N - 1) from z_sub (b := 1) h0, show (gdI (6 : Int32) 512 : Option PH → Option PH) = fun o => o from gdf 6 512 (by decide) (by decide)]
    show (Mo_hole (sI P 88 6 (nI (xM N - 1)))).bind _ = _
    have q6 : (sI P 88 6 (nI (xM N - 1))).1 88 6 = nI (xM N - 1) := by rw [s6]; exact pk_us
    have q7 : (sI P 88 6 (nI (xM N - 1))).1 88 (392 + (xM N - 1)) = nI (xD N (xM N - 1)) := by
      rw [s6, pk_un (by omega)]
      exact (hR.2.2.2 ht).2.2.2.2 _ (by omega)
    have eh : Mo_hole (sI P 88 6 (nI (xM N - 1))) = some (nI (xH N (xM N - 1))) := mo_hole hD hN1 (by rw [s6]; exact R1) ht
    rw [eh]
    simp only [Option.bind_some]
    rw [show (6 : Int32).toNatClampNeg = 6 from rfl, q6, show (392 : Int32) + nI (xM N - 1) = nI (392 + (xM N - 1)) from by rw [show (392 : Int32) = nI 392 from rfl, nI_add], z_cl (by omega), z_gd (by omega) (by omega), q7, mo_find hD (by rw [s6]; exact hRD1) (WN.hole hD hN ht _ (by omega)) (n4 _ (by omega)).1, e]
    simp only [Option.bind_some]
    have eo : Mo_isOver (nI (xM N - 1)) (sI P 88 6 (nI (xM N - 1))) = some (if ovN N (xM N - 1) then 1 else 0) := mo_isOver (N := setM N (xM N - 1) (xD N)) (by rw [s6]; exact R1) ht (by omega)
    rw [eo]
    simp only [Option.bind_some]
    show (Mo_turns (nI l) (if ovN N (xM N - 1) then 1 else 0) _).bind _ = _
    rw [mo_turns (N := setM N (xM N - 1) (xD N)) hD (by rw [s6]; exact R1) hl]
    rfl
  · rw [s88, s6]
    exact hRD1.upd h60 (Or.inr (Or.inr ⟨l, by omega, rfl⟩))
  · rw [s88, s6]
    exact R2
end GOB
