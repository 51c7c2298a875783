/-! WORKING, WORK -/
def onlyW (P Q : PH) : Prop := (∀ n, n ≠ 1 → n ≠ 88 → n ≠ 99 → n ≠ 100 → n ≠ 101 → Q.1 n = P.1 n) ∧ (∀ k, k ≠ 29 → k ≠ 30 → Q.1 1 k = P.1 1 k) ∧ Q.2 = P.2
theorem onlyW.rf (P : PH) : onlyW P P := ⟨fun _ _ _ _ _ _ => rfl, fun _ _ _ => rfl, rfl⟩
theorem onlyW.tr {P Q R : PH} (h : onlyW P Q) (h2 : onlyW Q R) : onlyW P R := ⟨fun n a b c d e => (h2.1 n a b c d e).trans (h.1 n a b c d e), fun k a b => (h2.2.1 k a b).trans (h.2.1 k a b), h2.2.2.trans h.2.2⟩
theorem only88.w {P Q : PH} (h : only88 P Q) : onlyW P Q := ⟨fun n _ b _ _ _ => h.1 n b, fun k _ _ => by rw [h.1 1 (by decide)], h.2⟩
theorem onlyB.w {P Q : PH} (h : onlyB P Q) : onlyW P Q := ⟨fun n a _ c d e => h.1 n a c d e, h.2.1, h.2.2⟩
theorem onlyW.W {P Q : PH} (h : onlyW P Q) : scrW P Q := by
  refine ⟨fun n k q => ?_, fun n k _ => by rw [h.2.2]⟩
  by_cases e : n = 1
  · subst e
    exact h.2.1 k (fun z => by rw [z] at q; exact absurd q (by decide)) (fun z => by rw [z] at q; exact absurd q (by decide))
  · rw [h.1 n e (fun z => by rw [z] at q; unfold wR at q; simp at q) (fun z => by rw [z] at q; unfold wR at q; rw [show iR 99 k = false from rfl] at q; simp at q) (fun z => by rw [z] at q; unfold wR at q; rw [show iR 100 k = false from rfl] at q; simp at q) (fun z => by rw [z] at q; unfold wR at q; rw [show iR 101 k = false from rfl] at q; simp at q)]
theorem go_un0 (o u : Nat → Bool) (c : Int32) (t : Bool) (ik b : Nat) (vf : Bool) (m : Nat) (dn : Nat → Nat) (w l : Nat) : bkN (goN (o, u, c, t, ik, b, vf, m, dn) w l) l = (o, u, c, t, ik, b, vf, m, fun k => if k = m then w else dn k) := by
  have e2 : ∀ p : Nat → Bool, (fun i => (p i ^^ decide (i = l)) ^^ decide (i = l)) = p := fun p => funext (fun i => by cases p i <;> cases decide (i = l) <;> rfl)
  have key : ∀ (v : Bool) (f : Nat → Nat), setM (flN v l (setM (flN v l (o, u, c, t, ik, b, vf, m, dn)) (m + 1) f)) m f = (o, u, c, t, ik, b, vf, m, f) := by
    intro v f
    cases v
    · show (o, (fun i => (u i ^^ decide (i = l)) ^^ decide (i = l)), c, t, ik, b, vf, m, f) = _
      rw [e2]
    · show ((fun i => (o i ^^ decide (i = l)) ^^ decide (i = l)), u, c, t, ik, b, vf, m, f) = _
      rw [e2]
  exact key (vf == decide (m % 2 = 0)) _
theorem RN.unbk {D : DT} {N : NT} {T : Nat → Int32} {w l : Nat} (h : RN D (bkN (goN N w l) l) T) : RN D N T := by
  obtain ⟨o, u, c, t, ik, b, vf, m, dn⟩ := N
  rw [go_un0] at h
  obtain ⟨h1, h2, h3, h4⟩ := h
  refine ⟨h1, h2, h3, fun ht => ?_⟩
  obtain ⟨g1, g2, g3, g4, g5⟩ := h4 ht
  refine ⟨g1, g2, g3, g4, fun k hk => ?_⟩
  have hk : k < m := hk
  have := g5 k hk
  rw [this]
  show nI (if k = m then w else dn k) = nI (dn k)
  rw [if_neg (by omega)]
section WKG
variable {D : DT} {N : NT} {P : PH}
theorem gd_rsn (ht : xT N = true) {w l : Nat} (g : gdl D N w l) : rsn D N (some w) = 0 := by
  obtain ⟨g1, g2, g3⟩ := g
  unfold rsn rsAt
  rw [if_pos ht, show (some w).bind (lnA D (xH N (xM N))) = some l from g1]
  show (if dI D l = xIk N then (if xWk N (ovN N (xM N)) l = true then 3 else 0) else 2) = 0
  rw [if_pos g2, g3]
  rfl
theorem rsn_gd {w : Nat} (h : rsn D N (some w) = 0) : ∃ l, gdl D N w l := by
  obtain ⟨-, w', l, q1, q2, q3, q4⟩ := rsn_0 h
  cases q1
  exact ⟨l, q2, q3, q4⟩
theorem mo_gw (hD : WD D) (hN : WN D N) (ht : xT N = true) {w : Nat} (hw : w < 8) (hR : RD D (P.1 88)) (hRN : RN D N (P.1 88)) : (∀ l, gdl D N w l → wel D (goN N w l) → ∃ Q, Mo_goesWell (nI w) P = some ((1 : Int32), Q) ∧ RD D (Q.1 88) ∧ RN D (goN N w l) (Q.1 88) ∧ onlyW P Q) ∧ (¬ gdw D N w → ∃ Q, Mo_goesWell (nI w) P = some ((0 : Int32), Q) ∧ RD D (Q.1 88) ∧ RN D N (Q.1 88) ∧ onlyW P Q) := by
  have hy := mo_whyNot_way hD hN hR hRN hw
  have go : ∀ l, gdl D N w l → ∃ Q1 Q2, Mo_goes (nI w) P = some Q1 ∧ Mo_barsNow Q1 = some (nI (bsN D (goN N w l)).1, Q2) ∧ RD D (Q2.1 88) ∧ RN D (goN N w l) (Q2.1 88) ∧ onlyW P Q2 := by
    intro l g
    obtain ⟨Q1, a1, a2, a3, a4⟩ := mo_goes hD hN hR hRN ht hw g.1 g.2.2
    obtain ⟨Q2, b1, b2, -⟩ := mo_barsNow hD (gd_go hD hN ht hw g) a2 a3 ht
    have e88 : Q2.1 88 = Q1.1 88 := b2.1 88 (by decide) (by decide) (by decide) (by decide)
    exact ⟨Q1, Q2, a1, b1, by rw [e88]; exact a2, by rw [e88]; exact a3, a4.w.tr b2.w⟩
  refine ⟨fun l g gw => ?_, fun ng => ?_⟩
  · obtain ⟨Q1, Q2, a1, a2, a3, a4, a5⟩ := go l g
    refine ⟨Q2, ?_, a3, a4, a5⟩
    have z : (bsN D (goN N w l)).1 = 0 := gw
    unfold Mo_goesWell
    rw [hy, gd_rsn ht g, Option.bind_some, if_pos (show nI 0 = 0 from rfl), a1, Option.bind_some, a2, Option.bind_some, z, if_pos (show ((nI 0, Q2) : Int32 × PH).1 = 0 from rfl), gd1]
  · by_cases c : rsn D N (some w) = 0
    · obtain ⟨l, g⟩ := rsn_gd c
      obtain ⟨Q1, Q2, a1, a2, a3, a4, a5⟩ := go l g
      have z : ¬ (bsN D (goN N w l)).1 = 0 := fun q => ng ⟨l, g, q⟩
      have zl : (bsN D (goN N w l)).1 ≤ 2 := bars_le _ _ _ _ _
      obtain ⟨Q3, b1, b2, b3, b4⟩ := mo_backs hD (gd_go hD hN ht hw g) a3 a4 ht (Nat.succ_pos _) (l := l) (by
        show lnA D (xH (goN N w l) (xM N)) (if xM N = xM N then w else xD N (xM N)) = some l
        rw [go_H (Nat.le_refl _), if_pos rfl]
        exact g.1)
      refine ⟨Q3, ?_, b2, b3.unbk, a5.tr b4.w⟩
      unfold Mo_goesWell
      rw [hy, c, Option.bind_some, if_pos (show nI 0 = 0 from rfl), a1, Option.bind_some, a2, Option.bind_some, if_neg (show ¬ ((nI (bsN D (goN N w l)).1, Q2) : Int32 × PH).1 = 0 from nI_ne0 (by omega) (by omega))]
      show (Mo_backs Q2).bind _ = _
      rw [b1, Option.bind_some, gd0]
    · have := rsn_le D N (some w)
      refine ⟨P, ?_, hR, hRN, onlyW.rf P⟩
      unfold Mo_goesWell
      rw [hy, Option.bind_some, if_neg (nI_ne0 (by omega) (by omega)), gd0]
theorem mo_w26 (hD : WD D) (hN : WN D N) (ht : xT N = true) {w l : Nat} (hw8 : w < 8) (g : gdl D N w l) (gw : wel D (goN N w l)) (low : ∀ j, j < w → ¬ gdw D N j) (r : Int32 → PH → Option (Int32 × PH)) (v1 : Int32) : ∀ (m k n : Nat) (P : PH), k + m = w → m < n → RD D (P.1 88) → RN D N (P.1 88) → ∃ Q, Mo_works_26 r v1 n (nI k) P = r (v1 + 1) Q ∧ RD D (Q.1 88) ∧ RN D (goN N w l) (Q.1 88) ∧ onlyW P Q := by
  intro m
  induction m with
  | zero =>
    intro k n P hk hn hR hRN
    obtain ⟨n, rfl⟩ : ∃ q, n = q + 1 := ⟨n - 1, by omega⟩
    obtain rfl : k = w := by omega
    obtain ⟨Q, e1, e2, e3, e4⟩ := (mo_gw hD hN ht hw8 hR hRN).1 l g gw
    refine ⟨Q, ?_, e2, e3, e4⟩
    unfold Mo_works_26
    rw [e1, Option.bind_some, if_neg (show ¬ ((1 : Int32), Q).1 = 0 from (show ¬ (1 : Int32) = 0 by decide))]
  | succ m ih =>
    intro k n P hk hn hR hRN
    obtain ⟨n, rfl⟩ : ∃ q, n = q + 1 := ⟨n - 1, by omega⟩
    obtain ⟨Q, e1, e2, e3, e4⟩ := (mo_gw hD hN ht (show k < 8 by omega) hR hRN).2 (low k (by omega))
    obtain ⟨Q', f1, f2, f3, f4⟩ := ih (k + 1) n Q (by omega) (by omega) e2 e3
    refine ⟨Q', ?_, f2, f3, e4.tr f4⟩
    unfold Mo_works_26
    rw [e1, Option.bind_some, if_pos (show ((0 : Int32), Q).1 = 0 from rfl), show nI k + 1 = nI (k + 1) from nI_1 _]
    exact f1
theorem mo_w11 (hD : WD D) : ∀ (m v n : Nat) (N : NT) (P : PH), lft D N (xIk N) (dN D) = m → m < 1000 → m < n → WN D N → xT N = true → wel D N → RD D (P.1 88) → RN D N (P.1 88) → ∃ Q, Mo_works_11 n (nI v) P = some (nI (v + m), Q) ∧ RD D (Q.1 88) ∧ RN D (wkIt D m N) (Q.1 88) ∧ onlyW P Q := by
  intro m
  induction m with
  | zero =>
    intro v n N P hl h9 hn hN ht hw hR hRN
    obtain ⟨n, rfl⟩ : ∃ q, n = q + 1 := ⟨n - 1, by omega⟩
    refine ⟨P, ?_, hR, hRN, onlyW.rf P⟩
    unfold Mo_works_11
    rw [gd3, show P.1 88 (3 : Int32).toNatClampNeg = nI (xIk N) from (hRN.2.2.2 ht).1, mo_leftOf hD hR hRN (hN ht).1, Option.bind_some, hl, if_pos (by decide)]
    rfl
  | succ m ih =>
    intro v n N P hl h9 hn hN ht hw hR hRN
    obtain ⟨n, rfl⟩ : ∃ q, n = q + 1 := ⟨n - 1, by omega⟩
    obtain ⟨w, l, w8, g, gw, low, ew⟩ := wk1_ok hD hN ht hw (by omega)
    have lg := lft_go hD g
    obtain ⟨Q1, a1, a2, a3, a4⟩ := mo_w26 hD hN ht w8 g gw low (Mo_works_11 n) (nI v) w 0 bigN P (by omega) (big_gt (by omega)) hR hRN
    obtain ⟨Q, f1, f2, f3, f4⟩ := ih (v + 1) n (goN N w l) Q1 (by show lft D (goN N w l) (xIk N) (dN D) = m; omega) (by omega) (by omega) (gd_go hD hN ht w8 g) ht gw a2 a3
    refine ⟨Q, ?_, f2, ?_, a4.tr f4⟩
    · unfold Mo_works_11
      rw [gd3, show P.1 88 (3 : Int32).toNatClampNeg = nI (xIk N) from (hRN.2.2.2 ht).1, mo_leftOf hD hR hRN (hN ht).1, Option.bind_some, hl, if_neg (show ¬ nI (m + 1) ≤ (0 : Int32) from (show ¬ nI (m + 1) ≤ nI 0 by rw [z_le (by omega) (by omega)]; omega))]
      rw [show (nI 0 : Int32) = 0 from rfl, show nI v + 1 = nI (v + 1) from nI_1 _, f1, show v + 1 + m = v + (m + 1) by omega] at a1
      exact a1
    · show RN D (wkIt D m (wk1 D N)) (Q.1 88)
      rw [ew]; exact f3
theorem mo_works (hD : WD D) (hN : WN D N) (ht : xT N = true) (hR : RD D (P.1 88)) (hRN : RN D N (P.1 88)) : (wel D N → ∃ Q, Mo_works P = some (nI (lft D N (xIk N) (dN D)), Q) ∧ RD D (Q.1 88) ∧ RN D (wkIt D (lft D N (xIk N) (dN D)) N) (Q.1 88) ∧ onlyW P Q) ∧ (¬ wel D N → ∃ Q, Mo_works P = some ((-1 : Int32), Q) ∧ Q.1 88 = P.1 88 ∧ onlyW P Q) := by
  obtain ⟨Q1, b1, b2, -⟩ := mo_barsNow hD hN hR hRN ht
  have b1 : Mo_barsNow P = some (nI (bsN D N).1, Q1) := b1
  have e88 : Q1.1 88 = P.1 88 := b2.1 88 (by decide) (by decide) (by decide) (by decide)
  have zl : (bsN D N).1 ≤ 2 := bars_le _ _ _ _ _
  have l120 := lft_le D N (xIk N) hD
  refine ⟨fun hw => ?_, fun hw => ?_⟩
  · have z : (bsN D N).1 = 0 := hw
    obtain ⟨Q, f1, f2, f3, f4⟩ := mo_w11 hD (lft D N (xIk N) (dN D)) 0 bigN N Q1 rfl (by omega) (big_gt (by omega)) hN ht hw (by rw [e88]; exact hR) (by rw [e88]; exact hRN)
    rw [Nat.zero_add] at f1
    refine ⟨Q, ?_, f2, f3, b2.w.tr f4⟩
    unfold Mo_works
    rw [b1, Option.bind_some, z, if_pos (show ((nI 0, Q1) : Int32 × PH).1 = 0 from rfl)]
    exact f1
  · have z : ¬ (bsN D N).1 = 0 := hw
    refine ⟨Q1, ?_, e88, b2.w⟩
    unfold Mo_works
    rw [b1, Option.bind_some, if_neg (show ¬ ((nI (bsN D N).1, Q1) : Int32 × PH).1 = 0 from nI_ne0 (by omega) (by omega))]
theorem wkIt_ok (hD : WD D) : ∀ (m : Nat) (N : NT), lft D N (xIk N) (dN D) = m → WN D N → xT N = true → wel D N → WN D (wkIt D m N) ∧ xT (wkIt D m N) = true ∧ xM (wkIt D m N) = xM N + m := by
  intro m
  induction m with
  | zero => exact fun N _ hN ht _ => ⟨hN, ht, rfl⟩
  | succ m ih =>
    intro N hl hN ht hw
    obtain ⟨w, l, w8, g, gw, low, ew⟩ := wk1_ok hD hN ht hw (by omega)
    have lg := lft_go hD g
    obtain ⟨a, b, c⟩ := ih (goN N w l) (by show lft D (goN N w l) (xIk N) (dN D) = m; omega) (gd_go hD hN ht w8 g) ht gw
    have e : wkIt D (m + 1) N = wkIt D m (goN N w l) := by
      show wkIt D m (wk1 D N) = _
      rw [ew]
    rw [e]
    exact ⟨a, b, by rw [c]; show xM N + 1 + m = _; omega⟩
theorem call_working (h : INVx D N P) (v : Int32) : callQ (Bs_working v P) (Mo_working v) [ISE] P := by
  obtain ⟨hD, hN, hR, hRN, hC, hCN, hRest⟩ := id h
  cases ht : xT N with
  | false =>
    refine ⟨(1, 0), P, by decide, ?_, moI.aft h (moI.thr (fun _ => 0) (fun Q hQ => ?_) (fun q => absurd q (by decide)))⟩
    · unfold Bs_working; rw [ckThread hCN, ht]; rfl
    · unfold Mo_working Mo_working_13
      rw [mo_isThere hQ.2.2.2.1, ht, Option.bind_some, if_pos (by decide), Option.bind_some, at5, if_neg (by decide)]
      rfl
  | true =>
    have hM := (hN ht).2.2.1
    obtain ⟨Pa, a1, a2, a3⟩ := rs_behind hD hN hC hCN ht
    have a2 : RSN D N Pa := a2
    have l120 := lft_le D N (xIk N) hD
    have fw := rs_first hD hN ht (hC.keep75 a3) a2
    -- the reference behind, when its row comes back
    have fin : ∀ (P1 P2 : PH) (a : Int32) (Q1 Q2 : PH), INVx D N P1 → out2 P1 P2 → Mo_copies 88 91 (sI P2 1 5 (nI 0)) = some Q1 → (∀ c, c ≠ 91 → Q1.1 c = (sI P2 1 5 (nI 0)).1 c) → Q1.2 = (sI P2 1 5 (nI 0)).2 → (∀ k, k < 512 → Q1.1 91 k = (sI P2 1 5 (nI 0)).1 88 k) → onlyW Q1 Q2 → ∃ Q3, Mo_working_92 a Q2 = some (a, Q3) ∧ Q3.1 1 5 = nI 0 ∧ Q3.2 2 = P2.2 2 ∧ INV Q3 := by
      intro P1 P2 a Q1 Q2 h1 hP2 c1 c2 c3 c4 c5
      have hQ0 := h1.scr (hP2.scr.sI (a := 1) (b := 5) (nI 0) rfl)
      obtain ⟨Q3, k1, k2, k3, k4⟩ := mo_copies (a := 91) (b := 88) (by decide) 512 0 bigN Q2 rfl (big_gt (by omega)) (fun j hj => by omega)
      have ei : ∀ k, k < 512 → Q3.1 88 k = (sI P2 1 5 (nI 0)).1 88 k := fun k hk => by rw [k4 k hk, c5.1 91 (by decide) (by decide) (by decide) (by decide) (by decide), c4 k hk]
      have s1 : scrW (sI P2 1 5 (nI 0)) Q1 := ⟨fun n k q => by rw [c2 n (fun z => by rw [z] at q; cases q)], fun n k q => by rw [c3]⟩
      have s3 : scrW Q2 Q3 := ⟨fun n k q => by rw [k3 n (fun z => by rw [z] at q; unfold wR at q; simp at q)], fun n k q => by rw [k2]⟩
      refine ⟨Q3, ?_, ?_, ?_, D, N, hQ0.back ((s1.tr c5.W).tr s3) ei (fun n hn => ⟨?_, ?_⟩)⟩
      · unfold Mo_working_92
        rw [show Mo_copies 91 88 Q2 = some Q3 from k1, Option.bind_some]
      · rw [k3 1 (by decide), c5.2.1 5 (by decide) (by decide), c2 1 (by decide)]; exact at5 _ _
      · rw [k2, c5.2.2, c3]; rfl
      · rw [k3 n (by omega), c5.1 n (by omega) (by omega) (by omega) (by omega) (by omega), c2 n (by omega)]
      · rw [k2, c5.2.2, c3]
    have head : ∀ (P2 Q1 : PH) (Z : Option (Int32 × PH)), RN D N (P2.1 88) → Mo_copies 88 91 (sI P2 1 5 (nI 0)) = some Q1 → Q1.1 88 6 = nI (xM N) → ((Mo_works Q1).bind fun (x45 : Int32 × PH) =>
      if v = (-1 : Int32) then Mo_working_92 x45.1 x45.2 else if x45.1 = (-1 : Int32) then Mo_working_92 x45.1 x45.2 else
        (Mo_within v.toInt64 (0 : Int64) (((x45.1) - (1 : Int32)).toInt64) x45.2).bind fun (x70 : Int32) =>
        if x70 = 0 then Mo_working_92 (-1 : Int32) x45.2 else gdI (((392 : Int32) + nI (xM N)) + v) 512 <| Mo_working_92 (x45.2.1 88 (((392 : Int32) + nI (xM N)) + v).toNatClampNeg) x45.2) = Z → Mo_working v P2 = Z := by
      intro P2 Q1 Z r c1 c6 hZ
      unfold Mo_working Mo_working_13
      rw [mo_isThere r, ht, Option.bind_some, if_neg (by decide), Option.bind_some, if_pos (show (sI P2 1 5 (0 : Int32)).1 1 5 ≤ 0 by rw [at5]; decide), show Mo_copies 88 91 (sI P2 1 5 (0 : Int32)) = some Q1 from c1, Option.bind_some, gd6, Option.bind_some, show Q1.1 88 (6 : Int32).toNatClampNeg = nI (xM N) from c6]
      exact hZ
    by_cases hw : wel D N
    · obtain ⟨P1, e1, e2, e3, e4⟩ := fw.1 hw
      obtain ⟨k1, k2, k3⟩ := wkIt_ok hD _ N rfl hN ht hw
      generalize hT : lft D N (xIk N) (dN D) = T at *
      have h1 : INVx D N P1 := h.scr (a3.scr.tr e4.scr)
      have out : ∀ P2, out2 P1 P2 → ∃ Q1 Q2, Mo_copies 88 91 (sI P2 1 5 (nI 0)) = some Q1 ∧ (∀ c, c ≠ 91 → Q1.1 c = (sI P2 1 5 (nI 0)).1 c) ∧ Q1.2 = (sI P2 1 5 (nI 0)).2 ∧ (∀ k, k < 512 → Q1.1 91 k = (sI P2 1 5 (nI 0)).1 88 k) ∧ Q1.1 88 6 = nI (xM N) ∧ RN D N (P2.1 88) ∧ Mo_works Q1 = some (nI T, Q2) ∧ RN D (wkIt D T N) (Q2.1 88) ∧ onlyW Q1 Q2 := by
        intro P2 hP2
        have hQ0 := h1.scr (hP2.scr.sI (a := 1) (b := 5) (nI 0) rfl)
        obtain ⟨Q1, d1, d2, d3, d4⟩ := mo_copies (a := 88) (b := 91) (by decide) 512 0 bigN (sI P2 1 5 (nI 0)) rfl (big_gt (by omega)) (fun j hj => by omega)
        have x88 : Q1.1 88 = (sI P2 1 5 (nI 0)).1 88 := d3 88 (by decide)
        obtain ⟨Q2, f1, f2, f3, f4⟩ := (mo_works (P := Q1) hD hN ht (by rw [x88]; exact hQ0.2.2.1) (by rw [x88]; exact hQ0.2.2.2.1)).1 hw
        rw [hT] at f1 f3
        exact ⟨Q1, Q2, d1, d3, d2, d4, by rw [x88]; exact (hQ0.2.2.2.1.2.2.2 ht).2.2.2.1, (h1.scr hP2.scr).2.2.2.1, f1, f3, f4⟩
      by_cases vm : v = m1
      · subst vm
        refine ⟨(0, nI T), P1, Nat.zero_le _, ?_, fun P2 hP2 => ?_⟩
        · unfold Bs_working
          rw [ckThread hCN, ht]
          show (Rs_behind 43 P).bind _ = _
          rw [a1, Option.bind_some, e1, Option.bind_some, if_pos (show m1 = (-1 : Int32) from rfl)]
          rfl
        · obtain ⟨Q1, Q2, c1, c2, c3, c4, c5, c6, c7, c8, c9⟩ := out P2 hP2
          obtain ⟨Q3, g1, g2, g3, g4⟩ := fin P1 P2 (nI T) Q1 Q2 h1 hP2 c1 c2 c3 c4 c9
          refine ⟨nI T, Q3, head P2 Q1 _ c6 c1 c5 ?_, g2, g3, fun _ => rfl, g4⟩
          rw [c7, Option.bind_some, if_pos (show m1 = (-1 : Int32) from rfl)]
          exact g1
      · have vm' : ¬ v = (-1 : Int32) := vm
        rcases three v T (by omega) with o | ⟨j, hj, rfl⟩
        · refine ⟨(0, m1), P1, Nat.zero_le _, ?_, fun P2 hP2 => ?_⟩
          · unfold Bs_working Rs_wayOf
            rw [ckThread hCN, ht]
            show (Rs_behind 43 P).bind _ = _
            rw [a1, Option.bind_some, e1, Option.bind_some, if_neg vm', e3]
            rcases o with o | o
            · rw [if_pos o]; rfl
            · rw [if_neg (big_not (by omega) o).1, if_pos o]; rfl
          · obtain ⟨Q1, Q2, c1, c2, c3, c4, c5, c6, c7, c8, c9⟩ := out P2 hP2
            obtain ⟨Q3, g1, g2, g3, g4⟩ := fin P1 P2 m1 Q1 Q2 h1 hP2 c1 c2 c3 c4 c9
            refine ⟨m1, Q3, head P2 Q1 _ c6 c1 c5 ?_, g2, g3, fun _ => rfl, g4⟩
            rw [c7, Option.bind_some, if_neg vm', if_neg (show ¬ nI T = (-1 : Int32) from nI_nm (by omega)), win_n T (by omega), if_neg (fun q => by
              rcases o with o | o
              · rw [fa_lt] at o; rw [fa_le] at q; omega
              · rw [fa_le] at o; rw [fa_lt] at q; omega), Option.bind_some, if_pos rfl]
            exact g1
        · refine ⟨(0, nI (xD (wkIt D T N) (xM N + j))), P1, Nat.zero_le _, ?_, fun P2 hP2 => ?_⟩
          · unfold Bs_working Rs_wayOf
            rw [ckThread hCN, ht]
            show (Rs_behind 43 P).bind _ = _
            rw [a1, Option.bind_some, e1, Option.bind_some, if_neg vm', e3, if_neg (nI_pos (by omega)), if_neg (nI_ge (by omega) (by omega)), if_neg (show ¬ (120 : Int32) ≤ nI j from (show ¬ nI 120 ≤ nI j from nI_ge (by omega) (by decide))), z_gd (by omega) (by decide), z_cl (by omega), e2 j hj]
            rfl
          · obtain ⟨Q1, Q2, c1, c2, c3, c4, c5, c6, c7, c8, c9⟩ := out P2 hP2
            have hM2 := (k1 k2).2.2.1
            obtain ⟨Q3, g1, g2, g3, g4⟩ := fin P1 P2 (nI (xD (wkIt D T N) (xM N + j))) Q1 Q2 h1 hP2 c1 c2 c3 c4 c9
            have rd := (c8.2.2.2 k2).2.2.2.2 (xM N + j) (by omega)
            refine ⟨_, Q3, head P2 Q1 _ c6 c1 c5 ?_, g2, g3, fun _ => rfl, g4⟩
            rw [c7, Option.bind_some, if_neg vm', if_neg (show ¬ nI T = (-1 : Int32) from nI_nm (by omega)), win_n T (by omega), if_pos ⟨nI_pos' (by omega), nI_lt hj (by omega)⟩, Option.bind_some, if_neg (by decide), show ((392 : Int32) + nI (xM N)) + nI j = nI (392 + (xM N + j)) from by rw [show (392 : Int32) = nI 392 from rfl, nI_add, nI_add, Nat.add_assoc], z_gd (by omega) (by decide), z_cl (by omega)]
            show Mo_working_92 (Q2.1 88 (392 + (xM N + j))) Q2 = _
            rw [rd]
            exact g1
    · obtain ⟨P1, e1, e3, e4⟩ := fw.2 hw
      have h1 : INVx D N P1 := h.scr (a3.scr.tr e4.scr)
      refine ⟨(0, m1), P1, Nat.zero_le _, ?_, fun P2 hP2 => ?_⟩
      · unfold Bs_working Rs_wayOf
        rw [ckThread hCN, ht]
        show (Rs_behind 43 P).bind _ = _
        rw [a1, Option.bind_some, e1, Option.bind_some, e3]
        by_cases vm : v = (-1 : Int32)
        · rw [if_pos vm]; rfl
        · rw [if_neg vm]
          by_cases o : v < 0
          · rw [if_pos o]; rfl
          · rw [if_neg o, if_pos (by rw [fa_le]; rw [fa_lt] at o; omega)]; rfl
      · have hQ0 := h1.scr (hP2.scr.sI (a := 1) (b := 5) (nI 0) rfl)
        obtain ⟨Q1, d1, d2, d3, d4⟩ := mo_copies (a := 88) (b := 91) (by decide) 512 0 bigN (sI P2 1 5 (nI 0)) rfl (big_gt (by omega)) (fun j hj => by omega)
        have x88 : Q1.1 88 = (sI P2 1 5 (nI 0)).1 88 := d3 88 (by decide)
        obtain ⟨Q2, f1, f2, f4⟩ := (mo_works (P := Q1) hD hN ht (by rw [x88]; exact hQ0.2.2.1) (by rw [x88]; exact hQ0.2.2.2.1)).2 hw
        obtain ⟨Q3, g1, g2, g3, g4⟩ := fin P1 P2 m1 Q1 Q2 h1 hP2 d1 d3 d2 d4 f4
        refine ⟨m1, Q3, head P2 Q1 _ (h1.scr hP2.scr).2.2.2.1 d1 (by rw [x88]; exact (hQ0.2.2.2.1.2.2.2 ht).2.2.2.1) ?_, g2, g3, fun _ => rfl, g4⟩
        rw [f1, Option.bind_some]
        by_cases vm : v = (-1 : Int32)
        · rw [if_pos vm]; exact g1
        · rw [if_neg vm, if_pos (show ((-1 : Int32), Q2).1 = (-1 : Int32) from rfl)]; exact g1
theorem cls_work (hD : WD D) {T : Nat} (hT : T ≤ 120) : ∀ (m k n : Nat) (N : NT) (P : PH), k + m = T → m < n → WN D N → xT N = true → wel D N → lft D N (xIk N) (dN D) = m → CD 3 D P → CN 43 D N P → P.1 75 9 = nI T → (∀ j, j < m → P.1 76 (k + j) = nI (xD (wkIt D m N) (xM N + j))) → ∃ Q, Bs_work_25 (nI T) n (nI k) P = some (Sum.inr (nI T), Q) ∧ CN 43 D (wkIt D m N) Q ∧ onlyN 43 P Q := by
  intro m
  induction m with
  | zero =>
    intro k n N P hk hn hN ht hw hl hC hCN h9 h76
    obtain ⟨n, rfl⟩ : ∃ q, n = q + 1 := ⟨n - 1, by omega⟩
    obtain rfl : k = T := by omega
    refine ⟨P, ?_, hCN, onlyN.rf 43 P⟩
    unfold Bs_work_25
    rw [if_pos (by rw [z_le (by omega) (by omega)]; exact Nat.le_refl _)]
  | succ m ih =>
    intro k n N P hk hn hN ht hw hl hC hCN h9 h76
    obtain ⟨n, rfl⟩ : ∃ q, n = q + 1 := ⟨n - 1, by omega⟩
    obtain ⟨w, l, w8, g, gw, low, ew⟩ := wk1_ok hD hN ht hw (by omega)
    have lg := lft_go hD g
    have eI : wkIt D (m + 1) N = wkIt D m (goN N w l) := by
      show wkIt D m (wk1 D N) = _
      rw [ew]
    have r0 : P.1 76 k = nI w := by
      have := h76 0 (by omega)
      rw [eI, Nat.add_zero, Nat.add_zero, wkIt_D m (goN N w l) (xM N) (Nat.lt_succ_self _)] at this
      rw [this]
      show nI (if xM N = xM N then w else xD N (xM N)) = nI w
      rw [if_pos rfl]
    obtain ⟨P1, g1, g2, g3⟩ := ne_go (nd := 43) apt43 hD hC hN hCN w8 (gd_rsn ht g) g.1
    obtain ⟨Q, f1, f2, f3⟩ := ih (k + 1) n (goN N w l) P1 (by omega) (by omega) (gd_go hD hN ht w8 g) ht gw (by show lft D (goN N w l) (xIk N) (dN D) = m; omega) (hC.only (nd := 43) apt43 g3) g2 (by rw [g3.1 75 (by decide) (by decide)]; exact h9) (fun j hj => by
      rw [g3.1 76 (by decide) (by decide), show k + 1 + j = k + (j + 1) by omega, h76 (j + 1) (by omega), eI]
      show nI (xD (wkIt D m (goN N w l)) (xM N + (j + 1))) = nI (xD (wkIt D m (goN N w l)) (xM N + 1 + j))
      rw [show xM N + 1 + j = xM N + (j + 1) by omega])
    refine ⟨Q, ?_, by rw [eI]; exact f2, g3.tr f3⟩
    unfold Bs_work_25 Rs_wayOf
    rw [if_neg (nI_ge (by omega) (by omega)), if_neg (nI_pos (by omega)), h9, if_neg (nI_ge (by omega) (by omega)), if_neg (show ¬ (120 : Int32) ≤ nI k from (show ¬ nI 120 ≤ nI k from nI_ge (by omega) (by decide))), z_gd (by omega) (by decide), z_cl (by omega), r0, Option.bind_some, g1, Option.bind_some, show nI k + 1 = nI (k + 1) from nI_1 _]
    exact f1
theorem call_work (h : INVx D N P) : callQ (Bs_work P) Mo_work [ISE] P := by
  obtain ⟨hD, hN, hR, hRN, hC, hCN, hRest⟩ := id h
  cases ht : xT N with
  | false =>
    refine ⟨(1, 0), P, by decide, ?_, moI.aft h (moI.thr (fun _ => 0) (fun Q hQ => ?_) (fun q => absurd q (by decide)))⟩
    · unfold Bs_work; rw [ckThread hCN, ht]; rfl
    · unfold Mo_work Mo_work_13
      rw [mo_isThere hQ.2.2.2.1, ht, Option.bind_some, if_pos (by decide), Option.bind_some, at5, if_neg (by decide)]
      rfl
  | true =>
    obtain ⟨Pa, a1, a2, a3⟩ := rs_behind hD hN hC hCN ht
    have a2 : RSN D N Pa := a2
    have l120 := lft_le D N (xIk N) hD
    have fw := rs_first hD hN ht (hC.keep75 a3) a2
    have head : ∀ (P2 : PH), RN D N (P2.1 88) → Mo_work P2 = (Mo_works (sI P2 1 5 (nI 0))).bind fun (x28 : Int32 × PH) => some (x28.1, x28.2) := by
      intro P2 r
      unfold Mo_work Mo_work_13
      rw [mo_isThere r, ht, Option.bind_some, if_neg (by decide), Option.bind_some, if_pos (show (sI P2 1 5 (0 : Int32)).1 1 5 ≤ 0 by rw [at5]; decide)]
      rfl
    by_cases hw : wel D N
    · obtain ⟨Pb, e1, e2, e3, e4⟩ := fw.1 hw
      obtain ⟨k1, k2, k3⟩ := wkIt_ok hD _ N rfl hN ht hw
      have hb : INVx D N Pb := h.scr (a3.scr.tr e4.scr)
      obtain ⟨P1, f1, f2, f3⟩ := cls_work hD l120 (lft D N (xIk N) (dN D)) 0 bigN N Pb (by omega) (big_gt (by omega)) hN ht hw rfl hb.2.2.2.2.1 hb.2.2.2.2.2.1 e3 (fun j hj => by rw [Nat.zero_add]; exact e2 j hj)
      refine ⟨(0, nI (lft D N (xIk N) (dN D))), P1, Nat.zero_le _, ?_, fun P2 hP2 => ?_⟩
      · unfold Bs_work
        rw [ckThread hCN, ht]
        show (Rs_behind 43 P).bind _ = _
        rw [a1, Option.bind_some, e1, Option.bind_some]
        exact f1
      · have e88 := row88 (v := nI 0) f3 hP2
        have rr : P2.1 88 = Pb.1 88 := by rw [hP2.1, f3.1 88 (by decide) (by decide)]
        obtain ⟨Q, q1, q2, q3, q4⟩ := (mo_works (P := sI P2 1 5 (nI 0)) hD hN ht (by rw [e88]; exact hb.2.2.1) (by rw [e88]; exact hb.2.2.2.1)).1 hw
        have s1 : scr P1 (sI P2 1 5 (nI 0)) := hP2.scr.sI _ rfl
        refine ⟨_, Q, ?_, ?_, ?_, fun _ => rfl, D, wkIt D (lft D N (xIk N) (dN D)) N, hb.cells k1 (f3.W.tr (s1.W.tr q4.W)) q2 q3 (fun n a b => ⟨?_, ?_⟩) ?_⟩
        · rw [head P2 (by rw [rr]; exact hb.2.2.2.1), q1, Option.bind_some]
        · rw [q4.2.1 5 (by decide) (by decide)]; exact at5 _ _
        · rw [q4.2.2]; rfl
        · rw [q4.1 n (by omega) (by omega) (by omega) (by omega) (by omega), off5 _ _ (by omega), hP2.1, f3.1 n (by omega) (by omega)]
        · rw [q4.2.2]
          show P2.2 n = Pb.2 n
          rw [hP2.2 n (by omega), f3.2 n (by omega)]
        · have g2' := f2.scr s1 (iR_rg (by omega)) (iR_rg (by omega)) (iL_rg (by omega))
          exact g2'.rows (q4.1 43 (by decide) (by decide) (by decide) (by decide) (by decide)) (q4.1 44 (by decide) (by decide) (by decide) (by decide) (by decide)) (by rw [q4.2.2])
    · obtain ⟨P1, e1, e3, e4⟩ := fw.2 hw
      have h1 : INVx D N P1 := h.scr (a3.scr.tr e4.scr)
      refine ⟨(0, m1), P1, Nat.zero_le _, ?_, fun P2 hP2 => ?_⟩
      · obtain ⟨n, hn⟩ : ∃ n, bigN = n + 1 := ⟨1099511627775, rfl⟩
        unfold Bs_work
        rw [ckThread hCN, ht]
        show (Rs_behind 43 P).bind _ = _
        rw [a1, Option.bind_some, e1, Option.bind_some, hn]
        unfold Bs_work_25
        rw [if_pos (show ((-1 : Int32), P1).1 ≤ (0 : Int32) from (show (-1 : Int32) ≤ 0 by decide))]
        rfl
      · have hQ0 := h1.scr (hP2.scr.sI (a := 1) (b := 5) (nI 0) rfl)
        obtain ⟨Q2, f1, f2, f4⟩ := (mo_works (P := sI P2 1 5 (nI 0)) hD hN ht hQ0.2.2.1 hQ0.2.2.2.1).2 hw
        refine ⟨m1, Q2, ?_, ?_, ?_, fun _ => rfl, D, N, hQ0.back f4.W (fun k _ => by rw [f2]) (fun n hn => ⟨f4.1 n (by omega) (by omega) (by omega) (by omega) (by omega), by rw [f4.2.2]⟩)⟩
        · rw [head P2 (h1.scr hP2.scr).2.2.2.1, f1, Option.bind_some]
          rfl
        · rw [f4.2.1 5 (by decide) (by decide)]; exact at5 _ _
        · rw [f4.2.2]; rfl
end WKG
