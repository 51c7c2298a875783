/-! PLACES -/
section PLC
variable {D : DT} {N : NT} {P : PH} {c : Nat}
noncomputable def okB (D : DT) (N : NT) (c x : Nat) (b : Bool) : Nat := if (barsS D (lO D N c) (lU D N c) x b).1 = 0 then 1 else 0
noncomputable def plF (D : DT) (N : NT) (c x : Nat) : Nat := okB D N c x true + okB D N c x false
theorem okB_i (D : DT) (N : NT) (c x : Nat) (b : Bool) : (if (barsS D (lO D N c) (lU D N c) x b).1 = 0 then (1 : Int32) else 0) = nI (okB D N c x b) := by
  unfold okB
  split <;> rfl
theorem okB_c (D : DT) (N : NT) (c x : Nat) (b : Bool) : okB D N c x b = 0 ∨ okB D N c x b = 1 := by
  unfold okB
  split
  · exact Or.inr rfl
  · exact Or.inl rfl
theorem cls_one (hD : WD D) (hC : CD 3 D P) (hCN : CN 43 D N P) (hc : c < 4) {x : Nat} (hx : x < 144) (b : Bool) : ∃ (y z : Int64) (P1 Q : PH), Ne_openOver 43 (nI c) P = some y ∧ Ne_openUnder 43 (nI c) P = some z ∧ Rs_put y z (nI x) (if b then 1 else 0) P = some P1 ∧ Rs_endsWell P1 = some (nI (okB D N c x b), Q) ∧ only75 P Q := by
  obtain ⟨⟨y, y1, y2⟩, z, z1, z2⟩ := open_bits (nd := 43) hC hCN hc
  obtain ⟨P1, p1, p2, p3⟩ := rs_put (P := P) (O := lO D N c) (U := lU D N c) y2 z2 x b
  obtain ⟨Q, q1, q2⟩ := rs_endsWell hD (hC.keep75 p3) p2 hx
  rw [okB_i] at q1
  exact ⟨y, z, P1, Q, y1, z1, p1, q1, p3.tr q2.o⟩
theorem cls_places (hD : WD D) (hc : c < 4) : ∀ (m k n : Nat) (P : PH), k + m = 144 → m < n → CD 3 D P → CN 43 D N P → ∃ Q, Rs_countPlaces_5 43 (nI c) n (nI (fb_sm (plF D N c) k)) (nI k) P = some (nI (fb_sm (plF D N c) 144), Q) ∧ only75 P Q := by
  intro m
  induction m with
  | zero =>
    intro k n P hk hn hC hCN
    obtain ⟨n, rfl⟩ : ∃ q, n = q + 1 := ⟨n - 1, by omega⟩
    obtain rfl : k = 144 := by omega
    refine ⟨P, ?_, only75.rf P⟩
    unfold Rs_countPlaces_5
    rw [if_pos (by decide)]
  | succ m ih =>
    intro k n P hk hn hC hCN
    obtain ⟨n, rfl⟩ : ∃ q, n = q + 1 := ⟨n - 1, by omega⟩
    have hk9 : k < 144 := by omega
    have k1 : nI k + 1 = nI (k + 1) := nI_1 _
    obtain ⟨y, z, P1, Q1, a1, a2, a3, a4, a5⟩ := cls_one hD hC hCN hc hk9 true
    obtain ⟨y', z', P2, Q2, b1, b2, b3, b4, b5⟩ := cls_one hD (hC.keep75 a5) (hCN.keep75 a5) hc hk9 false
    obtain ⟨Q, e1, e2⟩ := ih (k + 1) n Q2 (by omega) (by omega) ((hC.keep75 a5).keep75 b5) ((hCN.keep75 a5).keep75 b5)
    have a3' : Rs_put y z (nI k) (1 : Int32) P = some P1 := a3
    have b3' : Rs_put y' z' (nI k) (0 : Int32) Q1 = some P2 := b3
    refine ⟨Q, ?_, (a5.tr b5).tr e2⟩
    rw [fb_sm_succ] at e1
    have g43 : ∀ s0 : Nat, s0 = okB D N c k true → Rs_countPlaces_43 (Rs_countPlaces_5 43 (nI c) n) 43 (nI c) (nI k) (nI s0) (nI (fb_sm (plF D N c) k)) Q1 = some (nI (fb_sm (plF D N c) 144), Q) := by
      intro s0 hs
      have e1' : Rs_countPlaces_5 43 (nI c) n (nI (fb_sm (plF D N c) k + s0 + okB D N c k false)) (nI (k + 1)) Q2 = some (nI (fb_sm (plF D N c) 144), Q) := by
        rw [hs, Nat.add_assoc]
        exact e1
      unfold Rs_countPlaces_43
      rw [Option.bind_some, b1, Option.bind_some, b2, Option.bind_some, b3', Option.bind_some, b4, Option.bind_some, nI_add, k1]
      rcases okB_c D N c k false with q | q
      · rw [q] at e1' ⊢
        rw [if_pos (show ((nI 0, Q2) : Int32 × PH).1 = 0 from rfl), Option.bind_some, show nI (fb_sm (plF D N c) k + s0) + (0 : Int32) = nI (fb_sm (plF D N c) k + s0) from Int32.add_zero _]
        exact e1'
      · rw [q] at e1' ⊢
        rw [if_neg (show ¬ ((nI 1, Q2) : Int32 × PH).1 = 0 from (show ¬ nI 1 = 0 by decide)), Option.bind_some, show nI (fb_sm (plF D N c) k + s0) + (1 : Int32) = nI (fb_sm (plF D N c) k + s0 + 1) from nI_1 _]
        exact e1'
    unfold Rs_countPlaces_5
    rw [if_neg (show ¬ (144 : Int32) ≤ nI k from (show ¬ nI 144 ≤ nI k from nI_ge hk9 (by decide))), a1, Option.bind_some, a2, Option.bind_some, a3', Option.bind_some, a4, Option.bind_some]
    rcases okB_c D N c k true with q | q
    · rw [q, if_pos (show ((nI 0, Q1) : Int32 × PH).1 = 0 from rfl)]
      exact g43 0 q.symm
    · rw [q, if_neg (show ¬ ((nI 1, Q1) : Int32 × PH).1 = 0 from (show ¬ nI 1 = 0 by decide))]
      exact g43 1 q.symm
theorem okB_k (D : DT) (N : NT) (c x : Nat) (b : Bool) : (nI (barsS D (lO D N c) (lU D N c) x b).1 = 0) ↔ okB D N c x b = 1 := by
  have := bars_le D (lO D N c) (lU D N c) x b
  unfold okB
  rw [show (0 : Int32) = nI 0 from rfl, nI_eq (by omega) (by omega)]
  split
  · exact ⟨fun _ => rfl, fun _ => by assumption⟩
  · exact ⟨fun q => by omega, fun q => by omega⟩
theorem mo_places_lp (hD : WD D) (hc : c < 4) : ∀ (m k n : Nat) (P : PH), k + m = 144 → m < n → RD D (P.1 88) → RN D N (P.1 88) → ∃ Q, Mo_places_29 (nI c) n (nI (fb_sm (plF D N c) k)) (nI k) P = some (nI (fb_sm (plF D N c) 144), Q) ∧ onlyB P Q := by
  intro m
  induction m with
  | zero =>
    intro k n P hk hn hR hRN
    obtain ⟨n, rfl⟩ : ∃ q, n = q + 1 := ⟨n - 1, by omega⟩
    obtain rfl : k = 144 := by omega
    refine ⟨P, ?_, onlyB.rf P⟩
    unfold Mo_places_29
    rw [if_pos (by decide)]
  | succ m ih =>
    intro k n P hk hn hR hRN
    obtain ⟨n, rfl⟩ : ∃ q, n = q + 1 := ⟨n - 1, by omega⟩
    have hk9 : k < 144 := by omega
    have k1 : nI k + 1 = nI (k + 1) := nI_1 _
    obtain ⟨Q1, a1, a2, -⟩ := mo_bars (N := N) hD hR hRN hk9 hc true
    have r1 : Q1.1 88 = P.1 88 := a2.1 88 (by decide) (by decide) (by decide) (by decide)
    obtain ⟨Q2, b1, b2, -⟩ := mo_bars (N := N) hD (P := Q1) (by rw [r1]; exact hR) (by rw [r1]; exact hRN) hk9 hc false
    have r2 : Q2.1 88 = P.1 88 := (b2.1 88 (by decide) (by decide) (by decide) (by decide)).trans r1
    obtain ⟨Q, e1, e2⟩ := ih (k + 1) n Q2 (by omega) (by omega) (by rw [r2]; exact hR) (by rw [r2]; exact hRN)
    rw [fb_sm_succ] at e1
    have a1' : Mo_bars (nI c) (nI k) (1 : Int32) P = some (nI (barsS D (lO D N c) (lU D N c) k true).1, Q1) := a1
    have b1' : Mo_bars (nI c) (nI k) (0 : Int32) Q1 = some (nI (barsS D (lO D N c) (lU D N c) k false).1, Q2) := b1
    refine ⟨Q, ?_, (a2.tr b2).tr e2⟩
    have g52 : ∀ s0 : Nat, s0 = okB D N c k true → Mo_places_52 (Mo_places_29 (nI c) n) (nI c) (nI k) (nI s0) (nI (fb_sm (plF D N c) k)) Q1 = some (nI (fb_sm (plF D N c) 144), Q) := by
      intro s0 hs
      have e1' : Mo_places_29 (nI c) n (nI (fb_sm (plF D N c) k + (s0 + okB D N c k false))) (nI (k + 1)) Q2 = some (nI (fb_sm (plF D N c) 144), Q) := by
        rw [hs]
        exact e1
      have ok := okB_k D N c k false
      unfold Mo_places_52
      rw [b1', Option.bind_some, k1]
      rcases okB_c D N c k false with q | q
      · rw [q] at e1'
        rw [if_neg (fun z => by have := ok.mp z; omega), Option.bind_some, show nI s0 + (0 : Int32) = nI (s0 + 0) from Int32.add_zero _, nI_add]
        exact e1'
      · rw [q] at e1'
        rw [if_pos (ok.mpr q), Option.bind_some, show nI s0 + (1 : Int32) = nI (s0 + 1) from nI_1 _, nI_add]
        exact e1'
    have ok := okB_k D N c k true
    unfold Mo_places_29
    rw [if_neg (show ¬ (144 : Int32) ≤ nI k from (show ¬ nI 144 ≤ nI k from nI_ge hk9 (by decide))), a1', Option.bind_some]
    rcases okB_c D N c k true with q | q
    · rw [if_neg (fun z => by have := ok.mp z; omega)]
      exact g52 0 q.symm
    · rw [if_pos (ok.mpr q)]
      exact g52 1 q.symm
theorem call_places (h : INVx D N P) (v : Int32) : callQ (Bs_places v P) (Mo_places v) [IAE] P := by
  obtain ⟨hD, hN, hR, hRN, hC, hCN, hRest⟩ := id h
  rcases three v 4 (by decide) with o | ⟨k, hk, rfl⟩
  · refine ⟨(1, 0), P, by decide, ?_, moI.aft h (moI.thr (fun _ => 0) (fun Q hQ => ?_) (fun q => absurd q (by decide)))⟩
    · unfold Bs_places; rw [ckInk_out o]; rfl
    · unfold Mo_places Mo_places_13
      rw [isInk_out o, Option.bind_some, if_pos rfl, Option.bind_some, at5, if_neg (by decide)]
      rfl
  · obtain ⟨P1, e1, e2⟩ := cls_places (N := N) hD hk 144 0 bigN P rfl (big_gt (by omega)) hC hCN
    rw [show fb_sm (plF D N k) 0 = 0 from rfl, show (nI 0 : Int32) = 0 from rfl] at e1
    have h1 : INVx D N P1 := h.scr e2.scr
    refine ⟨(0, nI (fb_sm (plF D N k) 144)), P1, Nat.zero_le _, ?_, moI.aft h1 (fun Q hQ => ?_)⟩
    · unfold Bs_places Rs_countPlaces
      rw [ckInk_in hk, Option.bind_some]
      show (Rs_countPlaces_5 43 (nI k) bigN (0 : Int32) (0 : Int32) P).bind _ = _
      rw [e1, Option.bind_some]
      rfl
    · have q := hQ.s5 (nI 0)
      obtain ⟨Q', c1, c2⟩ := mo_places_lp (N := N) hD hk 144 0 bigN (sI Q 1 5 (nI 0)) rfl (big_gt (by omega)) q.2.2.1 q.2.2.2.1
      rw [show fb_sm (plF D N k) 0 = 0 from rfl, show (nI 0 : Int32) = 0 from rfl] at c1
      refine ⟨_, Q', ?_, ?_, ((scr.rf Q).sI _ rfl).tr c2.scr, by rw [c2.2.2]; rfl, fun _ => rfl⟩
      · unfold Mo_places Mo_places_13
        rw [isInk_in hk, Option.bind_some, if_neg (by decide), Option.bind_some, if_pos (by rw [at5]; decide)]
        exact c1
      · rw [c2.2.1 5 (by decide) (by decide)]; exact at5 _ _
end PLC
