/-! FEED -/
def byt (w : Int32) (s : Nat) : Int32 := ((w.toUInt32 >>> ((nI s).toUInt32 &&& Int32.toUInt32 31)).toInt32) &&& 255
theorem byt_n (w : Int32) (s : Nat) : ∃ b : Nat, b < 256 ∧ byt w s = nI b := by
  obtain ⟨n, hn, e⟩ := wb_of32 ((w.toUInt32 >>> ((nI s).toUInt32 &&& Int32.toUInt32 31)).toInt32)
  refine ⟨n % 2 ^ 8, Nat.mod_lt _ (by decide), ?_⟩
  unfold byt
  rw [e]
  exact fa_mask n 8
theorem byt_c (w : Int32) {s : Nat} (hs : s ≤ 24) : vp_nar .byte ((w >>> (nI s &&& 31)).toInt8.toInt32) &&& 255 = byt w s := by
  rw [pk_vb, bp_b]
  unfold byt
  refine b_ext (fun i hi => ?_)
  rw [b_and, b_and, b_255, b_sshr s (by omega) w hi, b_ushr s (by omega)]
  by_cases c : i < 8
  · rw [if_pos (by omega)]
  · rw [decide_eq_false c, Bool.and_false, Bool.and_false]
def oF (P Q : PH) : Prop := (∀ n, n ≠ 71 → n ≠ 72 → Q.1 n = P.1 n) ∧ Q.2 = P.2
theorem oF.rf (P : PH) : oF P P := ⟨fun _ _ _ => rfl, rfl⟩
theorem oF.tr {P Q R : PH} (h : oF P Q) (h2 : oF Q R) : oF P R := ⟨fun n a b => (h2.1 n a b).trans (h.1 n a b), h2.2.trans h.2⟩
section FEE
variable {D : DT} {N : NT} {P : PH}
theorem tk_step (v : Int32) {s f n : Nat} (hs : s ≤ 24) (hf : f < 700) (h0 : P.1 71 0 = nI f) : Re_take_3 v (n + 1) (nI s) P = Re_take_3 v n (nI s + (-8)) (sI (sI P 72 f (vp_nar .byte ((v >>> (nI s &&& 31)).toInt8.toInt32))) 71 0 (nI (f + 1))) := by
  conv => lhs; unfold Re_take_3
  rw [if_neg (nI_pos (by omega)), h0, if_neg (nI_pos (by omega)), if_neg (show ¬ (700 : Int32) ≤ nI f from (show ¬ nI 700 ≤ nI f from nI_ge hf (by decide))), z_gd hf (by decide), z_cl (by omega), Option.bind_some, rowI_o _ _ _ (by decide), h0, Option.bind_some, show nI f + (1 : Int32) = nI (f + 1) from nI_1 _]
theorem re_take (v : Int32) {f : Nat} (hf : f + 4 ≤ 700) (h0 : P.1 71 0 = nI f) : ∃ Q, Re_take v P = some Q ∧ Q.1 71 0 = nI (f + 4) ∧ (∀ j, j < f → Q.1 72 j = P.1 72 j) ∧ (∀ j, j < 4 → Q.1 72 (f + j) &&& 255 = byt v (24 - 8 * j)) ∧ oF P Q := by
  have st : ∀ (P : PH) (g x : Nat) (s : Nat), s ≤ 24 → x = f + g → g < 4 → P.1 71 0 = nI x → ∃ P1, (∀ n, Re_take_3 v (n + 1) (nI s) P = Re_take_3 v n (nI s + (-8)) P1) ∧ P1.1 71 0 = nI (x + 1) ∧ (∀ j, j ≠ x → P1.1 72 j = P.1 72 j) ∧ P1.1 72 x &&& 255 = byt v s ∧ oF P P1 := by
    intro P g x s hs hx hg h0
    refine ⟨_, fun n => tk_step v hs (by omega) h0, ?_, fun j hj => ?_, ?_, fun n a b => ?_, rfl⟩
    · rw [rowI_s, pk_us]
    · rw [rowI_o _ _ _ (by decide), rowI_s, pk_un hj]
    · rw [rowI_o _ _ _ (by decide), rowI_s, pk_us]; exact byt_c v hs
    · rw [rowI_o _ _ _ a, rowI_o _ _ _ b]
  obtain ⟨P1, a1, a2, a3, a4, a5⟩ := st P 0 f 24 (by omega) rfl (by omega) h0
  obtain ⟨P2, b1, b2, b3, b4, b5⟩ := st P1 1 (f + 1) 16 (by omega) rfl (by omega) a2
  obtain ⟨P3, c1, c2, c3, c4, c5⟩ := st P2 2 (f + 1 + 1) 8 (by omega) rfl (by omega) b2
  obtain ⟨P4, d1, d2, d3, d4, d5⟩ := st P3 3 (f + 1 + 1 + 1) 0 (by omega) rfl (by omega) c2
  refine ⟨P4, ?_, d2, fun j hj => ?_, fun j hj => ?_, ((a5.tr b5).tr c5).tr d5⟩
  · obtain ⟨n, hn⟩ : ∃ n, bigN = n + 5 := ⟨1099511627771, rfl⟩
    unfold Re_take
    rw [hn, show (24 : Int32) = nI 24 from rfl, a1, show nI 24 + (-8 : Int32) = nI 16 by decide, b1, show nI 16 + (-8 : Int32) = nI 8 by decide, c1, show nI 8 + (-8 : Int32) = nI 0 by decide, d1]
    unfold Re_take_3
    rw [if_pos (by decide)]
  · rw [d3 j (by omega), c3 j (by omega), b3 j (by omega), a3 j (by omega)]
  · rcases (show j = 0 ∨ j = 1 ∨ j = 2 ∨ j = 3 by omega) with rfl | rfl | rfl | rfl
    · rw [d3 _ (by omega), c3 _ (by omega), b3 _ (by omega)]; exact a4
    · rw [d3 _ (by omega), c3 _ (by omega)]; exact b4
    · rw [d3 _ (by omega)]; exact c4
    · exact d4
def fwd5 (v1 v2 v3 v4 v5 : Int32) (k : Nat) : Int32 := if k < 4 then v1 else if k < 8 then v2 else if k < 12 then v3 else if k < 16 then v4 else v5
def oG (P Q : PH) : Prop := (∀ n, n ≠ 1 → n ≠ 93 → Q.1 n = P.1 n) ∧ (∀ k, k ≠ 7 → Q.1 1 k = P.1 1 k) ∧ Q.2 = P.2
theorem oG.rf (P : PH) : oG P P := ⟨fun _ _ _ => rfl, fun _ _ => rfl, rfl⟩
theorem oG.tr {P Q R : PH} (h : oG P Q) (h2 : oG Q R) : oG P R := ⟨fun n a b => (h2.1 n a b).trans (h.1 n a b), fun k a => (h2.2.1 k a).trans (h.2.1 k a), h2.2.2.trans h.2.2⟩
theorem mo_feed_lp (v1 v2 v3 v4 v5 : Int32) {f0 : Nat} (hf : f0 + 20 ≤ 700) : ∀ (m k n : Nat) (P : PH), k + m = 20 → m < n → P.1 1 7 = nI (f0 + k) → ∃ Q, Mo_feed_23 v1 v2 v3 v4 v5 n (nI k) P = some (nI (f0 + 20), Q) ∧ Q.1 1 7 = nI (f0 + 20) ∧ (∀ j, j < f0 + k → Q.1 93 j = P.1 93 j) ∧ (∀ j, k ≤ j → j < 20 → Q.1 93 (f0 + j) = byt (fwd5 v1 v2 v3 v4 v5 j) (24 - 8 * (j % 4))) ∧ oG P Q := by
  intro m
  induction m with
  | zero =>
    intro k n P hk hn h7
    obtain ⟨n, rfl⟩ : ∃ q, n = q + 1 := ⟨n - 1, by omega⟩
    obtain rfl : k = 20 := by omega
    refine ⟨P, ?_, h7, fun _ _ => rfl, fun j a b => by omega, oG.rf P⟩
    unfold Mo_feed_23
    rw [if_pos (by decide), h7]
  | succ m ih =>
    intro k n P hk hn h7
    obtain ⟨n, rfl⟩ : ∃ q, n = q + 1 := ⟨n - 1, by omega⟩
    have k9 : k < 20 := by omega
    obtain ⟨P1, hP1⟩ : ∃ P1, P1 = sI (sI P 93 (f0 + k) (byt (fwd5 v1 v2 v3 v4 v5 k) (24 - 8 * (k % 4)))) 1 7 (nI (f0 + (k + 1))) := ⟨_, rfl⟩
    have o1 : oG P P1 := ⟨fun n a b => by rw [hP1, rowI_o _ _ _ a, rowI_o _ _ _ b], fun j a => by rw [hP1, rowI_s, pk_un a, rowI_o _ _ _ (by decide)], by rw [hP1]; rfl⟩
    have r93 : P1.1 93 = upd (P.1 93) (f0 + k) (byt (fwd5 v1 v2 v3 v4 v5 k) (24 - 8 * (k % 4))) := by rw [hP1, rowI_o _ _ _ (by decide), rowI_s]
    obtain ⟨Q, e1, e2, e3, e4, e5⟩ := ih (k + 1) n P1 (by omega) (by omega) (by rw [hP1, rowI_s, pk_us])
    refine ⟨Q, ?_, e2, fun j hj => ?_, fun j a b => ?_, o1.tr e5⟩
    · have g : ∀ s0 : Int32, s0 = fwd5 v1 v2 v3 v4 v5 k → Mo_feed_76 (Mo_feed_23 v1 v2 v3 v4 v5 n) v1 v2 v3 v4 v5 (nI k) s0 P = some (nI (f0 + 20), Q) := by
        intro s0 hs
        have es : (24 : Int32) - ((8 : Int32) * (nI k &&& (3 : Int32))) = nI (24 - 8 * (k % 4)) := by
          rw [show nI k &&& (3 : Int32) = nI (k % 2 ^ 2) from fa_mask k 2, show (8 : Int32) = nI 8 from rfl, pk_mul]
          exact z_sub (a := 24) (by omega)
        unfold Mo_feed_76
        rw [h7, z_gd (by omega) (by decide), z_cl (by omega), es, Option.bind_some, rowI_o _ _ _ (by decide), h7, Option.bind_some, show nI (f0 + k) + (1 : Int32) = nI (f0 + (k + 1)) from nI_1 _, show nI k + 1 = nI (k + 1) from nI_1 _, hs]
        rw [hP1] at e1
        exact e1
      unfold fwd5 at g
      unfold Mo_feed_23
      rw [if_neg (show ¬ (20 : Int32) ≤ nI k from (show ¬ nI 20 ≤ nI k from nI_ge k9 (by decide)))]
      by_cases c4 : k < 4
      · rw [if_neg (show ¬ (4 : Int32) ≤ nI k from (show ¬ nI 4 ≤ nI k from nI_ge c4 (by decide)))]
        exact g v1 (by rw [if_pos c4])
      · rw [if_pos (show (4 : Int32) ≤ nI k from (show nI 4 ≤ nI k by rw [z_le (by omega) (by omega)]; omega))]
        by_cases c8 : k < 8
        · rw [if_neg (show ¬ (8 : Int32) ≤ nI k from (show ¬ nI 8 ≤ nI k from nI_ge c8 (by decide)))]
          exact g v2 (by rw [if_neg c4, if_pos c8])
        · rw [if_pos (show (8 : Int32) ≤ nI k from (show nI 8 ≤ nI k by rw [z_le (by omega) (by omega)]; omega))]
          by_cases c12 : k < 12
          · rw [if_neg (show ¬ (12 : Int32) ≤ nI k from (show ¬ nI 12 ≤ nI k from nI_ge c12 (by decide)))]
            exact g v3 (by rw [if_neg c4, if_neg c8, if_pos c12])
          · rw [if_pos (show (12 : Int32) ≤ nI k from (show nI 12 ≤ nI k by rw [z_le (by omega) (by omega)]; omega))]
            by_cases c16 : k < 16
            · rw [if_neg (show ¬ (16 : Int32) ≤ nI k from (show ¬ nI 16 ≤ nI k from nI_ge c16 (by decide)))]
              exact g v4 (by rw [if_neg c4, if_neg c8, if_neg c12, if_pos c16])
            · rw [if_pos (show (16 : Int32) ≤ nI k from (show nI 16 ≤ nI k by rw [z_le (by omega) (by omega)]; omega))]
              exact g v5 (by rw [if_neg c4, if_neg c8, if_neg c12, if_neg c16])
    · rw [e3 j (by omega), r93, pk_un (by omega)]
    · by_cases c : j = k
      · rw [c, e3 (f0 + k) (by omega), r93, pk_us]
      · exact e4 j (by omega) b
/-- the tape alone changes -/
theorem INVx.tape {Q : PH} (h : INVx D N P) (h1 : ∀ n, n ≠ 1 → n ≠ 71 → n ≠ 72 → n ≠ 93 → Q.1 n = P.1 n) (h16 : Q.1 1 16 = P.1 1 16) (h17 : Q.1 1 17 = P.1 1 17) (h2 : Q.2 = P.2) (ht : TP Q) : INVx D N Q := by
  obtain ⟨hD, hN, hR, hRN, hC, hCN, hT, hI, hTP, hA0, hA1⟩ := h
  have r : ∀ n, n ≠ 1 → n ≠ 71 → n ≠ 72 → n ≠ 93 → Q.1 n = P.1 n := h1
  refine ⟨hD, hN, by rw [r 88 (by decide) (by decide) (by decide) (by decide)]; exact hR, by rw [r 88 (by decide) (by decide) (by decide) (by decide)]; exact hRN, ?_, ?_, fun i hi => ?_, fun i hi => ?_, ht, ?_, ?_⟩
  · exact hC.keep (r _ (by decide) (by decide) (by decide) (by decide)) (r _ (by decide) (by decide) (by decide) (by decide)) (r _ (by decide) (by decide) (by decide) (by decide)) (r _ (by decide) (by decide) (by decide) (by decide)) (r _ (by decide) (by decide) (by decide) (by decide)) (by rw [h2]) (by rw [h2]) (r _ (by decide) (by decide) (by decide) (by decide))
  · exact hCN.rows (r _ (by decide) (by decide) (by decide) (by decide)) (r _ (by decide) (by decide) (by decide) (by decide)) (by rw [h2])
  · have q := hT i hi
    unfold TR at q ⊢
    rw [r 108 (by decide) (by decide) (by decide) (by decide), r 109 (by decide) (by decide) (by decide) (by decide), r (53 + 2 * i) (by omega) (by omega) (by omega) (by omega), h2]
    exact q
  · have q := hI i hi
    unfold IM imT at q ⊢
    rw [r 92 (by decide) (by decide) (by decide) (by decide), r (61 + i) (by omega) (by omega) (by omega) (by omega), r 90 (by decide) (by decide) (by decide) (by decide)]
    rcases q with q | ⟨q1, q2, D', N', q3, q4, q5, q6, q7, q8⟩
    · exact Or.inl q
    · refine Or.inr ⟨q1, q2, D', N', q3, q4, q5, q6, ?_, ?_⟩
      · exact q7.keep (r _ (by omega) (by omega) (by omega) (by omega)) (r _ (by omega) (by omega) (by omega) (by omega)) (r _ (by omega) (by omega) (by omega) (by omega)) (r _ (by omega) (by omega) (by omega) (by omega)) (r _ (by omega) (by omega) (by omega) (by omega)) (by rw [h2]) (by rw [h2]) (r _ (by omega) (by omega) (by omega) (by omega))
      · exact q8.rows (r _ (by omega) (by omega) (by omega) (by omega)) (r _ (by omega) (by omega) (by omega) (by omega)) (by rw [h2])
  · rw [r 0 (by decide) (by decide) (by decide) (by decide), h16]; exact hA0
  · rw [r 0 (by decide) (by decide) (by decide) (by decide), h17]; exact hA1
/-- both change their cells, no throw -/
def callFo (c : Option (Int32 × PH)) (m : PH → Option (Int32 × PH)) (P : PH) : Prop := ∃ (a : Int32) (P1 : PH), c = some (a, P1) ∧ ∃ Q, m P1 = some (a, Q) ∧ INV Q
theorem call_feed (h : INVx D N P) (v1 v2 v3 v4 v5 : Int32) : callFo (Bs_feed v1 v2 v3 v4 v5 P) (Mo_feed v1 v2 v3 v4 v5) P := by
  obtain ⟨f, f1, f2, f3, f4⟩ := h.2.2.2.2.2.2.2.2.1
  by_cases c : f + 20 ≤ 700
  · obtain ⟨P1, a1, a2, a3, a4, a5⟩ := re_take v1 (show f + 4 ≤ 700 by omega) f2
    obtain ⟨P2, b1, b2, b3, b4, b5⟩ := re_take v2 (show f + 4 + 4 ≤ 700 by omega) a2
    obtain ⟨P3, c1, c2, c3, c4, c5⟩ := re_take v3 (show f + 4 + 4 + 4 ≤ 700 by omega) b2
    obtain ⟨P4, d1, d2, d3, d4, d5⟩ := re_take v4 (show f + 4 + 4 + 4 + 4 ≤ 700 by omega) c2
    obtain ⟨P5, e1, e2, e3, e4, e5⟩ := re_take v5 (show f + 4 + 4 + 4 + 4 + 4 ≤ 700 by omega) d2
    have o5 := (((a5.tr b5).tr c5).tr d5).tr e5
    obtain ⟨Q, q1, q2, q3, q4, q5⟩ := mo_feed_lp v1 v2 v3 v4 v5 c 20 0 bigN (sI P5 1 5 (0 : Int32)) rfl (big_gt (by omega)) (by rw [off5i _ _ (by decide), o5.1 1 (by decide) (by decide)]; exact f3)
    refine ⟨nI (f + 20), P5, ?_, Q, ?_, D, N, h.tape (fun n a b c d => ?_) ?_ ?_ ?_ ⟨f + 20, by omega, ?_, q2, fun k hk => ?_⟩⟩
    · unfold Bs_feed
      rw [f2, if_pos (show nI f ≤ (680 : Int32) from (show nI f ≤ nI 680 by rw [z_le (by omega) (by omega)]; omega)), a1, Option.bind_some, b1, Option.bind_some, c1, Option.bind_some, d1, Option.bind_some, e1, Option.bind_some, e2]
    · unfold Mo_feed
      rw [Option.bind_some, off5i _ _ (by decide), o5.1 1 (by decide) (by decide), f3, show (20 : Int32) = nI 20 from rfl, nI_add, if_pos (show nI (f + 20) ≤ (700 : Int32) from (show nI (f + 20) ≤ nI 700 by rw [z_le (by omega) (by omega)]; omega))]
      exact q1
    · rw [q5.1 n a d, off5 _ _ a, o5.1 n b c]
    · rw [q5.2.1 16 (by decide), off5i _ _ (by decide), o5.1 1 (by decide) (by decide)]
    · rw [q5.2.1 17 (by decide), off5i _ _ (by decide), o5.1 1 (by decide) (by decide)]
    · rw [q5.2.2]
      show P5.2 = P.2
      rw [o5.2]
    · rw [q5.1 71 (by decide) (by decide), off5 _ _ (by decide)]; exact e2
    · have r72 : Q.1 72 = P5.1 72 := by rw [q5.1 72 (by decide) (by decide), off5 _ _ (by decide)]
      rw [r72]
      by_cases z : k < f
      · obtain ⟨b, g1, g2, g3⟩ := f4 k z
        refine ⟨b, g1, ?_, ?_⟩
        · rw [q3 k (by omega), off5 _ _ (by decide), o5.1 93 (by decide) (by decide)]; exact g2
        · rw [e3 k (by omega), d3 k (by omega), c3 k (by omega), b3 k (by omega), a3 k z]; exact g3
      · obtain ⟨j, rfl⟩ : ∃ j, k = f + j := ⟨k - f, by omega⟩
        have hj : j < 20 := by omega
        obtain ⟨b, g1, g2⟩ := byt_n (fwd5 v1 v2 v3 v4 v5 j) (24 - 8 * (j % 4))
        refine ⟨b, g1, by rw [q4 j (Nat.zero_le _) hj]; exact g2, ?_⟩
        rw [← g2]
        unfold fwd5
        by_cases y4 : j < 4
        · rw [if_pos y4, e3 _ (by omega), d3 _ (by omega), c3 _ (by omega), b3 _ (by omega), a4 j y4, Nat.mod_eq_of_lt y4]
        · rw [if_neg y4]
          by_cases y8 : j < 8
          · rw [if_pos y8, e3 _ (by omega), d3 _ (by omega), c3 _ (by omega), show f + j = f + 4 + (j - 4) by omega, b4 (j - 4) (by omega), show j % 4 = j - 4 by omega]
          · rw [if_neg y8]
            by_cases y12 : j < 12
            · rw [if_pos y12, e3 _ (by omega), d3 _ (by omega), show f + j = f + 4 + 4 + (j - 8) by omega, c4 (j - 8) (by omega), show j % 4 = j - 8 by omega]
            · rw [if_neg y12]
              by_cases y16 : j < 16
              · rw [if_pos y16, e3 _ (by omega), show f + j = f + 4 + 4 + 4 + (j - 12) by omega, d4 (j - 12) (by omega), show j % 4 = j - 12 by omega]
              · rw [if_neg y16, show f + j = f + 4 + 4 + 4 + 4 + (j - 16) by omega, e4 (j - 16) (by omega), show j % 4 = j - 16 by omega]
  · refine ⟨m1, P, ?_, sI P 1 5 0, ?_, D, N, h.s5 0⟩
    · unfold Bs_feed
      rw [f2, if_neg (show ¬ nI f ≤ (680 : Int32) from (show ¬ nI f ≤ nI 680 by rw [z_le (by omega) (by omega)]; omega))]
      rfl
    · unfold Mo_feed
      rw [Option.bind_some, off5i _ _ (by decide), f3, show (20 : Int32) = nI 20 from rfl, nI_add, if_neg (show ¬ nI (f + 20) ≤ (700 : Int32) from (show ¬ nI (f + 20) ≤ nI 700 by rw [z_le (by omega) (by omega)]; omega))]
      rfl
end FEE
