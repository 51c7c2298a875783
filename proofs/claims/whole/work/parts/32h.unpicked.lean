/-! UNPICKED: the class, the call -/
def UnT (D : DT) (N : NT) (P : PH) : Prop := P.1 77 8 = nI (xM N) ∧ P.1 77 9 = nI (if xVf N then 1 else 0) ∧ bitsOf D (P.2 77 10) (lO D N (xIk N)) ∧ bitsOf D (P.2 77 11) (lU D N (xIk N)) ∧ (∀ k, k ≤ xM N → P.1 78 k = nI (xH N k)) ∧ (∀ k, k ≤ xM N → bitsOf D (P.2 79 k) (tx D N (fun _ => true) true k)) ∧ ∀ k, k ≤ xM N → bitsOf D (P.2 80 k) (tx D N (fun _ => true) false k)
/-- the rest's cell, the matching row and the answer may change -/
def oU (P Q : PH) : Prop := (∀ n, n ≠ 75 → n ≠ 81 → n ≠ 77 → Q.1 n = P.1 n) ∧ (∀ k, 2 ≤ k → Q.1 77 k = P.1 77 k) ∧ ∀ n, n ≠ 75 → Q.2 n = P.2 n
theorem oU.rf (P : PH) : oU P P := ⟨fun _ _ _ _ => rfl, fun _ _ => rfl, fun _ _ => rfl⟩
theorem oU.tr {P Q R : PH} (h : oU P Q) (h2 : oU Q R) : oU P R := ⟨fun n a b c => (h2.1 n a b c).trans (h.1 n a b c), fun k a => (h2.2.1 k a).trans (h.2.1 k a), fun n a => (h2.2.2 n a).trans (h.2.2 n a)⟩
theorem only75.u {P Q : PH} (h : only75 P Q) : oU P Q := ⟨fun n a _ _ => (h n a).1, fun k _ => by rw [(h 77 (by decide)).1], fun n a => (h n a).2⟩
theorem oU.s81 {P Q : PH} (h : oU P Q) (k : Nat) (v : Int32) : oU P (sI Q 81 k v) := ⟨fun n a b c => by rw [rowI_o _ _ _ b]; exact h.1 n a b c, fun k a => by rw [rowI_o _ _ _ (by decide)]; exact h.2.1 k a, h.2.2⟩
theorem oU.s77 {P Q : PH} (h : oU P Q) {k : Nat} (hk : k < 2) (v : Int32) : oU P (sI Q 77 k v) := ⟨fun n a b c => by rw [rowI_o _ _ _ c]; exact h.1 n a b c, fun j a => by rw [rowI_s, pk_un (by omega)]; exact h.2.1 j a, h.2.2⟩
theorem oU.scr {P Q : PH} (h : oU P Q) : scr P Q := ⟨fun n k q => by rw [h.1 n (fun z => by rw [z] at q; cases q) (fun z => by rw [z] at q; cases q) (fun z => by rw [z] at q; cases q)], fun n k q => by rw [h.2.2 n (fun z => by rw [z] at q; cases q)]⟩
theorem or_bit {n l : Nat} (hl : l < n) (hn : n ≤ 60) {x : Int64} {p : Nat → Bool} (hx : ∀ i, i < 64 → bL x i = (decide (i < n) && p i)) (h0 : p l = false) : ∀ i, i < 64 → bL (x ||| ((1 : Int64) <<< ((nI l).toInt64 &&& 63))) i = (decide (i < n) && (p i ^^ decide (i = l))) := by
  intro i hi
  rw [bL_or, hx i hi, bL_sh (by omega)]
  by_cases c : i = l
  · rw [c, h0]; simp [hl]
  · simp [c]
section UNC
variable {D : DT} {N : NT} {P : PH}
theorem UnT.keep {Q : PH} (h : UnT D N P) (o : oU P Q) : UnT D N Q := by
  obtain ⟨h1, h2, h3, h4, h5, h6, h7⟩ := h
  refine ⟨by rw [o.2.1 8 (by decide)]; exact h1, by rw [o.2.1 9 (by decide)]; exact h2, by rw [o.2.2 77 (by decide)]; exact h3, by rw [o.2.2 77 (by decide)]; exact h4, ?_, ?_, ?_⟩
  · rw [o.1 78 (by decide) (by decide) (by decide)]; exact h5
  · rw [o.2.2 79 (by decide)]; exact h6
  · rw [o.2.2 80 (by decide)]; exact h7
theorem CD.kU {Q : PH} (c : CD 3 D P) (o : oU P Q) : CD 3 D Q := c.keep (o.1 _ (by decide) (by decide) (by decide)) (o.1 _ (by decide) (by decide) (by decide)) (o.1 _ (by decide) (by decide) (by decide)) (o.1 _ (by decide) (by decide) (by decide)) (o.1 _ (by decide) (by decide) (by decide)) (o.2.2 _ (by decide)) (o.2.2 _ (by decide)) (o.1 _ (by decide) (by decide) (by decide))
theorem un_over (h9 : P.1 77 9 = nI (if xVf N then 1 else 0)) (k : Nat) : Un_goesOver (nI k) P = some (if ovN N k then 1 else 0) := by
  unfold Un_goesOver
  rw [h9, show nI k &&& (1 : Int32) = nI (k % 2 ^ 1) from fa_mask k 1, gd1, gd0]
  unfold ovN
  rcases Nat.mod_two_eq_zero_or_one k with e | e
  · rw [Nat.pow_one, e]
    cases xVf N <;> rfl
  · rw [Nat.pow_one, e]
    cases xVf N <;> rfl
/-! the trace -/
def oT (P Q : PH) : Prop := (∀ n, n ≠ 77 → n ≠ 78 → Q.1 n = P.1 n) ∧ ∀ n, n ≠ 77 → n ≠ 79 → n ≠ 80 → Q.2 n = P.2 n
theorem oT.rf (P : PH) : oT P P := ⟨fun _ _ _ => rfl, fun _ _ _ _ => rfl⟩
theorem oT.tr {P Q R : PH} (h : oT P Q) (h2 : oT Q R) : oT P R := ⟨fun n a b => (h2.1 n a b).trans (h.1 n a b), fun n a b c => (h2.2 n a b c).trans (h.2 n a b c)⟩
theorem oT.si {P Q : PH} (h : oT P Q) {n : Nat} (hn : n = 77 ∨ n = 78) (k : Nat) (v : Int32) : oT P (sI Q n k v) := ⟨fun m a b => by rw [rowI_o _ _ _ (by omega)]; exact h.1 m a b, h.2⟩
theorem oT.sl {P Q : PH} (h : oT P Q) {n : Nat} (hn : n = 77 ∨ n = 79 ∨ n = 80) (k : Nat) (v : Int64) : oT P (sL Q n k v) := ⟨h.1, fun m a b c => by rw [rowL_o _ _ _ (by omega)]; exact h.2 m a b c⟩
theorem oT.scr {P Q : PH} (h : oT P Q) : scr P Q := ⟨fun n k q => by rw [h.1 n (fun z => by rw [z] at q; cases q) (fun z => by rw [z] at q; cases q)], fun n k q => by rw [h.2 n (fun z => by rw [z] at q; cases q) (fun z => by rw [z] at q; cases q) (fun z => by rw [z] at q; cases q)]⟩
theorem CD.kT {Q : PH} (c : CD 3 D P) (o : oT P Q) : CD 3 D Q := c.keep (o.1 _ (by decide) (by decide)) (o.1 _ (by decide) (by decide)) (o.1 _ (by decide) (by decide)) (o.1 _ (by decide) (by decide)) (o.1 _ (by decide) (by decide)) (o.2 _ (by decide) (by decide) (by decide)) (o.2 _ (by decide) (by decide) (by decide)) (o.1 _ (by decide) (by decide))
theorem CN.kT {Q : PH} (c : CN 43 D N P) (o : oT P Q) : CN 43 D N Q := c.rows (o.1 _ (by decide) (by decide)) (o.1 _ (by decide) (by decide)) (o.2 _ (by decide) (by decide) (by decide))
theorem tx_new (hD : WD D) (hN : WN D N) (ht : xT N = true) {k : Nat} (hk : k < xM N) : tx D N (fun _ => true) (ovN N k) k (lnK D N k) = false := ts_nt (fun q => by
  obtain ⟨j, a, -, b, c⟩ := (tx_iff hD hN ht k (by omega) _).mp q
  have := st_ne hD hN ht (show j < xM N by omega) hk b c
  omega)
theorem tx_succ (v : Bool) (k l : Nat) : tx D N (fun _ => true) v (k + 1) l = (tx D N (fun _ => true) v k l ^^ ((ovN N k == v) && decide (l = lnK D N k))) := by
  show (tx D N (fun _ => true) v k l ^^ (true && ((ovN N k == v) && decide (l = lnK D N k)))) = _
  rw [Bool.true_and]
theorem tr_lp (hD : WD D) (hN : WN D N) (ht : xT N = true) : ∀ (m k n : Nat) (P : PH), k + m = xM N → m < n → CD 3 D P → CN 43 D N P → P.1 77 8 = nI (xM N) → P.1 77 9 = nI (if xVf N then 1 else 0) → (∀ j, j ≤ k → P.1 78 j = nI (xH N j)) → (∀ j, j ≤ k → bitsOf D (P.2 79 j) (tx D N (fun _ => true) true j)) → (∀ j, j ≤ k → bitsOf D (P.2 80 j) (tx D N (fun _ => true) false j)) →
    ∃ Q, Un_trace_93 43 n (nI k) P = some Q ∧ Q.1 77 = P.1 77 ∧ Q.2 77 = P.2 77 ∧ (∀ j, j ≤ xM N → Q.1 78 j = nI (xH N j)) ∧ (∀ j, j ≤ xM N → bitsOf D (Q.2 79 j) (tx D N (fun _ => true) true j)) ∧ (∀ j, j ≤ xM N → bitsOf D (Q.2 80 j) (tx D N (fun _ => true) false j)) ∧ oT P Q := by
  have h60 := hD.1
  have hM := (hN ht).2.2.1
  intro m
  induction m with
  | zero =>
    intro k n P hk hn hC hCN h8 h9 h78 h79 h80
    obtain ⟨n, rfl⟩ : ∃ q, n = q + 1 := ⟨n - 1, by omega⟩
    obtain rfl : k = xM N := by omega
    refine ⟨P, ?_, rfl, rfl, h78, h79, h80, oT.rf P⟩
    unfold Un_trace_93
    rw [h8, if_pos (by rw [z_le (by omega) (by omega)]; exact Nat.le_refl _)]
  | succ m ih =>
    intro k n P hk hn hC hCN h8 h9 h78 h79 h80
    obtain ⟨n, rfl⟩ : ∃ q, n = q + 1 := ⟨n - 1, by omega⟩
    have hk9 : k < xM N := by omega
    have s := st_k hD hN ht hk9
    have e6 := (hCN.2.2.2.2.2 ht).2.2.2.1
    have eD := (hCN.2.2.2.2.2 ht).2.2.2.2.2 k hk9
    have hh := WN.hole hD hN ht k (by omega)
    have k1 : nI k + (1 : Int32) = nI (k + 1) := nI_1 _
    have nw := tx_new hD hN ht hk9
    obtain ⟨b, hb⟩ : ∃ b, b = (1 : Int64) <<< ((nI (lnK D N k)).toInt64 &&& 63) := ⟨_, rfl⟩
    obtain ⟨P1, hP1⟩ : ∃ P1, P1 = sL P 79 (k + 1) (if ovN N k then P.2 79 k ||| b else P.2 79 k) := ⟨_, rfl⟩
    obtain ⟨P2, hP2⟩ : ∃ P2, P2 = sL P1 80 (k + 1) (if ovN N k then P.2 80 k else P.2 80 k ||| b) := ⟨_, rfl⟩
    obtain ⟨P3, hP3⟩ : ∃ P3, P3 = sI P2 78 (k + 1) (nI (xH N (k + 1))) := ⟨_, rfl⟩
    have o1 : oT P P1 := by rw [hP1]; exact (oT.rf P).sl (Or.inr (Or.inl rfl)) _ _
    have o2 : oT P P2 := by rw [hP2]; exact o1.sl (Or.inr (Or.inr rfl)) _ _
    have o3 : oT P P3 := by rw [hP3]; exact o2.si (Or.inr rfl) _ _
    have i77 : P3.1 77 = P.1 77 := by rw [hP3, rowI_o _ _ _ (by decide), hP2, hP1]; rfl
    have l77 : P3.2 77 = P.2 77 := by
      rw [hP3]
      show P2.2 77 = _
      rw [hP2, rowL_o _ _ _ (by decide), hP1, rowL_o _ _ _ (by decide)]
    obtain ⟨Q, f1, f2, f3, f4, f5, f6, f7⟩ := ih (k + 1) n P3 (by omega) (by omega) (hC.kT o3) (hCN.kT o3) (by rw [i77]; exact h8) (by rw [i77]; exact h9) (fun j hj => by
      rw [hP3, rowI_s]
      by_cases c : j = k + 1
      · rw [c, pk_us]
      · rw [pk_un c, hP2, hP1]
        exact h78 j (by omega)) (fun j hj => by
      rw [hP3]
      show bitsOf D (P2.2 79 j) _
      rw [hP2, rowL_o _ _ _ (by decide), hP1, rowL_s]
      by_cases c : j = k + 1
      · rw [c, pk_uLs]
        intro i hi
        rw [tx_succ]
        cases q : ovN N k
        · rw [if_neg (by decide), h79 k (Nat.le_refl _) i hi]
          simp
        · rw [q] at nw
          rw [if_pos rfl, hb, or_bit s.2.2.1 h60 (h79 k (Nat.le_refl _)) nw i hi]
          simp
      · rw [pk_uLn c]
        exact h79 j (by omega)) (fun j hj => by
      rw [hP3]
      show bitsOf D (P2.2 80 j) _
      rw [hP2, rowL_s]
      by_cases c : j = k + 1
      · rw [c, pk_uLs]
        intro i hi
        rw [tx_succ]
        cases q : ovN N k
        · rw [q] at nw
          rw [if_neg (by decide), hb, or_bit s.2.2.1 h60 (h80 k (Nat.le_refl _)) nw i hi]
          simp
        · rw [if_pos rfl, h80 k (Nat.le_refl _) i hi]
          simp
      · rw [pk_uLn c, hP1, rowL_o _ _ _ (by decide)]
        exact h80 j (by omega))
    refine ⟨Q, ?_, f2.trans i77, f3.trans l77, f4, f5, f6, o3.tr f7⟩
    have hot := dr_other hD (hC.kT o2) s.2.2.1 hh
    have h78' : P2.1 78 k = nI (xH N k) := by rw [hP2, hP1]; exact h78 k (Nat.le_refl _)
    have fin : ∀ y : Int64, sL P1 80 (k + 1) y = P2 → Un_trace_208 (Un_trace_93 43 n) 43 (nI k) (nI (lnK D N k)) y (nI k + (1 : Int32)) P1 = some Q := by
      intro y hy
      unfold Un_trace_208
      rw [k1, z_gd (by omega) (by decide), z_cl (show k + 1 < 2147483648 by omega), hy, Option.bind_some, z_gd (show k < 121 by omega) (by decide), z_cl (show k < 2147483648 by omega), h78', hot, Option.bind_some, z_gd (show k + 1 < 121 by omega) (by decide), ← s.2.2.2.2.2.2, ← hP3, Option.bind_some]
      exact f1
    have e80 : P1.2 80 k = P.2 80 k := by rw [hP1, rowL_o _ _ _ (by decide)]
    unfold Un_trace_93
    rw [h8, if_neg (nI_ge hk9 (by omega)), if_neg (show ¬ (120 : Int32) ≤ nI k from (show ¬ nI 120 ≤ nI k from nI_ge (by omega) (by decide))), z_gd (by omega) (by decide), show Ne_wayOf 43 (nI k) P = some (nI (xD N k)) from by
      unfold Ne_wayOf
      rw [if_neg (nI_pos (by omega)), e6, if_neg (nI_ge hk9 (by omega)), if_neg (show ¬ (120 : Int32) ≤ nI k from (show ¬ nI 120 ≤ nI k from nI_ge (by omega) (by decide))), z_gd (by omega) (by decide), z_cl (by omega), eD], Option.bind_some, z_cl (by omega), h78 k (Nat.le_refl _), dr_lineBy hD hC hh s.2.1, s.1, Option.bind_some, show enc (some (lnK D N k)) = nI (lnK D N k) from rfl, if_neg (show ¬ nI (lnK D N k) = (-1 : Int32) from nI_nm (by have := s.2.2.1; omega)), ← hb]
    unfold Un_trace_138
    rw [un_over h9, Option.bind_some]
    cases q : ovN N k
    · rw [q] at hP1 hP2
      rw [if_pos (show (if false = true then (1 : Int32) else 0) = 0 from rfl), z_gd (by omega) (by decide), z_cl (by omega)]
      unfold Un_trace_177
      rw [k1, z_gd (show k + 1 < 121 by omega) (by decide), z_cl (show k + 1 < 2147483648 by omega), show sL P 79 (k + 1) (P.2 79 k) = P1 from by rw [hP1]; rfl, Option.bind_some, if_pos (show (if false = true then (1 : Int32) else 0) = 0 from rfl), z_gd (show k < 121 by omega) (by decide), z_cl (show k < 2147483648 by omega), e80, ← k1]
      exact fin _ (by rw [hP2]; rfl)
    · rw [q] at hP1 hP2
      rw [if_neg (show ¬ (if true = true then (1 : Int32) else 0) = 0 from by decide), z_gd (by omega) (by decide), z_cl (by omega)]
      unfold Un_trace_177
      rw [k1, z_gd (show k + 1 < 121 by omega) (by decide), z_cl (show k + 1 < 2147483648 by omega), show sL P 79 (k + 1) (P.2 79 k ||| b) = P1 from by rw [hP1]; rfl, Option.bind_some, if_neg (show ¬ (if true = true then (1 : Int32) else 0) = 0 from by decide), z_gd (show k < 121 by omega) (by decide), z_cl (show k < 2147483648 by omega), e80, ← k1]
      exact fin _ (by rw [hP2]; rfl)
theorem un_trace (hD : WD D) (hN : WN D N) (ht : xT N = true) (hC : CD 3 D P) (hCN : CN 43 D N P) : ∃ Q, Un_trace 43 P = some Q ∧ UnT D N Q ∧ oT P Q := by
  have hM := (hN ht).2.2.1
  obtain ⟨e3, e4, e5, e6, e8, e9⟩ := hCN.2.2.2.2.2 ht
  have em : jMin (nI (xM N)) (120 : Int32) = nI (xM N) := by
    unfold jMin
    rw [if_neg (show ¬ (120 : Int32) < nI (xM N) from (show ¬ nI 120 < nI (xM N) by rw [z_lt (by omega) (by omega)]; omega))]
  have o0 : oT P (sI P 77 8 (nI (xM N))) := (oT.rf P).si (Or.inl rfl) _ _
  have hd : ∀ (x15 : Int32) (Z : Option PH), x15 = (if ovN N (xM N) then 1 else 0) → Un_trace_40 43 (nI (if xVf N then 1 else 0)) (sI P 77 8 (nI (xM N))) = Z → (if (nI (xM N) &&& (1 : Int32)) = 0 then (if x15 = (1 : Int32) then Un_trace_40 43 (1 : Int32) (sI P 77 8 (nI (xM N))) else Un_trace_40 43 (0 : Int32) (sI P 77 8 (nI (xM N)))) else (if x15 = (0 : Int32) then Un_trace_40 43 (1 : Int32) (sI P 77 8 (nI (xM N))) else Un_trace_40 43 (0 : Int32) (sI P 77 8 (nI (xM N))))) = Z := by
    intro x15 Z hx hZ
    rw [hx, ← hZ, show nI (xM N) &&& (1 : Int32) = nI (xM N % 2 ^ 1) from fa_mask (xM N) 1]
    unfold ovN
    rcases Nat.mod_two_eq_zero_or_one (xM N) with e | e
    · rw [Nat.pow_one, e]
      cases xVf N <;> rfl
    · rw [Nat.pow_one, e]
      cases xVf N <;> rfl
  obtain ⟨P1, hP1⟩ : ∃ P1, P1 = sI (sI P 77 8 (nI (xM N))) 77 9 (nI (if xVf N then 1 else 0)) := ⟨_, rfl⟩
  have o1 : oT P P1 := by rw [hP1]; exact o0.si (Or.inl rfl) _ _
  obtain ⟨⟨x, x1, x2⟩, -⟩ := open_bits (nd := 43) (hC.kT o1) (hCN.kT o1) (hN ht).1
  obtain ⟨P2, hP2⟩ : ∃ P2, P2 = sL P1 77 10 x := ⟨_, rfl⟩
  have o2 : oT P P2 := by rw [hP2]; exact o1.sl (Or.inl rfl) _ _
  obtain ⟨-, y, y1, y2⟩ := open_bits (nd := 43) (hC.kT o2) (hCN.kT o2) (hN ht).1
  obtain ⟨P3, hP3⟩ : ∃ P3, P3 = sL P2 77 11 y := ⟨_, rfl⟩
  have o3 : oT P P3 := by rw [hP3]; exact o2.sl (Or.inl rfl) _ _
  obtain ⟨P4, hP4⟩ : ∃ P4, P4 = sL (sL (sI P3 78 0 (nI (xB N))) 79 0 (0 : Int64)) 80 0 (0 : Int64) := ⟨_, rfl⟩
  have o4 : oT P P4 := by rw [hP4]; exact ((o3.si (Or.inr rfl) _ _).sl (Or.inr (Or.inl rfl)) _ _).sl (Or.inr (Or.inr rfl)) _ _
  have i77 : P4.1 77 = P1.1 77 := by
    rw [hP4]
    show (sI P3 78 0 (nI (xB N))).1 77 = P1.1 77
    rw [rowI_o _ _ _ (by decide), hP3, hP2]
    rfl
  have r8 : P4.1 77 8 = nI (xM N) := by rw [i77, hP1, rowI_s, pk_un (by decide), rowI_s, pk_us]
  have r9 : P4.1 77 9 = nI (if xVf N then 1 else 0) := by rw [i77, hP1, rowI_s, pk_us]
  have l77 : P4.2 77 = P3.2 77 := by rw [hP4, rowL_o _ _ _ (by decide), rowL_o _ _ _ (by decide)]; rfl
  obtain ⟨Q, f1, f2, f3, f4, f5, f6, f7⟩ := tr_lp hD hN ht (xM N) 0 bigN P4 (by omega) (big_gt (by omega)) (hC.kT o4) (hCN.kT o4) r8 r9 (fun j hj => by
    obtain rfl : j = 0 := by omega
    rw [hP4]
    show (sI P3 78 0 (nI (xB N))).1 78 0 = _
    rw [rowI_s, pk_us]; rfl) (fun j hj => by
    obtain rfl : j = 0 := by omega
    rw [hP4, rowL_o _ _ _ (by decide), rowL_s, pk_uLs]
    intro i hi
    rw [bL_0]
    exact (Bool.and_false _).symm) (fun j hj => by
    obtain rfl : j = 0 := by omega
    rw [hP4, rowL_s, pk_uLs]
    intro i hi
    rw [bL_0]
    exact (Bool.and_false _).symm)
  refine ⟨Q, ?_, ⟨by rw [f2]; exact r8, by rw [f2]; exact r9, ?_, ?_, f4, f5, f6⟩, o4.tr f7⟩
  · unfold Un_trace
    rw [e6, em, Option.bind_some, ne_next (hCN.kT o0) ht (by omega), Option.bind_some, show (sI P 77 8 (nI (xM N))).1 77 8 = nI (xM N) from by rw [rowI_s, pk_us]]
    refine hd _ _ rfl ?_
    unfold Un_trace_40
    rw [show (gdP (nI (if xVf N then 1 else 0) = 0 ∨ nI (if xVf N then 1 else 0) = 1) : Option PH → Option PH) = fun o => o from funext (fun o => if_pos (by cases xVf N <;> decide)), Option.bind_some, ← hP1, show P1.1 43 3 = nI (xIk N) from by rw [o1.1 43 (by decide) (by decide)]; exact e3, x1, Option.bind_some, Option.bind_some, ← hP2, show P2.1 43 3 = nI (xIk N) from by rw [o2.1 43 (by decide) (by decide)]; exact e3, y1, Option.bind_some, Option.bind_some, ← hP3, show P3.1 43 4 = nI (xB N) from by rw [o3.1 43 (by decide) (by decide)]; exact e4]
    rw [show (gdI (0 : Int32) 121 : Option PH → Option PH) = fun o => o from gdf 0 121 (by decide) (by decide), Option.bind_some, Option.bind_some, Option.bind_some, show (0 : Int32).toNatClampNeg = 0 from rfl, ← hP4]
    exact f1
  · rw [f3, l77, hP3, rowL_s, pk_uLn (by decide), hP2, rowL_s, pk_uLs]; exact x2
  · rw [f3, l77, hP3, rowL_s, pk_uLs]; exact y2
/-! put, matching, the search -/
theorem tk_pij (hD : WD D) (hN : WN D N) (ht : xT N = true) {i j : Nat} (hij : i + j ≤ xM N) (v : Bool) (l : Nat) : (tx D N (fun _ => true) v i l || (tx D N (fun _ => true) v (xM N) l ^^ tx D N (fun _ => true) v (xM N - j) l)) = tx D N (pij N i j) v (xM N) l := by
  have a1 := tx_iff hD hN ht (p := fun _ => true) (v := v) i (by omega) l
  have a2 := tx_iff hD hN ht (p := fun _ => true) (v := v) (xM N) (by omega) l
  have a3 := tx_iff hD hN ht (p := fun _ => true) (v := v) (xM N - j) (by omega) l
  have a4 := tx_iff hD hN ht (p := pij N i j) (v := v) (xM N) (by omega) l
  rw [Bool.eq_iff_iff, a4, Bool.or_eq_true, a1]
  constructor
  · rintro (⟨k, k1, -, k2, k3⟩ | q)
    · exact ⟨k, by omega, (pij_iff N i j k).mpr (Or.inl k1), k2, k3⟩
    · cases c2 : tx D N (fun _ => true) v (xM N) l
      · cases c3 : tx D N (fun _ => true) v (xM N - j) l
        · rw [c2, c3] at q; cases q
        · obtain ⟨k, k1, k2, k3⟩ := a3.mp c3
          rw [a2.mpr ⟨k, by omega, k2, k3⟩] at c2
          cases c2
      · cases c3 : tx D N (fun _ => true) v (xM N - j) l
        · obtain ⟨k, k1, k2, k3, k4⟩ := a2.mp c2
          refine ⟨k, k1, (pij_iff N i j k).mpr (Or.inr ?_), k3, k4⟩
          by_cases z : xM N - j ≤ k
          · exact z
          · rw [a3.mpr ⟨k, by omega, k2, k3, k4⟩] at c3
            cases c3
        · rw [c2, c3] at q; cases q
  · rintro ⟨k, k1, k2, k3, k4⟩
    rcases (pij_iff N i j k).mp k2 with z | z
    · exact Or.inl ⟨k, z, rfl, k3, k4⟩
    · refine Or.inr ?_
      rw [a2.mpr ⟨k, k1, rfl, k3, k4⟩, show tx D N (fun _ => true) v (xM N - j) l = false from ts_nt (fun q => by
        obtain ⟨k', q1, -, q3, q4⟩ := a3.mp q
        have := st_ne hD hN ht (show k' < xM N by omega) k1 (q3.trans k3.symm) (q4.trans k4.symm)
        omega)]
      rfl
theorem un_put (hD : WD D) (hN : WN D N) (ht : xT N = true) (hU : UnT D N P) {i j : Nat} (hij : i + j ≤ xM N) : ∃ Q, Un_put (nI i) (nI j) P = some ((1 : Int32), Q) ∧ RSt D (oS D N i j) (uS D N i j) (xH N (xM N - j)) (ovN N (xM N - j)) Q ∧ only75 P Q := by
  have hM := (hN ht).2.2.1
  obtain ⟨u8, u9, u10, u11, u78, u79, u80⟩ := hU
  obtain ⟨Q, q1, q2, q3⟩ := rs_put (P := P) (x := P.2 77 10 ||| (P.2 79 i ||| (P.2 79 (xM N) ^^^ P.2 79 (xM N - j)))) (y := P.2 77 11 ||| (P.2 80 i ||| (P.2 80 (xM N) ^^^ P.2 80 (xM N - j)))) (O := oS D N i j) (U := uS D N i j) (fun b hb => by
    rw [bL_or, bL_or, bL_xor, u10 b hb, u79 i (by omega) b hb, u79 (xM N) (by omega) b hb, u79 (xM N - j) (by omega) b hb]
    unfold oS
    rw [← tk_pij hD hN ht hij true b]
    cases decide (b < dN D) <;> simp) (fun b hb => by
    rw [bL_or, bL_or, bL_xor, u11 b hb, u80 i (by omega) b hb, u80 (xM N) (by omega) b hb, u80 (xM N - j) (by omega) b hb]
    unfold uS
    rw [← tk_pij hD hN ht hij false b]
    cases decide (b < dN D) <;> simp) (xH N (xM N - j)) (ovN N (xM N - j))
  refine ⟨Q, ?_, q2, q3⟩
  unfold Un_put
  rw [u8, show nI (xM N) - nI j = nI (xM N - j) from z_sub (by omega), Option.bind_some, if_neg (nI_pos (by omega)), if_neg (nI_pos (by omega)), if_neg (by rw [z_lt (by omega) (by omega)]; omega), if_neg (show ¬ (121 : Int32) ≤ nI (xM N - j) from (show ¬ nI 121 ≤ nI (xM N - j) from nI_ge (by omega) (by decide))), if_pos (show nI (xM N) < (121 : Int32) from (show nI (xM N) < nI 121 by rw [z_lt (by omega) (by omega)]; omega)), z_gd (show i < 121 by omega) (by decide), z_gd (show xM N < 121 by omega) (by decide), z_gd (show xM N - j < 121 by omega) (by decide), Option.bind_some, z_gd (show i < 121 by omega) (by decide), z_gd (show xM N < 121 by omega) (by decide), z_gd (show xM N - j < 121 by omega) (by decide), Option.bind_some, z_gd (show xM N - j < 121 by omega) (by decide), un_over u9, Option.bind_some, z_cl (show i < 2147483648 by omega), z_cl (show xM N < 2147483648 by omega), z_cl (show xM N - j < 2147483648 by omega), u78 _ (by omega), q1, Option.bind_some, gd1]
noncomputable def mgB (D : DT) (N : NT) (both : Bool) (i : Nat) : Bool := decide (i ≤ xM N) && ((decide (i = 0) || both) && cP (mtI D N i))
theorem un_f17 (hD : WD D) (hN : WN D N) (ht : xT N = true) (both : Bool) : ∀ (m k n : Nat) (P : PH), k + m = 121 → m < n → UnT D N P → CD 3 D P → (∀ i, i < k → P.1 81 i = nI (if mgB D N both i then 1 else 0)) → ∃ Q, Un_find_17 (if both then 1 else 0) n (nI k) P = Un_find_80 (if both then 1 else 0) bigN (nI 0) Q ∧ (∀ i, i < 121 → Q.1 81 i = nI (if mgB D N both i then 1 else 0)) ∧ Q.1 77 = P.1 77 ∧ oU P Q := by
  have hM := (hN ht).2.2.1
  intro m
  induction m with
  | zero =>
    intro k n P hk hn hU hC h81
    obtain ⟨n, rfl⟩ : ∃ q, n = q + 1 := ⟨n - 1, by omega⟩
    obtain rfl : k = 121 := by omega
    refine ⟨P, ?_, h81, rfl, oU.rf P⟩
    unfold Un_find_17
    rw [if_pos (by decide)]
    rfl
  | succ m ih =>
    intro k n P hk hn hU hC h81
    obtain ⟨n, rfl⟩ : ∃ q, n = q + 1 := ⟨n - 1, by omega⟩
    have k9 : k < 121 := by omega
    have k1 : nI k + 1 = nI (k + 1) := nI_1 _
    have nx : ∀ (P1 : PH) (v : Int32), only75 P P1 → v = nI (if mgB D N both k then 1 else 0) → ∃ Q, Un_find_17 (if both then 1 else 0) n (nI (k + 1)) (sI P1 81 k v) = Un_find_80 (if both then 1 else 0) bigN (nI 0) Q ∧ (∀ i, i < 121 → Q.1 81 i = nI (if mgB D N both i then 1 else 0)) ∧ Q.1 77 = P.1 77 ∧ oU P Q := by
      intro P1 v o1 hv
      have o2 : oU P (sI P1 81 k v) := o1.u.s81 _ _
      obtain ⟨Q, f1, f2, f3, f4⟩ := ih (k + 1) n (sI P1 81 k v) (by omega) (by omega) (hU.keep o2) (hC.kU o2) (fun i hi => by
        rw [rowI_s]
        by_cases c : i = k
        · rw [c, pk_us, hv]
        · rw [pk_un c, (o1 81 (by decide)).1]
          exact h81 i (by omega))
      exact ⟨Q, f1, f2, f3.trans (by rw [rowI_o _ _ _ (by decide), (o1 77 (by decide)).1]), o2.tr f4⟩
    have zero : ∀ v : Int32, mgB D N both k = false → (0 : Int32) = nI (if mgB D N both k then 1 else 0) := fun v q => by rw [q]; rfl
    have put : k ≤ xM N → (k = 0 ∨ both = true) → ∃ Q, Un_find_47 (Un_find_17 (if both then 1 else 0) n) (if both then 1 else 0) (nI k) (nI k) P = Un_find_80 (if both then 1 else 0) bigN (nI 0) Q ∧ (∀ i, i < 121 → Q.1 81 i = nI (if mgB D N both i then 1 else 0)) ∧ Q.1 77 = P.1 77 ∧ oU P Q := by
      intro a b
      obtain ⟨P1, e1, e2, e3⟩ := un_put hD hN ht hU (i := k) (j := 0) (by omega)
      rw [Nat.sub_zero] at e2
      obtain ⟨P2, g1, g2, -⟩ := rs_matches hD (hC.keep75 e3) e2 (WN.hole hD hN ht (xM N) (Nat.le_refl _))
      have mg : mgB D N both k = cP (mtI D N k) := by
        unfold mgB
        rw [decide_eq_true a, Bool.true_and]
        rcases b with b | b
        · rw [decide_eq_true b]; rfl
        · rw [b, Bool.or_true]; rfl
      have o2 := e3.tr g2.o
      by_cases c : mtI D N k
      · have c9 := c
        unfold mtI at c9
        rw [if_pos c9] at g1
        obtain ⟨Q, f⟩ := nx P2 (1 : Int32) o2 (by rw [mg, cP_iff.mpr c]; rfl)
        refine ⟨Q, ?_, f.2⟩
        unfold Un_find_47
        rw [show (0 : Int32) = nI 0 from rfl, e1, Option.bind_some, if_neg (show ¬ ((1 : Int32), P1).1 = nI 0 from (show ¬ (1 : Int32) = 0 by decide)), g1, Option.bind_some, if_neg (show ¬ ((1 : Int32), P2).1 = nI 0 from (show ¬ (1 : Int32) = 0 by decide)), z_gd k9 (by decide), z_cl (by omega), Option.bind_some, k1]
        exact f.1
      · have c9 := c
        unfold mtI at c9
        rw [if_neg c9] at g1
        obtain ⟨Q, f⟩ := nx P2 (0 : Int32) o2 (zero 0 (by rw [mg]; exact ts_nt (fun q => c (cP_iff.mp q))))
        refine ⟨Q, ?_, f.2⟩
        unfold Un_find_47
        rw [show (0 : Int32) = nI 0 from rfl, e1, Option.bind_some, if_neg (show ¬ ((1 : Int32), P1).1 = nI 0 from (show ¬ (1 : Int32) = 0 by decide)), show Rs_matches P1 = some (nI 0, P2) from g1, Option.bind_some, if_pos (show ((nI 0, P2) : Int32 × PH).1 = nI 0 from rfl), z_gd k9 (by decide), z_cl (by omega), Option.bind_some, k1]
        exact f.1
    unfold Un_find_17
    rw [if_neg (show ¬ (121 : Int32) ≤ nI k from (show ¬ nI 121 ≤ nI k from nI_ge k9 (by decide))), hU.1]
    by_cases c1 : xM N < k
    · rw [if_pos (nI_lt c1 (by omega)), z_gd k9 (by decide), z_cl (by omega), Option.bind_some, k1]
      exact nx P 0 (only75.rf P) (zero 0 (by unfold mgB; rw [decide_eq_false (by omega)]; rfl))
    · rw [if_neg (by rw [z_lt (by omega) (by omega)]; exact c1)]
      by_cases c2 : k = 0
      · rw [if_pos (by rw [c2]; rfl)]
        exact put (by omega) (Or.inl c2)
      · rw [if_neg (nI_ne0 (by omega) (by omega))]
        cases hb : both with
        | false =>
          rw [hb] at nx zero
          rw [if_pos (show (if false = true then (1 : Int32) else 0) = 0 from rfl), z_gd k9 (by decide), z_cl (by omega), Option.bind_some, k1]
          exact nx P 0 (only75.rf P) (zero 0 (by unfold mgB; rw [decide_eq_false c2, Bool.or_false, Bool.false_and, Bool.and_false]))
        | true =>
          rw [hb] at put
          rw [if_neg (show ¬ (if true = true then (1 : Int32) else 0) = 0 from by decide)]
          exact put (by omega) (Or.inr rfl)
def mfU (N : NT) (both : Bool) (o : Nat) : Nat := if both && decide (o < xM N) then o else 0
theorem mfU_le (N : NT) (both : Bool) (o : Nat) : mfU N both o ≤ o ∧ (mfU N both o = 0 ∨ both = true) := by
  unfold mfU
  cases both
  · exact ⟨Nat.zero_le _, Or.inl rfl⟩
  · refine ⟨?_, Or.inr rfl⟩
    split
    · exact Nat.le_refl _
    · exact Nat.zero_le _
def R81 (D : DT) (N : NT) (both : Bool) (P : PH) : Prop := ∀ i, i < 121 → P.1 81 i = nI (if mgB D N both i then 1 else 0)
theorem fo_step (hD : WD D) (hN : WN D N) (ht : xT N = true) {both : Bool} {o mf k n : Nat} (ho : o ≤ xM N) (hmf : mf ≤ o) (hb : mf = 0 ∨ both = true) (hk : k ≤ mf) (hU : UnT D N P) (hC : CD 3 D P) (h81 : R81 D N both P) : ∃ P1, only75 P P1 ∧ Un_findOf_2 (nI o) (nI mf) (n + 1) (nI k) P = if cP (wlU D N k (o - k)) then Un_findOf_46 (nI o) (nI k) P1 else Un_findOf_2 (nI o) (nI mf) n (nI (k + 1)) P1 := by
  have hM := (hN ht).2.2.1
  have k1 : nI k + 1 = nI (k + 1) := nI_1 _
  have hd : ∀ Z, (if (P.1 81 k) = 0 then Un_findOf_2 (nI o) (nI mf) n (nI (k + 1)) P else (Un_put (nI k) (nI o - nI k) P).bind fun (x30 : Int32 × PH) =>
          if x30.1 = 0 then Un_findOf_2 (nI o) (nI mf) n (nI (k + 1)) x30.2 else (Rs_hangs x30.2).bind fun (x40 : Int32) => if x40 = 0 then Un_findOf_2 (nI o) (nI mf) n (nI (k + 1)) x30.2 else Un_findOf_46 (nI o) (nI k) x30.2) = Z → Un_findOf_2 (nI o) (nI mf) (n + 1) (nI k) P = Z := by
    intro Z hZ
    unfold Un_findOf_2
    rw [if_neg (by rw [z_lt (by omega) (by omega)]; omega), if_neg (show ¬ (121 : Int32) ≤ nI k from (show ¬ nI 121 ≤ nI k from nI_ge (by omega) (by decide))), z_gd (by omega) (by decide), z_cl (by omega), k1]
    exact hZ
  have mg : mgB D N both k = cP (mtI D N k) := by
    unfold mgB
    rw [decide_eq_true (show k ≤ xM N by omega), Bool.true_and]
    rcases hb with b | b
    · rw [decide_eq_true (show k = 0 by omega)]; rfl
    · rw [b, Bool.or_true]; rfl
  by_cases c : mtI D N k
  · obtain ⟨P1, e1, e2, e3⟩ := un_put hD hN ht hU (i := k) (j := o - k) (by omega)
    have hg := rs_hangs hD (hC.keep75 e3) e2 (WN.hole hD hN ht _ (by omega))
    refine ⟨P1, e3, hd _ ?_⟩
    rw [h81 k (by omega), mg, cP_iff.mpr c, if_neg (show ¬ nI (if true = true then 1 else 0) = 0 by decide), show nI o - nI k = nI (o - k) from z_sub (by omega), e1, Option.bind_some, if_neg (show ¬ ((1 : Int32), P1).1 = 0 from (show ¬ (1 : Int32) = 0 by decide))]
    by_cases h : hng D (oS D N k (o - k)) (uS D N k (o - k)) (xH N (xM N - (o - k)))
    · rw [hg.1 h, Option.bind_some, if_neg (by decide), if_pos (cP_iff.mpr ⟨c, h⟩)]
    · rw [hg.2 h, Option.bind_some, if_pos rfl, if_neg (fun q => h (cP_iff.mp q).2)]
  · refine ⟨P, only75.rf P, hd _ ?_⟩
    rw [h81 k (by omega), mg, show cP (mtI D N k) = false from ts_nt (fun q => c (cP_iff.mp q)), if_pos (show nI (if false = true then 1 else 0) = 0 by decide), if_neg (fun q => c (cP_iff.mp q).1)]
theorem fo_none (hD : WD D) (hN : WN D N) (ht : xT N = true) {both : Bool} {o mf : Nat} (ho : o ≤ xM N) (hmf : mf ≤ o) (hb : mf = 0 ∨ both = true) (no : ∀ i, i ≤ mf → ¬ wlU D N i (o - i)) : ∀ (m k n : Nat) (P : PH), k + m = mf + 1 → m < n → UnT D N P → CD 3 D P → R81 D N both P → ∃ Q, Un_findOf_2 (nI o) (nI mf) n (nI k) P = some Q ∧ only75 P Q := by
  have hM := (hN ht).2.2.1
  intro m
  induction m with
  | zero =>
    intro k n P hk hn hU hC h81
    obtain ⟨n, rfl⟩ : ∃ q, n = q + 1 := ⟨n - 1, by omega⟩
    refine ⟨P, ?_, only75.rf P⟩
    unfold Un_findOf_2
    rw [if_pos (nI_lt (by omega) (by omega))]
  | succ m ih =>
    intro k n P hk hn hU hC h81
    obtain ⟨n, rfl⟩ : ∃ q, n = q + 1 := ⟨n - 1, by omega⟩
    obtain ⟨P1, a1, a2⟩ := fo_step (n := n) hD hN ht ho hmf hb (show k ≤ mf by omega) hU hC h81
    rw [if_neg (fun q => no k (by omega) (cP_iff.mp q))] at a2
    obtain ⟨Q, f1, f2⟩ := ih (k + 1) n P1 (by omega) (by omega) (hU.keep a1.u) (hC.keep75 a1) (fun i hi => by rw [(a1 81 (by decide)).1]; exact h81 i hi)
    exact ⟨Q, a2.trans f1, a1.tr f2⟩
theorem fo_hit (hD : WD D) (hN : WN D N) (ht : xT N = true) {both : Bool} {o mf i : Nat} (ho : o ≤ xM N) (hmf : mf ≤ o) (hb : mf = 0 ∨ both = true) (hi : i ≤ mf) (yes : wlU D N i (o - i)) (no : ∀ j, j < i → ¬ wlU D N j (o - j)) : ∀ (m k n : Nat) (P : PH), k + m = i → m < n → UnT D N P → CD 3 D P → R81 D N both P → ∃ Q, Un_findOf_2 (nI o) (nI mf) n (nI k) P = some Q ∧ Q.1 77 0 = nI i ∧ Q.1 77 1 = nI (o - i) ∧ Q.1 81 = P.1 81 ∧ oU P Q := by
  have hM := (hN ht).2.2.1
  intro m
  induction m with
  | zero =>
    intro k n P hk hn hU hC h81
    obtain ⟨n, rfl⟩ : ∃ q, n = q + 1 := ⟨n - 1, by omega⟩
    obtain rfl : k = i := by omega
    obtain ⟨P1, a1, a2⟩ := fo_step (n := n) hD hN ht ho hmf hb hi hU hC h81
    rw [if_pos (cP_iff.mpr yes)] at a2
    refine ⟨sI (sI P1 77 0 (nI k)) 77 1 (nI (o - k)), a2.trans ?_, ?_, ?_, ?_, (a1.u.s77 (by decide) _).s77 (by decide) _⟩
    · unfold Un_findOf_46
      rw [Option.bind_some, show nI o - nI k = nI (o - k) from z_sub (by omega), Option.bind_some]
    · rw [rowI_s, pk_un (by decide), rowI_s, pk_us]
    · rw [rowI_s, pk_us]
    · rw [rowI_o _ _ _ (by decide), rowI_o _ _ _ (by decide), (a1 81 (by decide)).1]
  | succ m ih =>
    intro k n P hk hn hU hC h81
    obtain ⟨n, rfl⟩ : ∃ q, n = q + 1 := ⟨n - 1, by omega⟩
    obtain ⟨P1, a1, a2⟩ := fo_step (n := n) hD hN ht ho hmf hb (show k ≤ mf by omega) hU hC h81
    rw [if_neg (fun q => no k (by omega) (cP_iff.mp q))] at a2
    obtain ⟨Q, f1, f2, f3, f4, f5⟩ := ih (k + 1) n P1 (by omega) (by omega) (hU.keep a1.u) (hC.keep75 a1) (fun i hi => by rw [(a1 81 (by decide)).1]; exact h81 i hi)
    exact ⟨Q, a2.trans f1, f2, f3, f4.trans (a1 81 (by decide)).1, a1.u.tr f5⟩
theorem f80_one (hN : WN D N) (ht : xT N = true) {both : Bool} {k n : Nat} (hk : k ≤ xM N) (h8 : P.1 77 8 = nI (xM N)) (h0 : P.1 77 0 = m1) : Un_find_80 (if both then 1 else 0) (n + 1) (nI k) P = (Un_findOf (nI k) (nI (mfU N both k)) P).bind fun (x115 : PH) => Un_find_80 (if both then 1 else 0) n (nI (k + 1)) x115 := by
  have hM := (hN ht).2.2.1
  have k1 : nI k + 1 = nI (k + 1) := nI_1 _
  unfold mfU
  conv => lhs; unfold Un_find_80
  rw [h8, if_neg (by rw [z_lt (by omega) (by omega)]; omega), h0, if_pos (show m1 = (-1 : Int32) from rfl)]
  unfold Un_find_115
  rw [k1]
  cases both
  · rw [if_pos (show (if false = true then (1 : Int32) else 0) = 0 from rfl)]
    rfl
  · rw [if_neg (show ¬ (if true = true then (1 : Int32) else 0) = 0 from by decide)]
    by_cases c : k < xM N
    · rw [if_neg (nI_ge c (by omega)), decide_eq_true c]
      rfl
    · rw [if_pos (by rw [z_le (by omega) (by omega)]; omega), decide_eq_false c]
      rfl
theorem f80_none (hD : WD D) (hN : WN D N) (ht : xT N = true) {both : Bool} (no : ∀ o, o ≤ xM N → ∀ i, i ≤ mfU N both o → ¬ wlU D N i (o - i)) : ∀ (m k n : Nat) (P : PH), k + m = xM N + 1 → m < n → UnT D N P → CD 3 D P → R81 D N both P → P.1 77 0 = m1 → ∃ Q, Un_find_80 (if both then 1 else 0) n (nI k) P = some Q ∧ Q.1 77 0 = m1 ∧ oU P Q := by
  have hM := (hN ht).2.2.1
  intro m
  induction m with
  | zero =>
    intro k n P hk hn hU hC h81 h0
    obtain ⟨n, rfl⟩ : ∃ q, n = q + 1 := ⟨n - 1, by omega⟩
    refine ⟨P, ?_, h0, oU.rf P⟩
    unfold Un_find_80
    rw [hU.1, if_pos (nI_lt (by omega) (by omega))]
  | succ m ih =>
    intro k n P hk hn hU hC h81 h0
    obtain ⟨n, rfl⟩ : ∃ q, n = q + 1 := ⟨n - 1, by omega⟩
    obtain ⟨a, b⟩ := mfU_le N both k
    obtain ⟨P1, e1, e2⟩ := fo_none hD hN ht (show k ≤ xM N by omega) a b (no k (by omega)) (mfU N both k + 1) 0 bigN P (by omega) (big_gt (by omega)) hU hC h81
    obtain ⟨Q, f1, f2, f3⟩ := ih (k + 1) n P1 (by omega) (by omega) (hU.keep e2.u) (hC.keep75 e2) (fun i hi => by rw [(e2 81 (by decide)).1]; exact h81 i hi) (by rw [(e2 77 (by decide)).1]; exact h0)
    refine ⟨Q, ?_, f2, e2.u.tr f3⟩
    rw [f80_one hN ht (by omega) hU.1 h0]
    unfold Un_findOf
    rw [show (0 : Int32) = nI 0 from rfl, e1, Option.bind_some]
    exact f1
theorem f80_hit (hD : WD D) (hN : WN D N) (ht : xT N = true) {both : Bool} {o i : Nat} (ho : o ≤ xM N) (hi : i ≤ mfU N both o) (yes : wlU D N i (o - i)) (no1 : ∀ j, j < i → ¬ wlU D N j (o - j)) (no : ∀ o', o' < o → ∀ i, i ≤ mfU N both o' → ¬ wlU D N i (o' - i)) : ∀ (m k n : Nat) (P : PH), k + m = o → m + 1 < n → UnT D N P → CD 3 D P → R81 D N both P → P.1 77 0 = m1 → ∃ Q, Un_find_80 (if both then 1 else 0) n (nI k) P = some Q ∧ Q.1 77 0 = nI i ∧ Q.1 77 1 = nI (o - i) ∧ oU P Q := by
  have hM := (hN ht).2.2.1
  intro m
  induction m with
  | zero =>
    intro k n P hk hn hU hC h81 h0
    obtain ⟨n, rfl⟩ : ∃ q, n = q + 2 := ⟨n - 2, by omega⟩
    obtain rfl : k = o := by omega
    obtain ⟨a, b⟩ := mfU_le N both k
    obtain ⟨Q, e1, e2, e3, e4, e5⟩ := fo_hit hD hN ht ho a b hi yes no1 i 0 bigN P (by omega) (big_gt (by omega)) hU hC h81
    refine ⟨Q, ?_, e2, e3, e5⟩
    rw [f80_one hN ht (by omega) hU.1 h0]
    unfold Un_findOf
    rw [show (0 : Int32) = nI 0 from rfl, e1, Option.bind_some]
    unfold Un_find_80
    rw [e2, if_neg (show ¬ nI i = (-1 : Int32) from nI_nm (by omega)), ite_self]
  | succ m ih =>
    intro k n P hk hn hU hC h81 h0
    obtain ⟨n, rfl⟩ : ∃ q, n = q + 1 := ⟨n - 1, by omega⟩
    obtain ⟨a, b⟩ := mfU_le N both k
    obtain ⟨P1, e1, e2⟩ := fo_none hD hN ht (show k ≤ xM N by omega) a b (no k (by omega)) (mfU N both k + 1) 0 bigN P (by omega) (big_gt (by omega)) hU hC h81
    obtain ⟨Q, f1, f2, f3, f4⟩ := ih (k + 1) n P1 (by omega) (by omega) (hU.keep e2.u) (hC.keep75 e2) (fun i hi => by rw [(e2 81 (by decide)).1]; exact h81 i hi) (by rw [(e2 77 (by decide)).1]; exact h0)
    refine ⟨Q, ?_, f2, f3, e2.u.tr f4⟩
    rw [f80_one hN ht (by omega) hU.1 h0]
    unfold Un_findOf
    rw [show (0 : Int32) = nI 0 from rfl, e1, Option.bind_some]
    exact f1
/-- the search's answer -/
theorem un_ex (D : DT) (N : NT) (both : Bool) : (∀ o, o ≤ xM N → ∀ i, i ≤ mfU N both o → ¬ wlU D N i (o - i)) ∨ ∃ o i, o ≤ xM N ∧ i ≤ mfU N both o ∧ wlU D N i (o - i) ∧ (∀ j, j < i → ¬ wlU D N j (o - j)) ∧ ∀ o', o' < o → ∀ i, i ≤ mfU N both o' → ¬ wlU D N i (o' - i) := by
  by_cases c : ∃ o, o < xM N + 1 ∧ cP (∃ i, i ≤ mfU N both o ∧ wlU D N i (o - i)) = true
  · obtain ⟨o, o1, o2, o3⟩ := fb_first (p := fun o => cP (∃ i, i ≤ mfU N both o ∧ wlU D N i (o - i)) = true) c
    obtain ⟨i0, i1, i2⟩ := cP_iff.mp o2
    obtain ⟨i, j1, j2, j3⟩ := fb_first (p := fun i => cP (wlU D N i (o - i)) = true) (n := mfU N both o + 1) ⟨i0, by omega, cP_iff.mpr i2⟩
    exact Or.inr ⟨o, i, by omega, by omega, cP_iff.mp j2, fun j hj q => j3 j hj (cP_iff.mpr q), fun o' ho i hi q => o3 o' ho (cP_iff.mpr ⟨i, hi, q⟩)⟩
  · exact Or.inl (fun o ho i hi q => c ⟨o, by omega, cP_iff.mpr ⟨i, hi, q⟩⟩)
/-! the reference's loops -/
theorem mu_one (hD : WD D) (hN : WN D N) (ht : xT N = true) {both : Bool} {o k n : Nat} (v2 : Int32) (r52 : Int32 → PH → Option (Int32 × PH)) (ho : o ≤ xM N) (hk : k ≤ mfU N both o) (hR : RD D (P.1 88)) (hRN : RN D N (P.1 88)) : ∃ Q, Mo_unpicked_61 r52 (if both then 1 else 0) v2 (nI (xM N)) (nI o) (n + 1) (nI k) P = (if cP (wlU D N k (o - k)) then Mo_unpicked_96 v2 (nI o) (nI k) Q else Mo_unpicked_61 r52 (if both then 1 else 0) v2 (nI (xM N)) (nI o) n (nI (k + 1)) Q) ∧ RD D (Q.1 88) ∧ RN D N (Q.1 88) ∧ onlyW P Q := by
  have hM := (hN ht).2.2.1
  obtain ⟨a, b⟩ := mfU_le N both o
  have k1 : nI k + 1 = nI (k + 1) := nI_1 _
  obtain ⟨Q, e1, e2, e3, e4⟩ := mo_isWell hD hN ht (i := k) (j := o - k) (by omega) (fun q => by
    have ko : k ≤ o := Nat.le_trans hk a
    unfold mfU at hk
    rw [decide_eq_false (show ¬ o < xM N by omega), Bool.and_false] at hk
    have hk : k ≤ 0 := hk
    omega) hR hRN
  refine ⟨Q, ?_, e2, e3, e4⟩
  have g : ∀ s0 : Nat, s0 = mfU N both o → Mo_unpicked_79 r52 (Mo_unpicked_61 r52 (if both then 1 else 0) v2 (nI (xM N)) (nI o) n) (if both then 1 else 0) v2 (nI (xM N)) (nI o) (nI k) (nI s0) (nI k) P = (if cP (wlU D N k (o - k)) then Mo_unpicked_96 v2 (nI o) (nI k) Q else Mo_unpicked_61 r52 (if both then 1 else 0) v2 (nI (xM N)) (nI o) n (nI (k + 1)) Q) := by
    intro s0 hs
    unfold Mo_unpicked_79
    rw [if_neg (by rw [z_lt (by omega) (by omega)]; omega), show nI o - nI k = nI (o - k) from z_sub (by omega), e1, Option.bind_some, k1]
    cases cP (wlU D N k (o - k))
    · rfl
    · rfl
  conv => lhs; unfold Mo_unpicked_61
  unfold mfU at g
  cases both
  · rw [if_pos (show (if false = true then (1 : Int32) else 0) = 0 from rfl)]
    exact g 0 rfl
  · rw [if_neg (show ¬ (if true = true then (1 : Int32) else 0) = 0 from by decide)]
    by_cases c : o < xM N
    · rw [if_neg (nI_ge c (by omega))]
      exact g o (by rw [decide_eq_true c]; rfl)
    · rw [if_pos (by rw [z_le (by omega) (by omega)]; omega)]
      exact g 0 (by rw [decide_eq_false c]; rfl)
theorem mu_61 (hD : WD D) (hN : WN D N) (ht : xT N = true) {both : Bool} {o : Nat} (v2 : Int32) (r52 : Int32 → PH → Option (Int32 × PH)) (ho : o ≤ xM N) (no : ∀ i, i ≤ mfU N both o → ¬ wlU D N i (o - i)) : ∀ (m k n : Nat) (P : PH), k + m = mfU N both o + 1 → m < n → RD D (P.1 88) → RN D N (P.1 88) → ∃ Q, Mo_unpicked_61 r52 (if both then 1 else 0) v2 (nI (xM N)) (nI o) n (nI k) P = r52 (nI (o + 1)) Q ∧ RD D (Q.1 88) ∧ RN D N (Q.1 88) ∧ onlyW P Q := by
  have hM := (hN ht).2.2.1
  obtain ⟨a, b⟩ := mfU_le N both o
  intro m
  induction m with
  | zero =>
    intro k n P hk hn hR hRN
    obtain ⟨n, rfl⟩ : ∃ q, n = q + 1 := ⟨n - 1, by omega⟩
    refine ⟨P, ?_, hR, hRN, onlyW.rf P⟩
    have g : ∀ s0 : Nat, s0 = mfU N both o → Mo_unpicked_79 r52 (Mo_unpicked_61 r52 (if both then 1 else 0) v2 (nI (xM N)) (nI o) n) (if both then 1 else 0) v2 (nI (xM N)) (nI o) (nI k) (nI s0) (nI k) P = r52 (nI (o + 1)) P := by
      intro s0 hs
      unfold Mo_unpicked_79
      rw [if_pos (nI_lt (by omega) (by omega)), show nI o + 1 = nI (o + 1) from nI_1 _]
    unfold Mo_unpicked_61
    unfold mfU at g
    cases both
    · rw [if_pos (show (if false = true then (1 : Int32) else 0) = 0 from rfl)]
      exact g 0 rfl
    · rw [if_neg (show ¬ (if true = true then (1 : Int32) else 0) = 0 from by decide)]
      by_cases c : o < xM N
      · rw [if_neg (nI_ge c (by omega))]
        exact g o (by rw [decide_eq_true c]; rfl)
      · rw [if_pos (by rw [z_le (by omega) (by omega)]; omega)]
        exact g 0 (by rw [decide_eq_false c]; rfl)
  | succ m ih =>
    intro k n P hk hn hR hRN
    obtain ⟨n, rfl⟩ : ∃ q, n = q + 1 := ⟨n - 1, by omega⟩
    obtain ⟨Q1, a1, a2, a3, a4⟩ := mu_one (n := n) hD hN ht v2 r52 ho (show k ≤ mfU N both o by omega) hR hRN
    rw [if_neg (fun q => no k (by omega) (cP_iff.mp q))] at a1
    obtain ⟨Q, f1, f2, f3, f4⟩ := ih (k + 1) n Q1 (by omega) (by omega) a2 a3
    exact ⟨Q, a1.trans f1, f2, f3, a4.tr f4⟩
theorem mu_61h (hD : WD D) (hN : WN D N) (ht : xT N = true) {both : Bool} {o i : Nat} (v2 : Int32) (r52 : Int32 → PH → Option (Int32 × PH)) (ho : o ≤ xM N) (hi : i ≤ mfU N both o) (yes : wlU D N i (o - i)) (no : ∀ j, j < i → ¬ wlU D N j (o - j)) : ∀ (m k n : Nat) (P : PH), k + m = i → m < n → RD D (P.1 88) → RN D N (P.1 88) → ∃ Q, Mo_unpicked_61 r52 (if both then 1 else 0) v2 (nI (xM N)) (nI o) n (nI k) P = Mo_unpicked_96 v2 (nI o) (nI i) Q ∧ RD D (Q.1 88) ∧ RN D N (Q.1 88) ∧ onlyW P Q := by
  intro m
  induction m with
  | zero =>
    intro k n P hk hn hR hRN
    obtain ⟨n, rfl⟩ : ∃ q, n = q + 1 := ⟨n - 1, by omega⟩
    obtain rfl : k = i := by omega
    obtain ⟨Q1, a1, a2, a3, a4⟩ := mu_one (n := n) hD hN ht v2 r52 ho hi hR hRN
    rw [if_pos (cP_iff.mpr yes)] at a1
    exact ⟨Q1, a1, a2, a3, a4⟩
  | succ m ih =>
    intro k n P hk hn hR hRN
    obtain ⟨n, rfl⟩ : ∃ q, n = q + 1 := ⟨n - 1, by omega⟩
    obtain ⟨Q1, a1, a2, a3, a4⟩ := mu_one (n := n) hD hN ht v2 r52 ho (show k ≤ mfU N both o by omega) hR hRN
    rw [if_neg (fun q => no k (by omega) (cP_iff.mp q))] at a1
    obtain ⟨Q, f1, f2, f3, f4⟩ := ih (k + 1) n Q1 (by omega) (by omega) a2 a3
    exact ⟨Q, a1.trans f1, f2, f3, a4.tr f4⟩
theorem mu_52 (hD : WD D) (hN : WN D N) (ht : xT N = true) {both : Bool} (v2 : Int32) (o : Nat) (no : ∀ o', o' < o → ∀ i, i ≤ mfU N both o' → ¬ wlU D N i (o' - i)) (ho : o ≤ xM N + 1) : ∀ (m k n : Nat) (P : PH), k + m = o → m < n → RD D (P.1 88) → RN D N (P.1 88) → ∃ (Q : PH) (n' : Nat), n = n' + m ∧ Mo_unpicked_52 (if both then 1 else 0) v2 (nI (xM N)) n (nI k) P = Mo_unpicked_52 (if both then 1 else 0) v2 (nI (xM N)) n' (nI o) Q ∧ RD D (Q.1 88) ∧ RN D N (Q.1 88) ∧ onlyW P Q := by
  have hM := (hN ht).2.2.1
  intro m
  induction m with
  | zero =>
    intro k n P hk hn hR hRN
    obtain rfl : k = o := by omega
    exact ⟨P, n, rfl, rfl, hR, hRN, onlyW.rf P⟩
  | succ m ih =>
    intro k n P hk hn hR hRN
    obtain ⟨n, rfl⟩ : ∃ q, n = q + 1 := ⟨n - 1, by omega⟩
    obtain ⟨a, b⟩ := mfU_le N both k
    obtain ⟨Q1, a1, a2, a3, a4⟩ := mu_61 hD hN ht v2 (Mo_unpicked_52 (if both then 1 else 0) v2 (nI (xM N)) n) (show k ≤ xM N by omega) (no k (by omega)) (mfU N both k + 1) 0 bigN P (by omega) (big_gt (by omega)) hR hRN
    obtain ⟨Q, n', e, f1, f2, f3, f4⟩ := ih (k + 1) n Q1 (by omega) (by omega) a2 a3
    refine ⟨Q, n', by omega, ?_, f2, f3, a4.tr f4⟩
    rw [← f1]
    conv => lhs; unfold Mo_unpicked_52
    rw [if_neg (by rw [z_lt (by omega) (by omega)]; omega)]
    exact a1
theorem call_unpicked (h : INVx D N P) (both : Bool) (v : Int32) : callQ (Bs_unpicked (if both then 1 else 0) v P) (Mo_unpicked (if both then 1 else 0) v) [ISE, IAE] P := by
  obtain ⟨hD, hN, hR, hRN, hC, hCN, hRest⟩ := id h
  have thr : ∀ t : Nat, 0 < t → t ≤ 2 → (∀ Q, INVx D N Q → Mo_unpicked (if both then 1 else 0) v Q = Mo_unpicked_29 (if both then 1 else 0) v (nI t) Q) → moI D N (Mo_unpicked (if both then 1 else 0) v) (t, 0) := fun t t0 t2 hm => moI.thr (fun _ => 0) (fun Q hQ => by
    rw [hm Q hQ]
    unfold Mo_unpicked_29
    rw [Option.bind_some, at5, if_neg (show ¬ nI t ≤ (0 : Int32) from (show ¬ nI t ≤ nI 0 by rw [z_le (by omega) (by omega)]; omega))]) (fun q => absurd q (by omega))
  cases ht : xT N with
  | false =>
    refine ⟨(1, 0), P, by decide, ?_, moI.aft h (thr 1 (by decide) (by decide) (fun Q hQ => ?_))⟩
    · unfold Bs_unpicked; rw [ckThread hCN, ht]; rfl
    · unfold Mo_unpicked
      rw [mo_isThere hQ.2.2.2.1, ht, Option.bind_some, if_pos (by decide)]
      rfl
  | true =>
    have hM := (hN ht).2.2.1
    rcases three v 3 (by decide) with o | ⟨w, hw, rfl⟩
    · refine ⟨(2, 0), P, by decide, ?_, moI.aft h (thr 2 (by decide) (by decide) (fun Q hQ => ?_))⟩
      · unfold Bs_unpicked Bs_unpicked_13
        rw [ckThread hCN, ht]
        show (if v < 0 then some (Sum.inl IAE, P) else if v ≤ (2 : Int32) then _ else some (Sum.inl IAE, P)) = _
        rcases o with o | o
        · rw [if_pos o]; rfl
        · rw [if_neg (big_not (by decide) o).1, if_neg (show ¬ v ≤ (2 : Int32) from fun q => by
            rw [fa_le] at o q
            rw [nI_toInt (by decide)] at o
            rw [show (2 : Int32).toInt = 2 by decide] at q
            omega)]
          rfl
      · unfold Mo_unpicked
        rw [mo_isThere hQ.2.2.2.1, ht, Option.bind_some, if_neg (by decide), w_out 2 2 (by decide) rfl (by decide) o, Option.bind_some, if_pos rfl]
        rfl
    · obtain ⟨Pa, a1, a2, a3⟩ := un_trace hD hN ht hC hCN
      obtain ⟨Pb, hPb⟩ : ∃ Pb, Pb = sI (sI Pa 77 0 (-1 : Int32)) 77 1 (-1 : Int32) := ⟨_, rfl⟩
      have ob : oU Pa Pb := by rw [hPb]; exact ((oU.rf Pa).s77 (by decide) _).s77 (by decide) _
      have b0 : Pb.1 77 0 = m1 := by rw [hPb, rowI_s, pk_un (by decide), rowI_s, pk_us]; rfl
      obtain ⟨Pc, c1, c2, c3, c4⟩ := un_f17 hD hN ht both 121 0 bigN Pb rfl (big_gt (by omega)) (a2.keep ob) ((hC.kT a3).kU ob) (fun i hi => by omega)
      have oc := ob.tr c4
      have c0 : Pc.1 77 0 = m1 := by rw [c3]; exact b0
      have fnd : ∀ Z, Un_find_80 (if both then 1 else 0) bigN (nI 0) Pc = Z → Un_find 43 (if both then 1 else 0) P = Z := by
        intro Z hZ
        unfold Un_find
        rw [a1, Option.bind_some, Option.bind_some, Option.bind_some, ← hPb]
        exact c1.trans hZ
      have bs : ∀ (Q : PH) (Z : Option ((String ⊕ Int32) × PH)), Un_find 43 (if both then 1 else 0) P = some Q → (if (Q.1 77 0) = (-1 : Int32) then some (Sum.inr (Q.1 77 0), Q) else if nI w = (1 : Int32) then some (Sum.inr (Q.1 77 0), Q) else if nI w = 0 then some (Sum.inr ((Q.1 77 0) + (Q.1 77 1)), Q) else some (Sum.inr (Q.1 77 1), Q)) = Z → Bs_unpicked (if both then 1 else 0) (nI w) P = Z := by
        intro Q Z e hZ
        unfold Bs_unpicked
        rw [ckThread hCN, ht]
        show (if nI w < 0 then Bs_unpicked_13 P else if nI w ≤ (2 : Int32) then _ else Bs_unpicked_13 P) = _
        rw [if_neg (nI_pos (by omega)), if_pos (show nI w ≤ (2 : Int32) from (show nI w ≤ nI 2 by rw [z_le (by omega) (by omega)]; omega)), e, Option.bind_some]
        exact hZ
      -- the reference's head
      have head : ∀ (P2 : PH), INVx D N P2 → Mo_unpicked (if both then 1 else 0) (nI w) P2 = Mo_unpicked_52 (if both then 1 else 0) (nI w) (nI (xM N)) bigN (nI 0) (sI P2 1 5 (nI 0)) := by
        intro P2 h2
        have q := h2.s5 (nI 0)
        unfold Mo_unpicked Mo_unpicked_29
        rw [mo_isThere h2.2.2.2.1, ht, Option.bind_some, if_neg (by decide), w_in 2 2 (by decide) rfl (by decide) hw, Option.bind_some, if_neg (by decide), Option.bind_some, if_pos (show (sI P2 1 5 (0 : Int32)).1 1 5 ≤ 0 by rw [at5]; decide), gd6, show (sI P2 1 5 (0 : Int32)).1 88 (6 : Int32).toNatClampNeg = nI (xM N) from mo_6 q.2.2.2.1 ht, Option.bind_some]
        rfl
      have aft : ∀ (P1 : PH) (r : Int32), INVx D N P1 → (∀ P2, INVx D N P2 → ∃ Q, Mo_unpicked (if both then 1 else 0) (nI w) P2 = some (r, Q) ∧ RD D (Q.1 88) ∧ RN D N (Q.1 88) ∧ onlyW (sI P2 1 5 (nI 0)) Q) → mAft (Mo_unpicked (if both then 1 else 0) (nI w)) (0, r) P1 := by
        intro P1 r h1 hm P2 hP2
        have h2 := h1.scr hP2.scr
        have q := h2.s5 (nI 0)
        obtain ⟨Q, e1, e2, e3, o⟩ := hm P2 h2
        refine ⟨r, Q, e1, ?_, ?_, fun _ => rfl, D, N, INVx.of hD hN e2 e3 ?_ ?_ (q.rest.keep o.W)⟩
        · rw [o.2.1 5 (by decide) (by decide)]; exact at5 _ _
        · rw [o.2.2]; rfl
        · exact q.2.2.2.2.1.keep (o.1 _ (by decide) (by decide) (by decide) (by decide) (by decide)) (o.1 _ (by decide) (by decide) (by decide) (by decide) (by decide)) (o.1 _ (by decide) (by decide) (by decide) (by decide) (by decide)) (o.1 _ (by decide) (by decide) (by decide) (by decide) (by decide)) (o.1 _ (by decide) (by decide) (by decide) (by decide) (by decide)) (by rw [o.2.2]) (by rw [o.2.2]) (o.1 _ (by decide) (by decide) (by decide) (by decide) (by decide))
        · exact q.2.2.2.2.2.1.rows (o.1 _ (by decide) (by decide) (by decide) (by decide) (by decide)) (o.1 _ (by decide) (by decide) (by decide) (by decide) (by decide)) (by rw [o.2.2])
      rcases un_ex D N both with no | ⟨o, i, ho, hi, yes, no1, no⟩
      · obtain ⟨P1, d1, d2, d3⟩ := f80_none hD hN ht no (xM N + 1) 0 bigN Pc (by omega) (big_gt (by omega)) (a2.keep oc) ((hC.kT a3).kU oc) c2 c0
        refine ⟨(0, m1), P1, Nat.zero_le _, bs P1 _ (fnd _ d1) ?_, aft P1 m1 (h.scr (a3.scr.tr (oc.tr d3).scr)) (fun P2 h2 => ?_)⟩
        · rw [d2, if_pos (show m1 = (-1 : Int32) from rfl)]; rfl
        · have q := h2.s5 (nI 0)
          obtain ⟨Q, n', e, f1, f2, f3, f4⟩ := mu_52 hD hN ht (nI w) (xM N + 1) (fun o' ho' => no o' (by omega)) (Nat.le_refl _) (xM N + 1) 0 bigN (sI P2 1 5 (nI 0)) (by omega) (big_gt (by omega)) q.2.2.1 q.2.2.2.1
          refine ⟨Q, ?_, f2, f3, f4⟩
          rw [head P2 h2, f1]
          obtain ⟨n', rfl⟩ : ∃ q, n' = q + 1 := ⟨n' - 1, by have : (1000 : Nat) < bigN := big_gt (by omega); omega⟩
          unfold Mo_unpicked_52
          rw [if_pos (nI_lt (by omega) (by omega))]
          rfl
      · obtain ⟨mo1, mo2⟩ := mfU_le N both o
        obtain ⟨P1, d1, d2, d3, d4⟩ := f80_hit hD hN ht ho hi yes no1 no o 0 bigN Pc (by omega) (big_gt (by omega)) (a2.keep oc) ((hC.kT a3).kU oc) c2 c0
        refine ⟨(0, if w = 0 then nI o else if w = 1 then nI i else nI (o - i)), P1, Nat.zero_le _, bs P1 _ (fnd _ d1) ?_, aft P1 _ (h.scr (a3.scr.tr (oc.tr d4).scr)) (fun P2 h2 => ?_)⟩
        · rw [d2, d3, if_neg (show ¬ nI i = (-1 : Int32) from nI_nm (by omega)), nI_add, show i + (o - i) = o by omega]
          rcases (show w = 0 ∨ w = 1 ∨ w = 2 by omega) with rfl | rfl | rfl <;> rfl
        · have q := h2.s5 (nI 0)
          obtain ⟨Q1, n', e, f1, f2, f3, f4⟩ := mu_52 hD hN ht (nI w) o no (by omega) o 0 bigN (sI P2 1 5 (nI 0)) (by omega) (big_gt (by omega)) q.2.2.1 q.2.2.2.1
          obtain ⟨n', rfl⟩ : ∃ q, n' = q + 1 := ⟨n' - 1, by have : (1000 : Nat) < bigN := big_gt (by omega); omega⟩
          obtain ⟨Q, g1, g2, g3, g4⟩ := mu_61h hD hN ht (nI w) (Mo_unpicked_52 (if both then 1 else 0) (nI w) (nI (xM N)) n') ho hi yes no1 i 0 bigN Q1 (by omega) (big_gt (by omega)) f2 f3
          refine ⟨Q, ?_, g2, g3, f4.tr g4⟩
          rw [head P2 h2, f1]
          unfold Mo_unpicked_52
          rw [if_neg (by rw [z_lt (by omega) (by omega)]; omega)]
          refine Eq.trans g1 ?_
          unfold Mo_unpicked_96
          rw [show nI o - nI i = nI (o - i) from z_sub (by omega)]
          rcases (show w = 0 ∨ w = 1 ∨ w = 2 by omega) with rfl | rfl | rfl <;> rfl
end UNC
