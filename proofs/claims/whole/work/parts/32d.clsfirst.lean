/-! THE FIRST WORKING: the class -/
def o75 (P Q : PH) : Prop := only75 P Q ∧ Q.1 75 9 = P.1 75 9
theorem o75.rf (P : PH) : o75 P P := ⟨only75.rf P, rfl⟩
theorem o75.tr {P Q R : PH} (h : o75 P Q) (h2 : o75 Q R) : o75 P R := ⟨h.1.tr h2.1, h2.2.trans h.2⟩
theorem o75.si {P Q : PH} (h : o75 P Q) {k : Nat} (hk : k ≠ 9) (v : Int32) : o75 P (sI Q 75 k v) := ⟨fun n a => by rw [rowI_o _ _ _ a]; exact h.1 n a, by rw [rowI_s, pk_un (fun q => hk q.symm)]; exact h.2⟩
theorem o75.sl {P Q : PH} (h : o75 P Q) (k : Nat) (v : Int64) : o75 P (sL Q 75 k v) := ⟨fun n a => by rw [rowL_o _ _ _ a]; exact h.1 n a, h.2⟩
theorem bit_fl {n l : Nat} (hl : l < n) (hn : n ≤ 60) {x : Int64} {p : Nat → Bool} (hx : ∀ i, i < 64 → bL x i = (decide (i < n) && p i)) : ∀ i, i < 64 → bL (x ^^^ ((1 : Int64) <<< ((nI l).toInt64 &&& 63))) i = (decide (i < n) && (p i ^^ decide (i = l))) := by
  intro i hi
  rw [bL_xor, hx i hi, bL_sh (by omega)]
  by_cases c : i = l
  · rw [c]; simp [hl]
  · simp [c]
section FWC
variable {D : DT} {N : NT} {P : PH} {O U : Nat → Bool} {h : Nat} {b : Bool}
theorem rs_turn (hD : WD D) (hS : RSt D O U h b P) {l : Nat} (hl : l < dN D) : ∃ Q, Rs_turn (nI l) P = some Q ∧ RSt D (stO O b l) (stU U b l) h b Q ∧ o75 P Q ∧ Q.1 = P.1 := by
  have h60 := hD.1
  obtain ⟨s1, s2, s3, s4⟩ := hS
  unfold Rs_turn
  rw [s4]
  cases b
  · rw [if_pos (by decide), Option.bind_some]
    refine ⟨_, rfl, ⟨?_, ?_, s3, s4⟩, (o75.rf P).sl _ _, rfl⟩
    · rw [rowL_s, pk_uLn (by decide)]; exact s1
    · rw [rowL_s, pk_uLs]; exact bit_fl hl h60 s2
  · rw [if_neg (by decide), Option.bind_some]
    refine ⟨_, rfl, ⟨?_, ?_, s3, s4⟩, (o75.rf P).sl _ _, rfl⟩
    · rw [rowL_s, pk_uLs]; exact bit_fl hl h60 s1
    · rw [rowL_s, pk_uLn (by decide)]; exact s2
theorem rs_along (hD : WD D) (hC : CD 3 D P) (hS : RSt D O U h b P) (hh : h < 144) {l : Nat} (hl : l < dN D) : ∃ Q, Rs_goAlong (nI l) P = some Q ∧ RSt D (stO O b l) (stU U b l) (oth D l h) (!b) Q ∧ o75 P Q := by
  obtain ⟨P1, t1, ⟨t2, t3, t4, t5⟩, t6, t7⟩ := rs_turn hD hS hl
  have key : ∀ s0 : Int32, s0 = nI (if !b then 1 else 0) → ∃ Q, Rs_goAlong_18 (nI l) s0 P1 = some Q ∧ RSt D (stO O b l) (stU U b l) (oth D l h) (!b) Q ∧ o75 P Q := by
    intro s0 hs
    have o1 : o75 P (sI P1 75 7 s0) := t6.si (by decide) _
    refine ⟨sI (sI P1 75 7 s0) 75 6 (nI (oth D l h)), ?_, ⟨t2, t3, ?_, ?_⟩, o1.si (by decide) _⟩
    · unfold Rs_goAlong_18
      rw [show (gdP (s0 = 0 ∨ s0 = 1) : Option PH → Option PH) = fun o => o from funext (fun o => if_pos (by rw [hs]; cases b <;> decide)), Option.bind_some, rowI_s, pk_un (by decide), t4, dr_other hD (hC.keep75 o1.1) hl hh, Option.bind_some, Option.bind_some]
    · rw [rowI_s, pk_us]
    · rw [rowI_s, pk_un (by decide), rowI_s, pk_us, hs]
  unfold Rs_goAlong
  rw [t1, Option.bind_some, t5]
  cases b
  · rw [if_pos (by decide)]; exact key _ rfl
  · rw [if_neg (by decide)]; exact key _ rfl
theorem st_st (v : Bool) (l : Nat) : stO (stO O v l) v l = O ∧ stU (stU U v l) v l = U := by
  have e2 : ∀ p : Nat → Bool, (fun i => (p i ^^ decide (i = l)) ^^ decide (i = l)) = p := fun p => funext (fun i => by cases p i <;> cases decide (i = l) <;> rfl)
  cases v
  · exact ⟨rfl, e2 U⟩
  · exact ⟨e2 O, rfl⟩
theorem rs_alongB (hD : WD D) (hC : CD 3 D P) (hh : h < 144) {l : Nat} (hl : l < dN D) (ha : dat D h l = true) (hS : RSt D (stO O b l) (stU U b l) (oth D l h) (!b) P) : ∃ Q, Rs_goBackAlong (nI l) P = some Q ∧ RSt D O U h b Q ∧ o75 P Q := by
  have o := oth_oth hD hl ha
  obtain ⟨s1, s2, s3, s4⟩ := hS
  have key : ∀ s0 : Int32, s0 = nI (if b then 1 else 0) → ∃ Q, Rs_goBackAlong_13 (nI l) s0 P = some Q ∧ RSt D O U h b Q ∧ o75 P Q := by
    intro s0 hs
    have o1 : o75 P (sI P 75 7 s0) := (o75.rf P).si (by decide) _
    obtain ⟨P1, t1, ⟨t2, t3, t4, t5⟩, t6, t7⟩ := rs_turn (P := sI P 75 7 s0) (O := stO O b l) (U := stU U b l) (h := oth D l h) (b := b) hD ⟨s1, s2, by rw [rowI_s, pk_un (by decide)]; exact s3, by rw [rowI_s, pk_us]; exact hs⟩ hl
    rw [(st_st (O := O) (U := U) b l).1] at t2
    rw [(st_st (O := O) (U := U) b l).2] at t3
    have o2 := o1.tr t6
    refine ⟨sI P1 75 6 (nI h), ?_, ⟨t2, t3, ?_, ?_⟩, o2.si (by decide) _⟩
    · unfold Rs_goBackAlong_13
      rw [show (gdP (s0 = 0 ∨ s0 = 1) : Option PH → Option PH) = fun o => o from funext (fun o => if_pos (by rw [hs]; cases b <;> decide)), Option.bind_some, t1, Option.bind_some, t4, dr_other hD (hC.keep75 o2.1) hl o.2.2.1, o.1, Option.bind_some, Option.bind_some]
    · rw [rowI_s, pk_us]
    · rw [rowI_s, pk_un (by decide)]; exact t5
  unfold Rs_goBackAlong
  rw [s4]
  cases b
  · rw [if_neg (by decide)]; exact key _ rfl
  · rw [if_pos (by decide)]; exact key _ rfl
theorem rs_hangs (hD : WD D) (hC : CD 3 D P) (hS : RSt D O U h b P) (hh : h < 144) : (hng D O U h → Rs_hangs P = some 1) ∧ (¬ hng D O U h → Rs_hangs P = some 0) := by
  obtain ⟨w, a1, a2⟩ := rs_apart hD hC hS hh
  unfold Rs_hangs
  rw [a1, Option.bind_some]
  by_cases z : lg_cmp w 0 = 0
  · have f := apart_no hD a2 z
    have hn : hng D O U h := fun i hi s => by
      have := fsp_none f i hi
      rw [s, Bool.true_and] at this
      exact cP_iff.mp (by cases q : cP (Cl D (fun l => O l || U l) h i)
                          · rw [q] at this; cases this
                          · rfl)
    rw [if_pos z]
    exact ⟨fun _ => gd1, fun q => absurd hn q⟩
  · obtain ⟨i, hi, f, g⟩ := apart_is a2 z
    obtain ⟨b1, b2, -⟩ := fsp_some f
    rw [Bool.and_eq_true] at b2
    rw [if_neg z]
    refine ⟨fun q => ?_, fun _ => gd0⟩
    have := cP_iff.mpr (q i b1 b2.1)
    rw [this] at b2
    exact absurd b2.2 (by decide)
def RSN (D : DT) (N : NT) (P : PH) : Prop := RSt D (lO D N (xIk N)) (lU D N (xIk N)) (xH N (xM N)) (ovN N (xM N)) P
theorem RSN.of {w l : Nat} (hD : WD D) (g : gdl D N w l) (s : RSt D (stO (lO D N (xIk N)) (ovN N (xM N)) l) (stU (lU D N (xIk N)) (ovN N (xM N)) l) (oth D l (xH N (xM N))) (!ovN N (xM N)) P) : RSN D (goN N w l) P := by
  show RSt D (lO D (goN N w l) (xIk N)) (lU D (goN N w l) (xIk N)) (xH (goN N w l) (xM N + 1)) (ovN (goN N w l) (xM N + 1)) P
  rw [lO_go g.2.1, lU_go g.2.1, go_hole hD g.1, ov_succ]
  exact s
theorem bit_A (hD : WD D) (hS : RSN D N P) {l : Nat} (hl : l < dN D) : bL (if ovN N (xM N) then P.2 75 4 else P.2 75 5) l = (if ovN N (xM N) then lO D N (xIk N) l else lU D N (xIk N) l) := by
  have h60 := hD.1
  obtain ⟨s1, s2, s3, s4⟩ := hS
  cases ovN N (xM N)
  · show bL (P.2 75 5) l = lU D N (xIk N) l
    rw [s2 l (by omega), decide_eq_true hl, Bool.true_and]
  · show bL (P.2 75 4) l = lO D N (xIk N) l
    rw [s1 l (by omega), decide_eq_true hl, Bool.true_and]
theorem rs_lw (hD : WD D) (hN : WN D N) (ht : xT N = true) (hw : wel D N) {w l : Nat} (hw8 : w < 8) (g : gdl D N w l) (gw : wel D (goN N w l)) (low : ∀ j, j < w → ¬ gdw D N j) : ∀ (m k n : Nat) (P : PH), k + m = w → m < n → CD 3 D P → RSN D N P → ∃ Q, Rs_leastWay_7 (nI (xH N (xM N))) n (nI k) P = some (nI w, Q) ∧ RSN D (goN N w l) Q ∧ o75 P Q := by
  have h60 := hD.1
  have hh := WN.hole hD hN ht (xM N) (Nat.le_refl _)
  have hd : ∀ (n k : Nat) (P : PH) (l' : Nat) (Z : Option (Int32 × PH)), k < 8 → CD 3 D P → RSN D N P → lnA D (xH N (xM N)) k = some l' → Rs_leastWay_46 (Rs_leastWay_7 (nI (xH N (xM N))) n) (nI (xH N (xM N))) (nI k) (nI l') (if ovN N (xM N) then P.2 75 4 else P.2 75 5) P = Z → Rs_leastWay_7 (nI (xH N (xM N))) (n + 1) (nI k) P = Z := by
    intro n k P l' Z hk hC hS e hZ
    have hl := (lnA_stp e hD).2.1
    unfold Rs_leastWay_7
    rw [if_neg (show ¬ (8 : Int32) ≤ nI k from (show ¬ nI 8 ≤ nI k from nI_ge hk (by decide))), dr_lineBy hD hC hh hk, e, Option.bind_some, show enc (some l') = nI l' from rfl, if_neg (show ¬ nI l' = (-1 : Int32) from nI_nm (by omega)), hS.2.2.2]
    cases q : ovN N (xM N)
    · rw [if_pos (by decide)]
      rw [q] at hZ
      exact hZ
    · rw [if_neg (by decide)]
      rw [q] at hZ
      exact hZ
  intro m
  induction m with
  | zero =>
    intro k n P hk hn hC hS
    obtain ⟨n, rfl⟩ : ∃ q, n = q + 1 := ⟨n - 1, by omega⟩
    obtain rfl : k = w := by omega
    have st := lnA_stp g.1 hD
    obtain ⟨P1, a1, a2, a3⟩ := rs_along hD hC hS hh st.2.1
    have hg := (rs_hangs hD (hC.keep75 a3.1) a2 (oth_oth hD st.2.1 st.2.2).2.2.1).1 ((wel_go hD hw g).mp gw)
    refine ⟨P1, hd n k P l _ hw8 hC hS g.1 ?_, RSN.of hD g a2, a3⟩
    unfold Rs_leastWay_46
    rw [if_neg (fun q => by
      rw [lg_bit _ (by omega), bit_A hD hS st.2.1, gd_A g] at q
      cases q), a1, Option.bind_some, hg, Option.bind_some, if_neg (by decide)]
  | succ m ih =>
    intro k n P hk hn hC hS
    obtain ⟨n, rfl⟩ : ∃ q, n = q + 1 := ⟨n - 1, by omega⟩
    have k1 : nI k + 1 = nI (k + 1) := nI_1 _
    cases e : lnA D (xH N (xM N)) k with
    | none =>
      obtain ⟨Q, f1, f2, f3⟩ := ih (k + 1) n P (by omega) (by omega) hC hS
      refine ⟨Q, ?_, f2, f3⟩
      unfold Rs_leastWay_7
      rw [if_neg (show ¬ (8 : Int32) ≤ nI k from (show ¬ nI 8 ≤ nI k from nI_ge (by omega) (by decide))), dr_lineBy hD hC hh (by omega), e, Option.bind_some, if_pos (show enc none = (-1 : Int32) from rfl), k1]
      exact f1
    | some l' =>
      have st := lnA_stp e hD
      by_cases z : (if ovN N (xM N) then lO D N (xIk N) l' else lU D N (xIk N) l') = true
      · have g' : gdl D N k l' := A_gd e z
        have nw : ¬ wel D (goN N k l') := fun q => low k (by omega) ⟨l', g', q⟩
        obtain ⟨P1, a1, a2, a3⟩ := rs_along hD hC hS hh st.2.1
        have hg := (rs_hangs hD (hC.keep75 a3.1) a2 (oth_oth hD st.2.1 st.2.2).2.2.1).2 (fun q => nw ((wel_go hD hw g').mpr q))
        obtain ⟨P2, b1, b2, b3⟩ := rs_alongB hD (hC.keep75 a3.1) hh st.2.1 st.2.2 a2
        obtain ⟨Q, f1, f2, f3⟩ := ih (k + 1) n P2 (by omega) (by omega) ((hC.keep75 a3.1).keep75 b3.1) b2
        refine ⟨Q, hd n k P l' _ (by omega) hC hS e ?_, f2, (a3.tr b3).tr f3⟩
        unfold Rs_leastWay_46
        rw [if_neg (fun q => by
          rw [lg_bit _ (by omega), bit_A hD hS st.2.1, z] at q
          cases q), a1, Option.bind_some, hg, Option.bind_some, if_pos rfl, b1, Option.bind_some, k1]
        exact f1
      · obtain ⟨Q, f1, f2, f3⟩ := ih (k + 1) n P (by omega) (by omega) hC hS
        refine ⟨Q, hd n k P l' _ (by omega) hC hS e ?_, f2, f3⟩
        unfold Rs_leastWay_46
        rw [if_pos (by rw [lg_bit _ (by omega), bit_A hD hS st.2.1]; exact ts_nt z), k1]
        exact f1
def o756 (P Q : PH) : Prop := ∀ n, n ≠ 75 → n ≠ 76 → Q.1 n = P.1 n ∧ Q.2 n = P.2 n
theorem o75.o {P Q : PH} (h : o75 P Q) : o756 P Q := fun n a _ => h.1 n a
theorem o756.tr {P Q R : PH} (h : o756 P Q) (h2 : o756 Q R) : o756 P R := fun n a b => ⟨(h2 n a b).1.trans (h n a b).1, (h2 n a b).2.trans (h n a b).2⟩
theorem CD.k756 {Q : PH} (c : CD 3 D P) (o : o756 P Q) : CD 3 D Q := c.keep (o _ (by decide) (by decide)).1 (o _ (by decide) (by decide)).1 (o _ (by decide) (by decide)).1 (o _ (by decide) (by decide)).1 (o _ (by decide) (by decide)).1 (o _ (by decide) (by decide)).2 (o _ (by decide) (by decide)).2 (o _ (by decide) (by decide)).1
theorem CN.k756 {Q : PH} (c : CN 43 D N P) (o : o756 P Q) : CN 43 D N Q := c.rows (o _ (by decide) (by decide)).1 (o _ (by decide) (by decide)).1 (o _ (by decide) (by decide)).2
theorem o756.scr {P Q : PH} (h : o756 P Q) : scr P Q := ⟨fun n k q => by rw [(h n (fun z => by rw [z] at q; cases q) (fun z => by rw [z] at q; cases q)).1], fun n k q => by rw [(h n (fun z => by rw [z] at q; cases q) (fun z => by rw [z] at q; cases q)).2]⟩
theorem RSN.k6 {Q : PH} (s : RSN D N P) (h0 : ∀ k, k ≠ 9 → Q.1 75 k = P.1 75 k) (h1 : Q.2 75 = P.2 75) : RSN D N Q := by
  obtain ⟨a1, a2, a3, a4⟩ := s
  exact ⟨by rw [h1]; exact a1, by rw [h1]; exact a2, by rw [h0 6 (by decide)]; exact a3, by rw [h0 7 (by decide)]; exact a4⟩
theorem rs_fw (hD : WD D) {T : Nat} (hT : T ≤ 120) : ∀ (m k n : Nat) (N : NT) (P : PH), k + m = T → m < n → WN D N → xT N = true → wel D N → lft D N (xIk N) (dN D) = m → CD 3 D P → RSN D N P → P.1 75 9 = nI k → ∃ Q, Rs_firstWorking_21 (nI T) n (nI k) P = some (nI T, Q) ∧ (∀ j, j < k → Q.1 76 j = P.1 76 j) ∧ (∀ j, j < m → Q.1 76 (k + j) = nI (xD (wkIt D m N) (xM N + j))) ∧ Q.1 75 9 = nI T ∧ o756 P Q := by
  intro m
  induction m with
  | zero =>
    intro k n N P hk hn hN ht hw hl hC hS h9
    obtain ⟨n, rfl⟩ : ∃ q, n = q + 1 := ⟨n - 1, by omega⟩
    obtain rfl : k = T := by omega
    refine ⟨P, ?_, fun _ _ => rfl, fun j hj => by omega, h9, fun _ _ _ => ⟨rfl, rfl⟩⟩
    unfold Rs_firstWorking_21
    rw [if_pos (by rw [z_le (by omega) (by omega)]; exact Nat.le_refl _)]
  | succ m ih =>
    intro k n N P hk hn hN ht hw hl hC hS h9
    obtain ⟨n, rfl⟩ : ∃ q, n = q + 1 := ⟨n - 1, by omega⟩
    obtain ⟨w, l, w8, g, gw, low, ew⟩ := wk1_ok hD hN ht hw (by omega)
    obtain ⟨P1, a1, a2, a3⟩ := rs_lw hD hN ht hw w8 g gw low w 0 bigN P (by omega) (big_gt (by omega)) hC hS
    have lg := lft_go hD g
    obtain ⟨P2, hP2⟩ : ∃ P2, P2 = sI (sI P1 76 k (nI w)) 75 9 (nI (k + 1)) := ⟨_, rfl⟩
    have o2 : o756 P P2 := fun n x y => by
      rw [hP2, rowI_o _ _ _ x, rowI_o _ _ _ y]
      exact a3.1 n x
    have r9 : P2.1 75 9 = nI (k + 1) := by rw [hP2, rowI_s, pk_us]
    have r76 : P2.1 76 = upd (P1.1 76) k (nI w) := by rw [hP2, rowI_o _ _ _ (by decide), rowI_s]
    obtain ⟨Q, f1, f2, f3, f4, f5⟩ := ih (k + 1) n (goN N w l) P2 (by omega) (by omega) (gd_go hD hN ht w8 g) ht gw (by show lft D (goN N w l) (xIk N) (dN D) = m; omega) (hC.k756 o2) (a2.k6 (fun j hj => by rw [hP2, rowI_s, pk_un hj, rowI_o _ _ _ (by decide)]) (by rw [hP2]; rfl)) r9
    have e1 : Rs_leastWay P = some (nI w, P1) := by
      unfold Rs_leastWay
      rw [Option.bind_some, hS.2.2.1]
      exact a1
    refine ⟨Q, ?_, fun j hj => ?_, fun j hj => ?_, f4, o2.tr f5⟩
    · unfold Rs_firstWorking_21
      rw [if_neg (nI_ge (by omega) (by omega)), if_neg (show ¬ (120 : Int32) ≤ nI k from (show ¬ nI 120 ≤ nI k from nI_ge (by omega) (by decide))), e1, Option.bind_some, z_gd (by omega) (by decide), z_cl (by omega), Option.bind_some, Option.bind_some, show (sI P1 76 k (nI w)).1 75 9 = nI k from by rw [rowI_o _ _ _ (by decide), a3.2]; exact h9, show nI k + (1 : Int32) = nI (k + 1) from nI_1 _, ← hP2]
      exact f1
    · rw [f2 j (by omega), r76, pk_un (by omega), (a3.1 76 (by decide)).1]
    · have eI : wkIt D (m + 1) N = wkIt D m (goN N w l) := by
        show wkIt D m (wk1 D N) = _
        rw [ew]
      rw [eI]
      cases j with
      | zero =>
        rw [f2 (k + 0) (by omega), r76, Nat.add_zero, pk_us, Nat.add_zero, wkIt_D m (goN N w l) (xM N) (Nat.lt_succ_self _)]
        show nI w = nI (if xM N = xM N then w else xD N (xM N))
        rw [if_pos rfl]
      | succ j =>
        rw [show k + (j + 1) = k + 1 + j by omega, f3 j (by omega)]
        show nI (xD (wkIt D m (goN N w l)) (xM N + 1 + j)) = _
        rw [show xM N + 1 + j = xM N + (j + 1) by omega]
theorem rs_many (hD : WD D) (hS : RSN D N P) : Rs_many P = some (nI (lft D N (xIk N) (dN D))) := by
  have h60 := hD.1
  obtain ⟨s1, s2, s3, s4⟩ := hS
  unfold Rs_many
  rw [pop_is (by omega) s1 P, Option.bind_some, pop_is (by omega) s2 P, Option.bind_some, nI_add]
  rfl
theorem lft_le (D : DT) (N : NT) (c : Nat) (hD : WD D) : lft D N c (dN D) ≤ 120 := by
  have h60 := hD.1
  have a := fb_ct_le (lO D N c) (dN D)
  have b := fb_ct_le (lU D N c) (dN D)
  rw [lft_eq]
  omega
theorem RSN.onlyR {Q : PH} (s : RSN D N P) (o : onlyR P Q) : RSN D N Q := RSt.keep s o
theorem rs_first (hD : WD D) (hN : WN D N) (ht : xT N = true) (hC : CD 3 D P) (hS : RSN D N P) : (wel D N → ∃ Q, Rs_firstWorking P = some (nI (lft D N (xIk N) (dN D)), Q) ∧ (∀ j, j < lft D N (xIk N) (dN D) → Q.1 76 j = nI (xD (wkIt D (lft D N (xIk N) (dN D)) N) (xM N + j))) ∧ Q.1 75 9 = nI (lft D N (xIk N) (dN D)) ∧ o756 P Q) ∧ (¬ wel D N → ∃ Q, Rs_firstWorking P = some ((-1 : Int32), Q) ∧ Q.1 75 9 = 0 ∧ o756 P Q) := by
  have hh := WN.hole hD hN ht (xM N) (Nat.le_refl _)
  have ob : o756 P (sI P 75 9 (0 : Int32)) := fun n a _ => ⟨rowI_o _ _ _ a, rfl⟩
  have hS1 : RSN D N (sI P 75 9 (0 : Int32)) := hS.k6 (fun k hk => by rw [rowI_s, pk_un hk]) rfl
  obtain ⟨Q1, e1, e2⟩ := rs_endsWell hD (hC.k756 ob) hS1 hh
  have o1 : o756 P Q1 := ob.tr (fun n a _ => e2.o n a)
  have z9 : Q1.1 75 9 = 0 := by rw [e2.2.2 9 (by decide), rowI_s, pk_us]
  have e1' : Rs_endsWell (sI P 75 9 (0 : Int32)) = some ((if (bsN D N).1 = 0 then (1 : Int32) else 0), Q1) := e1
  refine ⟨fun hw => ?_, fun hw => ?_⟩
  · obtain ⟨Q, f1, f2, f3, f4, f5⟩ := rs_fw hD (lft_le D N (xIk N) hD) (lft D N (xIk N) (dN D)) 0 bigN N Q1 (by omega) (big_gt (by have := lft_le D N (xIk N) hD; omega)) hN ht hw rfl (hC.k756 o1) (hS1.onlyR e2) z9
    refine ⟨Q, ?_, fun j hj => by have := f3 j hj; rw [Nat.zero_add] at this; exact this, f4, o1.tr f5⟩
    unfold Rs_firstWorking
    rw [Option.bind_some, e1', if_pos (show (bsN D N).1 = 0 from hw), Option.bind_some, if_neg (show ¬ ((1 : Int32), Q1).1 = 0 from (show ¬ (1 : Int32) = 0 by decide)), rs_many hD (hS1.onlyR e2), Option.bind_some]
    exact f1
  · refine ⟨Q1, ?_, z9, o1⟩
    unfold Rs_firstWorking
    rw [Option.bind_some, e1', if_neg (show ¬ (bsN D N).1 = 0 from hw), Option.bind_some, if_pos (show ((0 : Int32), Q1).1 = 0 from rfl)]
end FWC
