/-! SAMEAT -/
def bw (D : DT) (N : NT) (n : Nat) : NT := bkIt D (xM N - n) N
def kF (v : Int32) (s : Nat → Bool) (k h : Nat) : Bool := decide (k ≤ h) && (s h && decide (v = nI (fb_ct s h)))
theorem kF_next {v : Int32} {s : Nat → Bool} {k M : Nat} (c : ¬ (s k = true ∧ v = nI (fb_ct s k))) : fsp (kF v s (k + 1)) M = fsp (kF v s k) M := fsp_cong (fun j hj => by
  unfold kF
  by_cases c2 : j = k
  · subst c2
    have : ¬ j + 1 ≤ j := by omega
    cases c3 : s j
    · simp
    · have c4 : ¬ v = nI (fb_ct s j) := fun q => c ⟨c3, q⟩
      simp [c4]
  · by_cases c5 : k ≤ j
    · have : k + 1 ≤ j := by omega
      simp [c5, this]
    · have : ¬ k + 1 ≤ j := by omega
      simp [c5, this])
theorem kF_hit {v : Int32} {s : Nat → Bool} {k M : Nat} (hk : k < M) (c1 : s k = true) (c2 : v = nI (fb_ct s k)) : fsp (kF v s k) M = some k :=
  fsp_is hk (by unfold kF; rw [c1, decide_eq_true c2, decide_eq_true (Nat.le_refl k)]; rfl) (fun j hj => nle_and hj _)
theorem kF_end {v : Int32} {s : Nat → Bool} {M : Nat} : fsp (kF v s M) M = none := fsp_no (fun j hj => nle_and hj _)
theorem go_bk0 (o u : Nat → Bool) (c : Int32) (t : Bool) (ik b : Nat) (vf : Bool) (m : Nat) (dn : Nat → Nat) (l : Nat) : goN (bkN (o, u, c, t, ik, b, vf, m + 1, dn) l) (dn m) l = (o, u, c, t, ik, b, vf, m + 1, dn) := by
  have e1 : (fun k => if k = m then dn m else dn k) = dn := funext (fun k => by
    by_cases q : k = m
    · rw [if_pos q, q]
    · rw [if_neg q])
  have e2 : ∀ p : Nat → Bool, (fun i => (p i ^^ decide (i = l)) ^^ decide (i = l)) = p := fun p => funext (fun i => by cases p i <;> cases decide (i = l) <;> rfl)
  have key : ∀ v : Bool, setM (flN v l (setM (flN v l (o, u, c, t, ik, b, vf, m + 1, dn)) m dn)) (m + 1) (fun k => if k = m then dn m else dn k) = (o, u, c, t, ik, b, vf, m + 1, dn) := by
    intro v
    rw [e1]
    cases v
    · show (o, (fun i => (u i ^^ decide (i = l)) ^^ decide (i = l)), c, t, ik, b, vf, m + 1, dn) = _
      rw [e2]
    · show ((fun i => (o i ^^ decide (i = l)) ^^ decide (i = l)), u, c, t, ik, b, vf, m + 1, dn) = _
      rw [e2]
  exact key (vf == decide (m % 2 = 0))
theorem go_bk {B : NT} {l n : Nat} (h : xM B = n + 1) : goN (bkN B l) (xD B n) l = B := by
  obtain ⟨o, u, c, t, ik, b, vf, m, dn⟩ := B
  have h : m = n + 1 := h
  subst h
  exact go_bk0 o u c t ik b vf n dn l
section SMA
variable {D : DT} {N : NT} {P : PH}
theorem bkIt_s (D : DT) : ∀ (m : Nat) (N : NT), bkIt D (m + 1) N = bk1 D (bkIt D m N)
  | 0, _ => rfl
  | m + 1, N => by
    show bkIt D (m + 1) (bk1 D N) = bk1 D (bkIt D m (bk1 D N))
    exact bkIt_s D m (bk1 D N)
/-- what stays the same on the way back -/
theorem bkIt_ok (hD : WD D) : ∀ (m : Nat) (N : NT), WN D N → xT N = true → m ≤ xM N → WN D (bkIt D m N) ∧ xT (bkIt D m N) = true ∧ xM (bkIt D m N) = xM N - m ∧ xD (bkIt D m N) = xD N ∧ xB (bkIt D m N) = xB N ∧ xVf (bkIt D m N) = xVf N ∧ xIk (bkIt D m N) = xIk N
  | 0, N, hN, ht, _ => ⟨hN, ht, rfl, rfl, rfl, rfl, rfl⟩
  | m + 1, N, hN, ht, hm => by
    obtain ⟨l, e, eb⟩ := bk1_M hN ht (by omega)
    obtain ⟨a, b, c, d, f, g, i⟩ := bkIt_ok hD m (bkN N l) (WN.bk hD hN ht (by omega) e) ht (by show m ≤ xM N - 1; omega)
    have q : bkIt D (m + 1) N = bkIt D m (bkN N l) := by
      show bkIt D m (bk1 D N) = _
      rw [eb]
    rw [q]
    exact ⟨a, b, by rw [c]; show xM N - 1 - m = _; omega, d, f, g, i⟩
theorem bw_ok (hD : WD D) (hN : WN D N) (ht : xT N = true) (n : Nat) : WN D (bw D N n) ∧ xT (bw D N n) = true ∧ (n ≤ xM N → xM (bw D N n) = n) ∧ xD (bw D N n) = xD N ∧ xB (bw D N n) = xB N ∧ xVf (bw D N n) = xVf N ∧ xIk (bw D N n) = xIk N := by
  obtain ⟨a, b, c, d, e, f, g⟩ := bkIt_ok hD (xM N - n) N hN ht (by omega)
  exact ⟨a, b, fun h => by unfold bw; rw [c]; omega, d, e, f, g⟩
theorem bw_top : bw D N (xM N) = N := by
  unfold bw
  rw [Nat.sub_self]
  rfl
theorem bw_over : bw D N (xM N + 1) = N := by
  unfold bw
  rw [show xM N - (xM N + 1) = 0 by omega]
  rfl
theorem bw_step (hD : WD D) (hN : WN D N) (ht : xT N = true) {n : Nat} (hn : n < xM N) : ∃ l, xD N n < 8 ∧ lnA D (xH (bw D N n) (xM (bw D N n))) (xD N n) = some l ∧ rsn D (bw D N n) (some (xD N n)) = 0 ∧ goN (bw D N n) (xD N n) l = bw D N (n + 1) ∧ dI D l = xIk (bw D N n) ∧ xWk (bw D N n) (ovN (bw D N n) (xM (bw D N n))) l = false := by
  obtain ⟨b1, b2, b3, b4, b5, b6, b7⟩ := bkIt_ok hD (xM N - (n + 1)) N hN ht (by omega)
  have e0 : bw D N n = bk1 D (bkIt D (xM N - (n + 1)) N) := by
    unfold bw
    rw [show xM N - n = xM N - (n + 1) + 1 by omega]
    exact bkIt_s D _ N
  obtain ⟨B, hB⟩ : ∃ B, B = bkIt D (xM N - (n + 1)) N := ⟨_, rfl⟩
  have eB : bw D N (n + 1) = B := hB.symm
  rw [← hB] at b1 b2 b3 b4 b5 b6 b7 e0
  have b3 : xM B = n + 1 := by omega
  obtain ⟨l, e, eb⟩ := bk1_M b1 b2 (by omega)
  obtain ⟨a0, l0, a1, a2, a3⟩ := (b1 b2).2.2.2.1 n (by omega)
  rw [b3, Nat.add_sub_cancel] at e
  rw [e] at a1
  cases a1
  have f : bw D N n = bkN B l := e0.trans eb
  have xMb : xM (bkN B l) = n := by show xM B - 1 = n; omega
  have hov : xWk (bkN B l) (ovN (bkN B l) (xM (bkN B l))) l = false := by
    rw [xMb]
    show xWk (flN (ovN B (xM B - 1)) l B) (ovN B n) l = false
    rw [b3, Nat.add_sub_cancel, fl_wk, a3]
    simp
  have hln : lnA D (xH (bkN B l) (xM (bkN B l))) (xD N n) = some l := by
    rw [xMb, ← b4]
    exact e
  rw [f, eB]
  refine ⟨l, by rw [← b4]; exact a0, hln, ?_, by rw [← b4]; exact go_bk b3, a2, hov⟩
  unfold rsn rsAt
  rw [if_pos (show xT (bkN B l) = true from b2), show (some (xD N n)).bind (lnA D (xH (bkN B l) (xM (bkN B l)))) = some l from hln]
  show (if dI D l = xIk (bkN B l) then (if xWk (bkN B l) (ovN (bkN B l) (xM (bkN B l))) l = true then 3 else 0) else 2) = 0
  rw [if_pos (show dI D l = xIk (bkN B l) from a2), hov]
  rfl
noncomputable def smF (D : DT) (N : NT) (n : Nat) : Bool := cP (alk D (bw D N n))
theorem cls_all (hD : WD D) (v : Int32) : ∀ (m : Nat) (N : NT) (P : PH) (n : Nat), m = xM N → m < 1000 → m < n → WN D N → xT N = true → CD 3 D P → CN 45 D N P → ∃ Q, Bs_sameAt_23 v n (nI m) P = Bs_sameAt_40 v Q ∧ CN 45 D (bkIt D m N) Q ∧ onlyN 45 P Q
  | 0, N, P, n, _, _, hn, hN, ht, hC, hCN => by
    obtain ⟨n, rfl⟩ : ∃ q, n = q + 1 := ⟨n - 1, by omega⟩
    refine ⟨P, ?_, hCN, onlyN.rf 45 P⟩
    unfold Bs_sameAt_23
    rw [if_pos (by decide)]
  | m + 1, N, P, n, hm, h9, hn, hN, ht, hC, hCN => by
    obtain ⟨n, rfl⟩ : ∃ q, n = q + 1 := ⟨n - 1, by omega⟩
    obtain ⟨l, e, eb⟩ := bk1_M hN ht (by omega)
    obtain ⟨P1, g1, g2, g3⟩ := ne_back (nd := 45) apt45 hD hC hN hCN ht (by omega) e
    obtain ⟨Q, f1, f2, f3⟩ := cls_all hD v m (bkN N l) P1 n (by show m = xM N - 1; omega) (by omega) (by omega) (WN.bk hD hN ht (by omega) e) ht (hC.only (nd := 45) apt45 g3) g2
    refine ⟨Q, ?_, ?_, g3.tr f3⟩
    · unfold Bs_sameAt_23
      rw [if_neg (show ¬ nI (m + 1) ≤ (0 : Int32) from (show ¬ nI (m + 1) ≤ nI 0 by rw [z_le (by omega) (by omega)]; omega)), g1, Option.bind_some, show nI (m + 1) + (-1 : Int32) = nI m from pk_m1 m]
      exact f1
    · show CN 45 D (bkIt D m (bk1 D N)) Q
      rw [eb]; exact f2
theorem sm_cls {k : Nat} (hD : WD D) (hC : CN 45 D (bw D N k) P) : (smF D N k = true → lg_cmp (P.2 45 0) (P.2 45 1) = 0) ∧ (smF D N k = false → ¬ lg_cmp (P.2 45 0) (P.2 45 1) = 0) := by
  have c := cn_same (nd := 45) hD hC
  refine ⟨fun h => c.1 (cP_iff.mp h), fun h => ?_⟩
  rcases alk_or D (bw D N k) with a | ⟨i, hi, hne⟩
  · have : smF D N k = true := cP_iff.mpr a
    rw [h] at this
    cases this
  · exact c.2 i hi hne
theorem sm_mo {k : Nat} {Q : PH} (hD : WD D) (hR : RD D (Q.1 88)) (hRN : RN D (bw D N k) (Q.1 88)) : (smF D N k = true → Mo_isSame Q = some 1) ∧ (smF D N k = false → Mo_isSame Q = some 0) := by
  have c := mo_isSame hD hR hRN
  refine ⟨fun h => c.1 (cP_iff.mp h), fun h => ?_⟩
  rcases alk_or D (bw D N k) with a | ⟨i, hi, hne⟩
  · have : smF D N k = true := cP_iff.mpr a
    rw [h] at this
    cases this
  · exact c.2 i hi hne
theorem kth_43 (hD : WD D) (hN : WN D N) (ht : xT N = true) {k : Nat} (hk : k ≤ xM N) (hC : CD 3 D P) (hCN : CN 43 D N P) (hCT : CN 45 D (bw D N k) P) (v w : Int32) (r : Int32 → Int32 → PH → Option (Int32 × PH)) : ∃ Q, Bs_kthSame_43 r v w (nI k) P = r w (nI (k + 1)) Q ∧ CN 45 D (bw D N (k + 1)) Q ∧ onlyN 45 P Q := by
  have hM := (hN ht).2.2.1
  obtain ⟨e3, e4, e5, e6, e8, e9⟩ := hCN.2.2.2.2.2 ht
  obtain ⟨w1, w2, w3, w4, w5, w6, w7⟩ := bw_ok hD hN ht k
  by_cases c : k < xM N
  · obtain ⟨l, s0, s1, s2, s3, s4, s5⟩ := bw_step hD hN ht c
    obtain ⟨Q, g1, g2, g3⟩ := ne_go (nd := 45) apt45 hD hC w1 hCT s0 s2 s1
    refine ⟨Q, ?_, by rw [← s3]; exact g2, g3⟩
    unfold Bs_kthSame_43 Ne_wayOf
    rw [if_neg (nI_pos (by omega)), e6, if_neg (by rw [z_le (by omega) (by omega)]; omega), if_neg (show ¬ (120 : Int32) ≤ nI k from (show ¬ nI 120 ≤ nI k from nI_ge (by omega) (by decide))), z_gd (by omega) (by decide), z_cl (by omega), e9 k c, Option.bind_some, g1, Option.bind_some, show nI k + 1 = nI (k + 1) from nI_1 _]
  · obtain rfl : k = xM N := by omega
    have hr : rsn D (bw D N (xM N)) none ≠ 0 := fun q => by
      obtain ⟨-, w', l', q1, -⟩ := rsn_0 q
      cases q1
    refine ⟨P, ?_, by rw [bw_over]; rw [bw_top] at hCT; exact hCT, onlyN.rf 45 P⟩
    unfold Bs_kthSame_43 Ne_wayOf
    rw [if_neg (nI_pos (by omega)), e6, if_pos (by rw [z_le (by omega) (by omega)]; exact Nat.le_refl _), Option.bind_some, ne_go_not (nd := 45) hD hC w1 hCT (o := none) (v := (-1 : Int32)) (fun h hh => dr_lineBy_no (Or.inl (by decide))) hr, Option.bind_some, show nI (xM N) + 1 = nI (xM N + 1) from nI_1 _]
theorem cls_kth (hD : WD D) (hN : WN D N) (ht : xT N = true) (v : Int32) : ∀ (m k n : Nat) (P : PH), k + m = xM N + 1 → m < n → CD 3 D P → CN 43 D N P → CN 45 D (bw D N k) P → ∃ Q, Bs_kthSame_4 v n (nI (fb_ct (smF D N) k)) (nI k) P = some (enc (fsp (kF v (smF D N) k) (xM N + 1)), Q) ∧ onlyN 45 P Q := by
  have hM := (hN ht).2.2.1
  intro m
  induction m with
  | zero =>
    intro k n P hk hn hC hCN hCT
    obtain ⟨n, rfl⟩ : ∃ q, n = q + 1 := ⟨n - 1, by omega⟩
    obtain rfl : k = xM N + 1 := by omega
    have e6 := (hCN.2.2.2.2.2 ht).2.2.2.1
    refine ⟨P, ?_, onlyN.rf 45 P⟩
    unfold Bs_kthSame_4
    rw [e6, if_pos (nI_lt (by omega) (by omega)), kF_end]
    rfl
  | succ m ih =>
    intro k n P hk hn hC hCN hCT
    obtain ⟨n, rfl⟩ : ∃ q, n = q + 1 := ⟨n - 1, by omega⟩
    have e6 := (hCN.2.2.2.2.2 ht).2.2.2.1
    have sm := sm_cls hD hCT
    have nlt : ¬ nI (xM N) < nI k := by rw [z_lt (by omega) (by omega)]; omega
    have next : ∀ w : Int32, w = nI (fb_ct (smF D N) (k + 1)) → ¬ (smF D N k = true ∧ v = nI (fb_ct (smF D N) k)) → ∃ Q, Bs_kthSame_43 (Bs_kthSame_4 v n) v w (nI k) P = some (enc (fsp (kF v (smF D N) k) (xM N + 1)), Q) ∧ onlyN 45 P Q := by
      intro w hw hc
      obtain ⟨Q1, a1, a2, a3⟩ := kth_43 hD hN ht (by omega) hC hCN hCT v w (Bs_kthSame_4 v n)
      obtain ⟨Q, f1, f2⟩ := ih (k + 1) n Q1 (by omega) (by omega) (hC.only (nd := 45) apt45 a3) (hCN.rows (a3.1 43 (by decide) (by decide)) (a3.1 44 (by decide) (by decide)) (a3.2 43 (by decide))) a2
      exact ⟨Q, by rw [a1, hw, f1, kF_next hc], a3.tr f2⟩
    unfold Bs_kthSame_4
    rw [e6, if_neg nlt]
    cases c : smF D N k with
    | false =>
      rw [if_neg (sm.2 c)]
      exact next _ (by rw [fb_ct_succ, c]; rfl) (fun q => by rw [c] at q; exact absurd q.1 (by decide))
    | true =>
      rw [if_pos (sm.1 c)]
      by_cases c2 : v = nI (fb_ct (smF D N) k)
      · rw [if_pos c2.symm, kF_hit (by omega) c c2]
        exact ⟨P, rfl, onlyN.rf 45 P⟩
      · rw [if_neg (fun q => c2 q.symm)]
        exact next _ (by rw [fb_ct_succ, c]; exact nI_1 _) (fun q => c2 q.2)
theorem mo_allb (hD : WD D) (v : Int32) : ∀ (m : Nat) (N : NT) (P : PH) (n : Nat), m = xM N → m < 1000 → m < n → WN D N → xT N = true → RD D (P.1 88) → RN D N (P.1 88) → ∃ Q, Mo_sameAt_36 v n P = Mo_sameAt_60 bigN v (-1 : Int32) (0 : Int32) Q ∧ RD D (Q.1 88) ∧ RN D (bkIt D m N) (Q.1 88) ∧ only88 P Q
  | 0, N, P, n, hm, _, hn, hN, ht, hR, hRN => by
    obtain ⟨n, rfl⟩ : ∃ q, n = q + 1 := ⟨n - 1, by omega⟩
    refine ⟨P, ?_, hR, hRN, only88.rf P⟩
    unfold Mo_sameAt_36
    rw [gd6, mo_6 hRN ht, ← hm, if_pos (by decide)]
  | m + 1, N, P, n, hm, h9, hn, hN, ht, hR, hRN => by
    obtain ⟨n, rfl⟩ : ∃ q, n = q + 1 := ⟨n - 1, by omega⟩
    obtain ⟨l, e, eb⟩ := bk1_M hN ht (by omega)
    obtain ⟨P1, g1, g2, g3, g4⟩ := mo_backs hD hN hR hRN ht (by omega) e
    obtain ⟨Q, f1, f2, f3, f4⟩ := mo_allb hD v m (bkN N l) P1 n (by show m = xM N - 1; omega) (by omega) (by omega) (WN.bk hD hN ht (by omega) e) ht g2 g3
    refine ⟨Q, ?_, f2, ?_, g4.tr f4⟩
    · rw [← f1]
      conv => lhs; unfold Mo_sameAt_36
      rw [gd6, mo_6 hRN ht, ← hm, if_neg (show ¬ nI (m + 1) ≤ (0 : Int32) from (show ¬ nI (m + 1) ≤ nI 0 by rw [z_le (by omega) (by omega)]; omega)), g1, Option.bind_some]
    · show RN D (bkIt D m (bk1 D N)) (Q.1 88)
      rw [eb]; exact f3
theorem mo_kth (hD : WD D) (hN : WN D N) (ht : xT N = true) (v : Int32) : ∀ (m k n : Nat) (P : PH), k + m = xM N + 1 → m < n → RD D (P.1 88) → RN D (bw D N (k - 1)) (P.1 88) → P.1 91 6 = nI (xM N) → (∀ j, j < xM N → P.1 91 (392 + j) = nI (xD N j)) → ∃ Q, Mo_sameAt_60 n (v - nI (fb_ct (smF D N) k)) (-1 : Int32) (nI k) P = Mo_sameAt_125 (enc (fsp (kF v (smF D N) k) (xM N + 1))) Q ∧ only88 P Q := by
  have hM := (hN ht).2.2.1
  intro m
  induction m with
  | zero =>
    intro k n P hk hn hR hRN h6 hd
    obtain ⟨n, rfl⟩ : ∃ q, n = q + 1 := ⟨n - 1, by omega⟩
    obtain rfl : k = xM N + 1 := by omega
    refine ⟨P, ?_, only88.rf P⟩
    unfold Mo_sameAt_60
    rw [gd6, show P.1 91 (6 : Int32).toNatClampNeg = nI (xM N) from h6, if_pos (nI_lt (by omega) (by omega)), kF_end]
    rfl
  | succ m ih =>
    intro k n P hk hn hR hRN h6 hd
    obtain ⟨n, rfl⟩ : ∃ q, n = q + 1 := ⟨n - 1, by omega⟩
    have nlt : ¬ nI (xM N) < nI k := by rw [z_lt (by omega) (by omega)]; omega
    have go : ∀ A : PH → Option (Int32 × PH), ∃ P1, (if nI k ≤ 0 then A P else gdI (((392 : Int32) + nI k) - (1 : Int32)) 512 <| (Mo_goes (P.1 91 (((392 : Int32) + nI k) - (1 : Int32)).toNatClampNeg) P).bind fun (x96 : PH) => A x96) = A P1 ∧ RD D (P1.1 88) ∧ RN D (bw D N k) (P1.1 88) ∧ only88 P P1 := by
      intro A
      by_cases c : k = 0
      · subst c
        exact ⟨P, if_pos (by decide), hR, hRN, only88.rf P⟩
      · obtain ⟨j, rfl⟩ : ∃ j, k = j + 1 := ⟨k - 1, by omega⟩
        rw [Nat.add_sub_cancel] at hRN
        obtain ⟨w1, w2, w3, w4, w5, w6, w7⟩ := bw_ok hD hN ht j
        obtain ⟨l, s0, s1, s2, s3, s4, s5⟩ := bw_step hD hN ht (show j < xM N by omega)
        obtain ⟨Q, g1, g2, g3, g4⟩ := mo_goes hD w1 hR hRN w2 s0 s1 s5
        refine ⟨Q, ?_, g2, by rw [← s3]; exact g3, g4⟩
        rw [if_neg (show ¬ nI (j + 1) ≤ (0 : Int32) from (show ¬ nI (j + 1) ≤ nI 0 by rw [z_le (by omega) (by omega)]; omega)), show ((392 : Int32) + nI (j + 1)) - (1 : Int32) = nI (392 + j) from by rw [show (392 : Int32) = nI 392 from rfl, nI_add]; exact z_sub (b := 1) (by omega), z_gd (by omega) (by decide), z_cl (by omega), hd j (by omega), g1, Option.bind_some]
    obtain ⟨P1, a1, a2, a3, a4⟩ := go (Mo_sameAt_99 (Mo_sameAt_60 n) (v - nI (fb_ct (smF D N) k)) (-1 : Int32) (nI k))
    have sm := sm_mo hD a2 a3
    have h0 : (v - nI (fb_ct (smF D N) k) = 0) ↔ v = nI (fb_ct (smF D N) k) := by
      rw [Int32.sub_eq_iff_eq_add, Int32.add_comm, Int32.add_zero]
    have h1 : v - nI (fb_ct (smF D N) k) + (-1) = v - nI (fb_ct (smF D N) k + 1) := by
      rw [← Int32.sub_eq_add_neg, Int32.sub_sub]
      rw [show nI (fb_ct (smF D N) k) + 1 = nI (fb_ct (smF D N) k + 1) from nI_1 _]
    have next : ∀ w : Int32, w = v - nI (fb_ct (smF D N) (k + 1)) → ¬ (smF D N k = true ∧ v = nI (fb_ct (smF D N) k)) → ∃ Q, Mo_sameAt_60 n w (-1 : Int32) (nI (k + 1)) P1 = Mo_sameAt_125 (enc (fsp (kF v (smF D N) k) (xM N + 1))) Q ∧ only88 P Q := by
      intro w hw hc
      obtain ⟨Q, f1, f2⟩ := ih (k + 1) n P1 (by omega) (by omega) a2 (by rw [Nat.add_sub_cancel]; exact a3) (by rw [a4.1 91 (by decide)]; exact h6) (fun j hj => by rw [a4.1 91 (by decide)]; exact hd j hj)
      exact ⟨Q, by rw [hw, f1, kF_next hc], a4.tr f2⟩
    unfold Mo_sameAt_60
    rw [gd6, show P.1 91 (6 : Int32).toNatClampNeg = nI (xM N) from h6, if_neg nlt, if_pos rfl, a1]
    unfold Mo_sameAt_99
    rw [show nI k + 1 = nI (k + 1) from nI_1 _]
    cases c : smF D N k with
    | false =>
      rw [sm.2 c, Option.bind_some, if_pos rfl]
      exact next _ (by rw [fb_ct_succ, c]; rfl) (fun q => by rw [c] at q; exact absurd q.1 (by decide))
    | true =>
      rw [sm.1 c, Option.bind_some, if_neg (by decide)]
      by_cases c2 : v = nI (fb_ct (smF D N) k)
      · rw [if_pos (h0.mpr c2), kF_hit (by omega) c c2]
        refine ⟨P1, ?_, a4⟩
        obtain ⟨n, rfl⟩ : ∃ q, n = q + 1 := ⟨n - 1, by omega⟩
        unfold Mo_sameAt_60
        rw [gd6, if_neg (show ¬ nI k = (-1 : Int32) from nI_nm (by omega)), ite_self]
        rfl
      · rw [if_neg (fun q => c2 (h0.mp q))]
        exact next _ (by rw [fb_ct_succ, c, h1]; rfl) (fun q => c2 q.2)
theorem INVx.back {Q : PH} (h : INVx D N P) (s : scrW P Q) (e : ∀ k, k < 512 → Q.1 88 k = P.1 88 k) (k3 : ∀ n, (3 ≤ n ∧ n ≤ 10) ∨ n = 43 ∨ n = 44 → Q.1 n = P.1 n ∧ Q.2 n = P.2 n) : INVx D N Q := by
  obtain ⟨hD, hN, hR, hRN, hC, hCN, hRest⟩ := id h
  refine INVx.of hD hN (hR.cp hD e) (hRN.cp hD hN e) ?_ (hCN.rows (k3 43 (by omega)).1 (k3 44 (by omega)).1 (k3 43 (by omega)).2) (h.rest.keep s)
  exact hC.keep (k3 3 (by omega)).1 (k3 4 (by omega)).1 (k3 5 (by omega)).1 (k3 6 (by omega)).1 (k3 7 (by omega)).1 (k3 8 (by omega)).2 (k3 9 (by omega)).2 (k3 10 (by omega)).1
theorem call_sameAt (h : INVx D N P) (v : Int32) : callQ (Bs_sameAt v P) (Mo_sameAt v) [ISE] P := by
  obtain ⟨hD, hN, hR, hRN, hC, hCN, hRest⟩ := id h
  cases ht : xT N with
  | false =>
    refine ⟨(1, 0), P, by decide, ?_, moI.aft h (moI.thr (fun _ => 0) (fun Q hQ => ?_) (fun q => absurd q (by decide)))⟩
    · unfold Bs_sameAt; rw [ckThread hCN, ht]; rfl
    · unfold Mo_sameAt Mo_sameAt_13
      rw [mo_isThere hQ.2.2.2.1, ht, Option.bind_some, if_pos (by decide), Option.bind_some, at5, if_neg (by decide)]
      rfl
  | true =>
    have hM := (hN ht).2.2.1
    obtain ⟨Pa, a1, a2, a3⟩ := ne_copy (t := 45) (v := 43) (by omega) hN hCN
    have hCa : CD 3 D Pa := hC.only (nd := 45) apt45 a3
    obtain ⟨Pb, b1, b2, b3⟩ := cls_all hD v (xM N) N Pa bigN rfl (by omega) (big_gt (by omega)) hN ht hCa a2
    have ob := a3.tr b3
    have e0 : bkIt D (xM N) N = bw D N 0 := rfl
    obtain ⟨P1, c1, c2⟩ := cls_kth hD hN ht v (xM N + 1) 0 bigN Pb (by omega) (big_gt (by omega)) (hC.only (nd := 45) apt45 ob) (hCN.rows (ob.1 43 (by decide) (by decide)) (ob.1 44 (by decide) (by decide)) (ob.2 43 (by decide))) (by rw [← e0]; exact b2)
    have o1 := ob.tr c2
    refine ⟨(0, enc (fsp (kF v (smF D N) 0) (xM N + 1))), P1, Nat.zero_le _, ?_, fun P2 hP2 => ?_⟩
    · unfold Bs_sameAt
      rw [ckThread hCN, ht]
      show (Ne_copy 45 43 P).bind _ = _
      rw [a1, Option.bind_some, Option.bind_some, (a2.2.2.2.2.2 ht).2.2.2.1, b1]
      unfold Bs_sameAt_40 Bs_kthSame
      rw [show fb_ct (smF D N) 0 = 0 from rfl, show (nI 0 : Int32) = 0 from rfl] at c1
      rw [c1, Option.bind_some]
      rfl
    · have hQ0 := (h.scr o1.s45).scr (hP2.scr.sI (a := 1) (b := 5) (nI 0) rfl)
      obtain ⟨Q1, d1, d2, d3, d4⟩ := mo_copies (a := 88) (b := 91) (by decide) 512 0 bigN (sI P2 1 5 (nI 0)) rfl (big_gt (by omega)) (fun j hj => by omega)
      have x88 : Q1.1 88 = (sI P2 1 5 (nI 0)).1 88 := d3 88 (by decide)
      obtain ⟨Q2, f1, f2, f3, f4⟩ := mo_allb hD v (xM N) N Q1 bigN rfl (by omega) (big_gt (by omega)) hN ht (by rw [x88]; exact hQ0.2.2.1) (by rw [x88]; exact hQ0.2.2.2.1)
      have rq := (hQ0.2.2.2.1.2.2.2 ht).2.2.2
      obtain ⟨Q3, g1, g2⟩ := mo_kth hD hN ht v (xM N + 1) 0 bigN Q2 (by omega) (big_gt (by omega)) f2 (by rw [show 0 - 1 = 0 from rfl, ← e0]; exact f3) (by rw [f4.1 91 (by decide), d4 6 (by decide)]; exact rq.1) (fun j hj => by rw [f4.1 91 (by decide), d4 _ (by omega)]; exact rq.2 j hj)
      obtain ⟨Q4, k1, k2, k3, k4⟩ := mo_copies (a := 91) (b := 88) (by decide) 512 0 bigN Q3 rfl (big_gt (by omega)) (fun j hj => by omega)
      have of := f4.tr g2
      have ei : ∀ k, k < 512 → Q4.1 88 k = (sI P2 1 5 (nI 0)).1 88 k := fun k hk => by rw [k4 k hk, of.1 91 (by decide), d4 k hk]
      have q1 : ∀ n, n ≠ 88 → n ≠ 91 → Q4.1 n = (sI P2 1 5 (nI 0)).1 n := fun n a b => by rw [k3 n a, of.1 n a, d3 n b]
      have q2 : Q4.2 = (sI P2 1 5 (nI 0)).2 := by rw [k2, of.2, d2]
      have sQ : scrW (sI P2 1 5 (nI 0)) Q4 := ⟨fun n k q => by
        rw [q1 n (fun z => by rw [z] at q; unfold wR at q; simp at q) (fun z => by rw [z] at q; cases q)], fun n k q => by rw [q2]⟩
      refine ⟨_, Q4, ?_, ?_, ?_, fun _ => rfl, D, N, hQ0.back sQ ei (fun n hn => ⟨q1 n (by omega) (by omega), by rw [q2]⟩)⟩
      · unfold Mo_sameAt Mo_sameAt_13
        rw [mo_isThere (show RN D N (P2.1 88) from by have := hQ0.2.2.2.1; rw [off5 _ _ (by decide)] at this; exact this), ht, Option.bind_some, if_neg (by decide), Option.bind_some, if_pos (show (sI P2 1 5 (0 : Int32)).1 1 5 ≤ 0 by rw [at5]; decide), show Mo_copies 88 91 (sI P2 1 5 (0 : Int32)) = some Q1 from d1, Option.bind_some, f1]
        rw [show fb_ct (smF D N) 0 = 0 from rfl, show v - nI 0 = v from Int32.sub_zero v, show (nI 0 : Int32) = 0 from rfl] at g1
        rw [g1]
        unfold Mo_sameAt_125
        rw [show Mo_copies 91 88 Q3 = some Q4 from k1, Option.bind_some]
      · rw [q1 1 (by decide) (by decide)]; exact at5 _ _
      · rw [q2]; rfl
end SMA
