/-! BARS: the reference -/
section BRG
variable {D : DT} {N : NT} {c h : Nat} {b : Bool}
def iniB (h : Nat) (b : Bool) (x : Nat) : Int := if x = h then (if b then -1 else 1) else 0
theorem iniB_rng (h : Nat) (b : Bool) (x : Nat) : -2 < iniB h b x ∧ iniB h b x < 2 := by
  unfold iniB
  split
  · cases b <;> decide
  · decide
theorem b81 (hh : h < 144) : ∀ (m k n : Nat) (P : PH), k + m = 144 → m < n → (∀ x, x < k → (P.1 101 x).toInt = iniB h b x) →
    ∃ Q, Mo_bars_81 (nI c) (nI h) (if b then 1 else 0) n (nI k) P = Mo_bars_124 (nI c) bigN (nI 0) Q ∧ onlyB P Q ∧ Q.1 1 = P.1 1 ∧ ∀ x, x < 144 → (Q.1 101 x).toInt = iniB h b x := by
  intro m
  induction m with
  | zero =>
    intro k n P hk hn hv
    obtain ⟨n, rfl⟩ : ∃ q, n = q + 1 := ⟨n - 1, by omega⟩
    obtain rfl : k = 144 := by omega
    refine ⟨P, ?_, onlyB.rf P, rfl, hv⟩
    unfold Mo_bars_81
    rw [if_pos (by decide)]
    rfl
  | succ m ih =>
    intro k n P hk hn hv
    obtain ⟨n, rfl⟩ : ∃ q, n = q + 1 := ⟨n - 1, by omega⟩
    have hk9 : k < 144 := by omega
    have k1 : nI k + 1 = nI (k + 1) := nI_1 _
    have g : ∀ v : Int32, v.toInt = iniB h b k → ∃ Q, Mo_bars_81 (nI c) (nI h) (if b then 1 else 0) n (nI (k + 1)) (sI P 101 k v) = Mo_bars_124 (nI c) bigN (nI 0) Q ∧ onlyB P Q ∧ Q.1 1 = P.1 1 ∧ ∀ x, x < 144 → (Q.1 101 x).toInt = iniB h b x := by
      intro v hvv
      obtain ⟨Q, e1, e2, e3, e4⟩ := ih (k + 1) n (sI P 101 k v) (by omega) (by omega) (fun x hx => by
        rw [rowI_s]
        by_cases q : x = k
        · rw [q, pk_us, hvv]
        · rw [pk_un q]; exact hv x (by omega))
      exact ⟨Q, e1, ((onlyB.rf P).s101 _ _).tr e2, by rw [e3, rowI_o _ _ _ (by decide)], e4⟩
    have hd : ∀ Z, (if nI k = nI h then (if (if b then (1 : Int32) else 0) = 0 then Mo_bars_81 (nI c) (nI h) (if b then 1 else 0) n (nI (k + 1)) (sI P 101 k (1 : Int32)) else Mo_bars_81 (nI c) (nI h) (if b then 1 else 0) n (nI (k + 1)) (sI P 101 k (-1 : Int32))) else Mo_bars_81 (nI c) (nI h) (if b then 1 else 0) n (nI (k + 1)) (sI P 101 k (0 : Int32))) = Z → Mo_bars_81 (nI c) (nI h) (if b then 1 else 0) (n + 1) (nI k) P = Z := by
      intro Z hZ
      unfold Mo_bars_81
      rw [if_neg (show ¬ (144 : Int32) ≤ nI k from (show ¬ nI 144 ≤ nI k from nI_ge hk9 (by decide))), z_gd hk9 (by decide), z_gd hk9 (by decide), z_gd hk9 (by decide), z_cl (by omega), k1, Option.bind_some, Option.bind_some, Option.bind_some]
      exact hZ
    by_cases q : k = h
    · cases b with
      | false =>
        obtain ⟨Q, e1, e2⟩ := g 1 (by unfold iniB; rw [if_pos q]; decide)
        exact ⟨Q, hd _ (by rw [if_pos (show nI k = nI h by rw [q]), if_pos (by decide)]; exact e1), e2⟩
      | true =>
        obtain ⟨Q, e1, e2⟩ := g (-1) (by unfold iniB; rw [if_pos q]; decide)
        exact ⟨Q, hd _ (by rw [if_pos (show nI k = nI h by rw [q]), if_neg (by decide)]; exact e1), e2⟩
    · obtain ⟨Q, e1, e2⟩ := g 0 (by unfold iniB; rw [if_neg q]; decide)
      exact ⟨Q, hd _ (by rw [if_neg (show ¬ nI k = nI h by rw [z_eq (by omega) (by omega)]; exact q)]; exact e1), e2⟩
theorem b20_step (hD : WD D) {P : PH} (hR : RD D (P.1 88)) (hRN : RN D N (P.1 88)) (hc : c < 4) {Hf : Nat → Bool} (hH : ∀ l, l < dN D → P.1 99 l = nI (if Hf l then 1 else 0)) {k : Nat} (hk : k < dN D) (hb : (Sx D N c false k && !Hf k) = false) (v2 v3 : Int32) (n : Nat) :
    Mo_bars_20 (nI c) v2 v3 (n + 1) (nI k) P = Mo_bars_20 (nI c) v2 v3 n (nI (k + 1)) P := by
  have h60 := hD.1
  have ik := (hD.2.1 k hk).2.2.1
  have k1 : nI k + 1 = nI (k + 1) := nI_1 _
  have hd : ∀ Z, (if nI (dI D k) = nI c then (if nI (wkN N k) = (3 : Int32) then Mo_bars_20 (nI c) v2 v3 n (nI (k + 1)) P else if nI (if Hf k then 1 else 0) = 0 then (some (sI P 1 29 (nI k))).bind (fun (P67 : PH) => some ((1 : Int32), P67)) else Mo_bars_20 (nI c) v2 v3 n (nI (k + 1)) P) else Mo_bars_20 (nI c) v2 v3 n (nI (k + 1)) P) = Z → Mo_bars_20 (nI c) v2 v3 (n + 1) (nI k) P = Z := by
    intro Z hZ
    unfold Mo_bars_20
    rw [gd_0, mo_0 hR, if_neg (nI_ge hk (by omega)), mo_ink hD hR hk, Option.bind_some, mo_worked hD hRN hk, Option.bind_some, z_gd (show k < 60 by omega) (by decide), z_cl (by omega), hH k hk, k1]
    exact hZ
  refine hd _ ?_
  by_cases c1 : dI D k = c
  · rw [if_pos (show nI (dI D k) = nI c by rw [c1])]
    by_cases c2 : nI (wkN N k) = (3 : Int32)
    · rw [if_pos c2]
    · rw [if_neg c2]
      have hs : Sx D N c false k = true := by
        unfold Sx
        have : ¬ (xO N k = true ∧ xU N k = true) := fun q => c2 ((wk12 N k).2.2.mpr q)
        simp only [c1, decide_true, Bool.true_and, Bool.false_or, Bool.not_eq_true', Bool.and_eq_false_iff]
        cases cO : xO N k
        · exact Or.inl rfl
        · exact Or.inr (ts_nt (fun q => this ⟨cO, q⟩))
      rw [hs] at hb
      have hf : Hf k = true := by
        cases q : Hf k
        · rw [q] at hb; cases hb
        · rfl
      rw [hf, if_neg (by decide)]
  · rw [if_neg (show ¬ nI (dI D k) = nI c by rw [z_eq (by omega) (by omega)]; exact c1)]
theorem b20_none (hD : WD D) {P : PH} (hR : RD D (P.1 88)) (hRN : RN D N (P.1 88)) (hc : c < 4) {Hf : Nat → Bool} (hH : ∀ l, l < dN D → P.1 99 l = nI (if Hf l then 1 else 0)) (hb : ∀ l, l < dN D → (Sx D N c false l && !Hf l) = false) (v2 v3 : Int32) : ∀ (m k n : Nat), k + m = dN D → m < n → Mo_bars_20 (nI c) v2 v3 n (nI k) P = Mo_bars_81 (nI c) v2 v3 bigN (nI 0) P := by
  have h60 := hD.1
  intro m
  induction m with
  | zero =>
    intro k n hk hn
    obtain ⟨n, rfl⟩ : ∃ q, n = q + 1 := ⟨n - 1, by omega⟩
    obtain rfl : k = dN D := by omega
    unfold Mo_bars_20
    rw [gd_0, mo_0 hR, if_pos (by rw [z_le (by omega) (by omega)]; exact Nat.le_refl _)]
    rfl
  | succ m ih =>
    intro k n hk hn
    obtain ⟨n, rfl⟩ : ∃ q, n = q + 1 := ⟨n - 1, by omega⟩
    rw [b20_step hD hR hRN hc hH (show k < dN D by omega) (hb k (by omega))]
    exact ih (k + 1) n (by omega) (by omega)
theorem b20_some (hD : WD D) {P : PH} (hR : RD D (P.1 88)) (hRN : RN D N (P.1 88)) (hc : c < 4) {Hf : Nat → Bool} (hH : ∀ l, l < dN D → P.1 99 l = nI (if Hf l then 1 else 0)) {l : Nat} (hl : l < dN D) (h1 : (Sx D N c false l && !Hf l) = true) (hb : ∀ j, j < l → (Sx D N c false j && !Hf j) = false) (v2 v3 : Int32) : ∀ (m k n : Nat), k + m = l → m < n → Mo_bars_20 (nI c) v2 v3 n (nI k) P = some (nI 1, sI P 1 29 (nI l)) := by
  have h60 := hD.1
  intro m
  induction m with
  | zero =>
    intro k n hk hn
    obtain ⟨n, rfl⟩ : ∃ q, n = q + 1 := ⟨n - 1, by omega⟩
    obtain rfl : k = l := by omega
    simp only [Bool.and_eq_true, Bool.not_eq_true'] at h1
    obtain ⟨s1, s2⟩ := h1
    unfold Sx at s1
    simp only [Bool.and_eq_true, decide_eq_true_eq, Bool.false_or, Bool.not_eq_true'] at s1
    obtain ⟨s1, s3⟩ := s1
    unfold Mo_bars_20
    rw [gd_0, mo_0 hR, if_neg (nI_ge hl (by omega)), mo_ink hD hR hl, Option.bind_some, if_pos (show nI (dI D k) = nI c by rw [s1]), mo_worked hD hRN hl, Option.bind_some, if_neg (show ¬ nI (wkN N k) = (3 : Int32) from fun q => by
      obtain ⟨w1, w2⟩ := (wk12 N k).2.2.mp q
      rw [w1, w2] at s3
      cases s3), z_gd (show k < 60 by omega) (by decide), z_cl (by omega), hH k hl, s2, if_pos (by decide), Option.bind_some]
    rfl
  | succ m ih =>
    intro k n hk hn
    obtain ⟨n, rfl⟩ : ∃ q, n = q + 1 := ⟨n - 1, by omega⟩
    rw [b20_step hD hR hRN hc hH (show k < dN D by omega) (hb k (by omega))]
    exact ih (k + 1) n (by omega) (by omega)
theorem Sx_f (D : DT) (N : NT) (c : Nat) : Sx D N c false = fun l => lO D N c l || lU D N c l := by
  funext l
  unfold Sx lO lU
  cases decide (dI D l = c) <;> cases xO N l <;> cases xU N l <;> rfl
theorem scn_fail {f : Nat → Int} : ∀ (m k : Nat) (l0 : Option Nat), (scn f m k l0).1 ≠ none → (scn f m k l0).2 = none := by
  intro m
  induction m with
  | zero => intro k l0 q; exact absurd rfl q
  | succ m ih =>
    intro k l0 q
    rw [scn_s] at q ⊢
    by_cases y : f k = 0
    · rw [if_pos y] at q ⊢; exact ih _ _ q
    · rw [if_neg y] at q ⊢
      cases l0 with
      | some a => rfl
      | none =>
        by_cases y2 : f k = 1 ∨ f k = -1
        · have q : (if f k = 1 ∨ f k = -1 then scn f m (k + 1) (some k) else (some k, none)).1 ≠ none := q
          show (if f k = 1 ∨ f k = -1 then scn f m (k + 1) (some k) else (some k, none)).2 = none
          rw [if_pos y2] at q ⊢
          exact ih _ _ q
        · show (if f k = 1 ∨ f k = -1 then scn f m (k + 1) (some k) else (some k, none)).2 = none
          rw [if_neg y2]
theorem mo_bars (hD : WD D) {P : PH} (hR : RD D (P.1 88)) (hRN : RN D N (P.1 88)) (hh : h < 144) (hc : c < 4) (b : Bool) :
    ∃ Q, Mo_bars (nI c) (nI h) (if b then 1 else 0) P = some (nI (barsS D (lO D N c) (lU D N c) h b).1, Q) ∧ onlyB P Q ∧ Q.1 1 29 = enc (barsS D (lO D N c) (lU D N c) h b).2.1 ∧ Q.1 1 30 = enc (barsS D (lO D N c) (lU D N c) h b).2.2 := by
  have h60 := hD.1
  obtain ⟨P1, hP1⟩ : ∃ P1, P1 = sI (sI P 1 29 (-1 : Int32)) 1 30 (-1 : Int32) := ⟨_, rfl⟩
  have o1 : onlyB P P1 := by rw [hP1]; exact ((onlyB.rf P).s1 (Or.inl rfl) _).s1 (Or.inr rfl) _
  have r1 : P1.1 88 = P.1 88 := o1.1 88 (by decide) (by decide) (by decide) (by decide)
  obtain ⟨Q1, Hf, e1, e2, e3, e4⟩ := mo_hangs (c := c) (N := N) hD (P := P1) (by rw [r1]; exact hR) (by rw [r1]; exact hRN) hh hc false
  rw [if_neg (show ¬ false = true by decide)] at e1
  have r2 : Q1.1 88 = P.1 88 := (e2.1 88 (by decide) (by decide)).trans r1
  have o2 : onlyB P Q1 := o1.tr e2.B
  have q29 : Q1.1 1 29 = m1 := by rw [e2.1 1 (by decide) (by decide), hP1, rowI_s, pk_un (by decide), rowI_s, pk_us]; rfl
  have q30 : Q1.1 1 30 = m1 := by rw [e2.1 1 (by decide) (by decide), hP1, rowI_s, pk_us]; rfl
  have hbad : ∀ l, l < dN D → (Sx D N c false l && !Hf l) = ((lO D N c l || lU D N c l) && !cP (Cl D (fun l => lO D N c l || lU D N c l) h l)) := fun l hl => by
    have := e4 l hl
    rw [Sx_f] at this ⊢
    have eH : Hf l = cP (Cl D (fun l => lO D N c l || lU D N c l) h l) := by
      cases q : Hf l
      · exact (ts_nt (fun r => by have := this.mpr (cP_iff.mp r); rw [q] at this; cases this)).symm
      · exact (cP_iff.mpr (this.mp q)).symm
    rw [eH]
  have hu : ∀ Z, Mo_bars_20 (nI c) (nI h) (if b then 1 else 0) bigN (nI 0) Q1 = some Z → Mo_bars (nI c) (nI h) (if b then 1 else 0) P = some Z := by
    intro Z hZ
    rw [show (nI 0 : Int32) = 0 from rfl] at hZ
    unfold Mo_bars
    rw [Option.bind_some, Option.bind_some, ← hP1, e1, Option.bind_some]
    exact hZ
  cases ef : fsp (fun l => (lO D N c l || lU D N c l) && !cP (Cl D (fun l => lO D N c l || lU D N c l) h l)) (dN D) with
  | some l =>
    obtain ⟨f1, f2, f3⟩ := fsp_some ef
    have eb : barsS D (lO D N c) (lU D N c) h b = (1, some l, none) := by unfold barsS; rw [ef]
    rw [eb]
    have := b20_some hD (P := Q1) (by rw [r2]; exact hR) (by rw [r2]; exact hRN) hc e3 f1 (by rw [hbad l f1]; exact f2) (fun j hj => by rw [hbad j (by omega)]; exact f3 j hj) (nI h) (if b then 1 else 0) l 0 bigN (by omega) (big_gt (by omega))
    refine ⟨_, hu _ this, o2.s1 (Or.inl rfl) _, by rw [rowI_s, pk_us]; rfl, by rw [rowI_s, pk_un (by decide), q30]; rfl⟩
  | none =>
    have f3 := fsp_none ef
    have g1 := b20_none hD (P := Q1) (by rw [r2]; exact hR) (by rw [r2]; exact hRN) hc e3 (fun l hl => by rw [hbad l hl]; exact f3 l hl) (nI h) (if b then 1 else 0) (dN D) 0 bigN (by omega) (big_gt (by omega))
    obtain ⟨Q2, a1, a2, a3, a4⟩ := b81 (c := c) (b := b) hh 144 0 bigN Q1 rfl (big_gt (by omega)) (fun x hx => by omega)
    have r3 : Q2.1 88 = P.1 88 := (a2.1 88 (by decide) (by decide) (by decide) (by decide)).trans r2
    have z0 : ∀ x, gM D N c (iniB h b) 0 x = iniB h b x := fun x => by
      unfold gM
      show ((0 : Nat) : Int) - ((0 : Nat) : Int) + iniB h b x = _
      omega
    obtain ⟨Q3, d1, d2, d3, d4⟩ := b124 hD hc (iniB_rng h b) (dN D) 0 bigN Q2 (by rw [r3]; exact hR) (by rw [r3]; exact hRN) (by omega) (big_gt (by omega)) (fun x hx => by rw [z0]; exact a4 x hx)
    have hfb : ∀ x, x < 144 → -100 < fM D (lO D N c) (lU D N c) h b x ∧ fM D (lO D N c) (lU D N c) h b x < 100 := fun x _ => by
      have b1 := fb_ct_le (fun l => dat D x l && lO D N c l) (dN D)
      have b2 := fb_ct_le (fun l => dat D x l && lU D N c l) (dN D)
      unfold fM
      split
      · split <;> omega
      · omega
    obtain ⟨Q, k1, k2, k3, k4⟩ := b224 hfb 144 0 bigN Q3 none rfl (big_gt (by omega)) (fun x hx => d4 x hx) (by rw [d3, a3]; exact q30) (fun a q => by cases q)
    have all : Mo_bars (nI c) (nI h) (if b then 1 else 0) P = some (nI (kd2 (scn (fM D (lO D N c) (lU D N c) h b) 144 0 none).1), Q) := hu _ (((g1.trans a1).trans d1).trans k1)
    have oQ : onlyB P Q := ((o2.tr a2).tr d2).tr k2
    have q29' : Q3.1 1 29 = m1 := by rw [d3, a3]; exact q29
    have hsf := scn_fail (f := fM D (lO D N c) (lU D N c) h b) 144 0 none
    cases es : scn (fM D (lO D N c) (lU D N c) h b) 144 0 none with
    | mk bad last =>
      rw [es] at all k3 k4 hsf
      cases bad with
      | none =>
        have eb : barsS D (lO D N c) (lU D N c) h b = (0, none, last) := by unfold barsS; rw [ef, es]
        rw [eb]
        exact ⟨Q, all, oQ, by rw [k3]; exact q29', k4⟩
      | some a =>
        have eb : barsS D (lO D N c) (lU D N c) h b = (2, some a, none) := by unfold barsS; rw [ef, es]
        rw [eb]
        have hl : last = none := hsf (fun q => by cases q)
        exact ⟨Q, all, oQ, by rw [k3]; rfl, by rw [k4, hl]⟩
end BRG
