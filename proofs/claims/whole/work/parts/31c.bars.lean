/-! BARS: the reference's matching -/
def onlyB (P Q : PH) : Prop := (∀ n, n ≠ 1 → n ≠ 99 → n ≠ 100 → n ≠ 101 → Q.1 n = P.1 n) ∧ (∀ k, k ≠ 29 → k ≠ 30 → Q.1 1 k = P.1 1 k) ∧ Q.2 = P.2
theorem onlyB.rf (P : PH) : onlyB P P := ⟨fun _ _ _ _ _ => rfl, fun _ _ _ => rfl, rfl⟩
theorem onlyB.tr {P Q R : PH} (h : onlyB P Q) (h2 : onlyB Q R) : onlyB P R := ⟨fun n a b c d => (h2.1 n a b c d).trans (h.1 n a b c d), fun k a b => (h2.2.1 k a b).trans (h.2.1 k a b), h2.2.2.trans h.2.2⟩
theorem onlyX.B {P Q : PH} (h : onlyX P Q) : onlyB P Q := ⟨fun n _ b c _ => h.1 n b c, fun k _ _ => by rw [h.1 1 (by decide) (by decide)], h.2⟩
theorem onlyB.s1 {P Q : PH} (h : onlyB P Q) {k : Nat} (hk : k = 29 ∨ k = 30) (v : Int32) : onlyB P (sI Q 1 k v) := ⟨fun n a b c d => by rw [rowI_o _ _ _ a]; exact h.1 n a b c d, fun j a b => by rw [rowI_s, pk_un (by omega)]; exact h.2.1 j a b, h.2.2⟩
theorem onlyB.s101 {P Q : PH} (h : onlyB P Q) (k : Nat) (v : Int32) : onlyB P (sI Q 101 k v) := ⟨fun n a b c d => by rw [rowI_o _ _ _ d]; exact h.1 n a b c d, fun j a b => by rw [rowI_o _ _ _ (by decide)]; exact h.2.1 j a b, h.2.2⟩
theorem onlyB.scr {P Q : PH} (h : onlyB P Q) : scr P Q := by
  refine ⟨fun n k q => ?_, fun n k _ => by rw [h.2.2]⟩
  by_cases e : n = 1
  · subst e
    exact h.2.1 k (fun z => by rw [z] at q; cases q) (fun z => by rw [z] at q; cases q)
  · rw [h.1 n e (fun z => by rw [z] at q; cases q) (fun z => by rw [z] at q; cases q) (fun z => by rw [z] at q; cases q)]
def kd2 (o : Option Nat) : Nat := match o with
  | none => 0
  | some _ => 2
theorem jabs_1 {v : Int32} (h1 : -100 < v.toInt) (h2 : v.toInt < 100) : jAbs v = 1 ↔ v.toInt = 1 ∨ v.toInt = -1 := by
  have i0 : (0 : Int32).toInt = 0 := by decide
  have i1 : (1 : Int32).toInt = 1 := by decide
  unfold jAbs
  by_cases c : (0 : Int32) ≤ v
  · rw [if_pos c, fa_eq, i1]
    rw [fa_le, i0] at c
    omega
  · rw [if_neg c, fa_eq, i1, fb_subI (by rw [i0]; omega) (by rw [i0]; omega), i0]
    rw [fa_le, i0] at c
    omega
section BRF
variable {D : DT} {N : NT} {c h : Nat} {b : Bool}
theorem b224 {f : Nat → Int} (hf : ∀ x, x < 144 → -100 < f x ∧ f x < 100) : ∀ (m k n : Nat) (P : PH) (last : Option Nat), k + m = 144 → m < n → (∀ x, x < 144 → (P.1 101 x).toInt = f x) → P.1 1 30 = enc last → (∀ a, last = some a → a < 144) →
    ∃ Q, Mo_bars_224 n (nI k) P = some (nI (kd2 (scn f m k last).1), Q) ∧ onlyB P Q ∧ Q.1 1 29 = atO (scn f m k last).1 (P.1 1 29) ∧ Q.1 1 30 = enc (scn f m k last).2 := by
  intro m
  induction m with
  | zero =>
    intro k n P last hk hn hv h3 hl
    obtain ⟨n, rfl⟩ : ∃ q, n = q + 1 := ⟨n - 1, by omega⟩
    obtain rfl : k = 144 := by omega
    refine ⟨P, ?_, onlyB.rf P, rfl, h3⟩
    unfold Mo_bars_224
    rw [if_pos (by decide)]
    rfl
  | succ m ih =>
    intro k n P last hk hn hv h3 hl
    obtain ⟨n, rfl⟩ : ∃ q, n = q + 1 := ⟨n - 1, by omega⟩
    have hk9 : k < 144 := by omega
    have i0 : (0 : Int32).toInt = 0 := by decide
    have k1 : nI k + 1 = nI (k + 1) := nI_1 _
    obtain ⟨f1, f2⟩ := hf k hk9
    have vk := hv k hk9
    have fail : ∃ Q, (some (sI P 1 29 (nI k))).bind (fun (P270 : PH) => (some (sI P270 1 30 (-1 : Int32))).bind fun (P275 : PH) => some ((2 : Int32), P275)) = some (nI 2, Q) ∧ onlyB P Q ∧ Q.1 1 29 = nI k ∧ Q.1 1 30 = enc none := by
      refine ⟨sI (sI P 1 29 (nI k)) 1 30 (-1 : Int32), ?_, ((onlyB.rf P).s1 (Or.inl rfl) _).s1 (Or.inr rfl) _, ?_, ?_⟩
      · rw [Option.bind_some, Option.bind_some]; rfl
      · rw [rowI_s, pk_un (by decide), rowI_s, pk_us]
      · rw [rowI_s, pk_us]; rfl
    have hd : ∀ Z, (if P.1 101 k = 0 then Mo_bars_224 n (nI (k + 1)) P else if P.1 1 30 = (-1 : Int32) then (if jAbs (P.1 101 k) = (1 : Int32) then (some (sI P 1 30 (nI k))).bind (fun (P283 : PH) => Mo_bars_224 n (nI (k + 1)) P283) else (some (sI P 1 29 (nI k))).bind (fun (P270 : PH) => (some (sI P270 1 30 (-1 : Int32))).bind fun (P275 : PH) => some ((2 : Int32), P275))) else (some (sI P 1 29 (nI k))).bind (fun (P270 : PH) => (some (sI P270 1 30 (-1 : Int32))).bind fun (P275 : PH) => some ((2 : Int32), P275))) = Z → Mo_bars_224 (n + 1) (nI k) P = Z := by
      intro Z hZ
      unfold Mo_bars_224
      rw [if_neg (show ¬ (144 : Int32) ≤ nI k from (show ¬ nI 144 ≤ nI k from nI_ge hk9 (by decide))), z_gd hk9 (by decide), z_cl (by omega), z_gd hk9 (by decide), k1]
      exact hZ
    by_cases c0 : f k = 0
    · have sc : scn f (m + 1) k last = scn f m (k + 1) last := by rw [scn_s, if_pos c0]
      obtain ⟨Q, e1, e2⟩ := ih (k + 1) n P last (by omega) (by omega) hv h3 hl
      rw [sc]
      exact ⟨Q, hd _ (by rw [if_pos (show P.1 101 k = 0 by rw [fa_eq, i0, vk, c0])]; exact e1), e2⟩
    · have hz : ¬ P.1 101 k = 0 := by rw [fa_eq, i0, vk]; exact c0
      cases last with
      | some a =>
        have sc : scn f (m + 1) k (some a) = (some k, none) := by rw [scn_s, if_neg c0]
        obtain ⟨Q, g1, g2, g3, g4⟩ := fail
        rw [sc]
        exact ⟨Q, hd _ (by rw [if_neg hz, if_neg (show ¬ P.1 1 30 = (-1 : Int32) from by rw [h3]; exact nI_nm (by have := hl a rfl; omega))]; exact g1), g2, g3, g4⟩
      | none =>
        by_cases c1 : f k = 1 ∨ f k = -1
        · have sc : scn f (m + 1) k none = scn f m (k + 1) (some k) := by rw [scn_s, if_neg c0]; exact if_pos c1
          obtain ⟨Q, e1, e2, e3, e4⟩ := ih (k + 1) n (sI P 1 30 (nI k)) (some k) (by omega) (by omega) (fun x hx => by rw [rowI_o _ _ _ (by decide)]; exact hv x hx) (by rw [rowI_s, pk_us]; rfl) (fun a q => by rw [← Option.some.inj q]; exact hk9)
          rw [sc]
          refine ⟨Q, hd _ ?_, ((onlyB.rf P).s1 (Or.inr rfl) _).tr e2, by rw [e3, rowI_s, pk_un (by decide)], e4⟩
          rw [if_neg hz, if_pos (show P.1 1 30 = (-1 : Int32) from h3), if_pos ((jabs_1 (by omega) (by omega)).mpr (by rw [vk]; exact c1)), Option.bind_some]
          exact e1
        · have sc : scn f (m + 1) k none = (some k, none) := by rw [scn_s, if_neg c0]; exact if_neg c1
          obtain ⟨Q, g1, g2, g3, g4⟩ := fail
          rw [sc]
          refine ⟨Q, hd _ ?_, g2, g3, g4⟩
          rw [if_neg hz, if_pos (show P.1 1 30 = (-1 : Int32) from h3), if_neg (fun q => c1 (by have := (jabs_1 (by omega) (by omega)).mp q; rw [vk] at this; exact this))]
          exact g1
/-- what of an ink is left over, under -/
def lO (D : DT) (N : NT) (c l : Nat) : Bool := decide (dI D l = c) && !xO N l
def lU (D : DT) (N : NT) (c l : Nat) : Bool := decide (dI D l = c) && !xU N l
def gM (D : DT) (N : NT) (c : Nat) (ini : Nat → Int) (k x : Nat) : Int := (fb_ct (fun l => dat D x l && lO D N c l) k : Int) - (fb_ct (fun l => dat D x l && lU D N c l) k : Int) + ini x
theorem bint (o : Bool) : (if o then (1 : Int32) else 0).toInt = (if o then 1 else 0) := by cases o <;> decide
theorem b124 (hD : WD D) (hc : c < 4) {ini : Nat → Int} (hi : ∀ x, -2 < ini x ∧ ini x < 2) : ∀ (m k n : Nat) (P : PH), RD D (P.1 88) → RN D N (P.1 88) → k + m = dN D → m < n → (∀ x, x < 144 → (P.1 101 x).toInt = gM D N c ini k x) →
    ∃ Q, Mo_bars_124 (nI c) n (nI k) P = Mo_bars_224 bigN (nI 0) Q ∧ onlyB P Q ∧ Q.1 1 = P.1 1 ∧ ∀ x, x < 144 → (Q.1 101 x).toInt = gM D N c ini (dN D) x := by
  have h60 := hD.1
  intro m
  induction m with
  | zero =>
    intro k n P hR hRN hk hn hv
    obtain ⟨n, rfl⟩ : ∃ q, n = q + 1 := ⟨n - 1, by omega⟩
    obtain rfl : k = dN D := by omega
    refine ⟨P, ?_, onlyB.rf P, rfl, hv⟩
    unfold Mo_bars_124
    rw [gd_0, mo_0 hR, if_pos (by rw [z_le (by omega) (by omega)]; exact Nat.le_refl _)]
    rfl
  | succ m ih =>
    intro k n P hR hRN hk hn hv
    obtain ⟨n, rfl⟩ : ∃ q, n = q + 1 := ⟨n - 1, by omega⟩
    have hkD : k < dN D := by omega
    have k1 : nI k + 1 = nI (k + 1) := nI_1 _
    have ik := (hD.2.1 k hkD).2.2.1
    have hF := (hD.2.1 k hkD).1
    have hT := (hD.to hkD).1
    have hne := (hD.to hkD).2
    have gs : ∀ x, gM D N c ini (k + 1) x = gM D N c ini k x + (if (dat D x k && lO D N c k) = true then 1 else 0) - (if (dat D x k && lU D N c k) = true then 1 else 0) := fun x => by
      unfold gM
      rw [fb_ct_succ, fb_ct_succ]
      show ((fb_ct (fun l => dat D x l && lO D N c l) k + (if (dat D x k && lO D N c k) = true then 1 else 0) : Nat) : Int) - ((fb_ct (fun l => dat D x l && lU D N c l) k + (if (dat D x k && lU D N c k) = true then 1 else 0) : Nat) : Int) + ini x = _
      split <;> split <;> omega
    have gb : ∀ x, -63 < gM D N c ini k x ∧ gM D N c ini k x < 63 := fun x => by
      have a1 := fb_ct_le (fun l => dat D x l && lO D N c l) k
      have a2 := fb_ct_le (fun l => dat D x l && lU D N c l) k
      have a3 := hi x
      unfold gM
      omega
    by_cases ci : dI D k = c
    · have go : ∀ o u : Bool, lO D N c k = o → lU D N c k = u → ∃ Q, Mo_bars_180 (Mo_bars_124 (nI c) n) (nI c) (nI k) (if u then 1 else 0) (if o then 1 else 0) P = Mo_bars_224 bigN (nI 0) Q ∧ onlyB P Q ∧ Q.1 1 = P.1 1 ∧ ∀ x, x < 144 → (Q.1 101 x).toInt = gM D N c ini (dN D) x := by
        intro o u ho hu
        have eu : ((if o then (1 : Int32) else 0) - (if u then (1 : Int32) else 0)).toInt = (if o then 1 else 0) - (if u then 1 else 0) := by cases o <;> cases u <;> decide
        generalize hU5 : (if o then (1 : Int32) else 0) - (if u then (1 : Int32) else 0) = u5 at eu
        have ub : -2 < u5.toInt ∧ u5.toInt < 2 := by rw [eu]; cases o <;> cases u <;> decide
        obtain ⟨P1, hP1⟩ : ∃ P1, P1 = sI P 101 (dF D k) (P.1 101 (dF D k) + u5) := ⟨_, rfl⟩
        obtain ⟨P2, hP2⟩ : ∃ P2, P2 = sI P1 101 (dT D k) (P1.1 101 (dT D k) + u5) := ⟨_, rfl⟩
        have r88 : P1.1 88 = P.1 88 := by rw [hP1]; exact rowI_o _ _ _ (by decide)
        have s88 : P2.1 88 = P.1 88 := by rw [hP2, rowI_o _ _ _ (by decide), r88]
        have o2 : onlyB P P2 := by rw [hP2, hP1]; exact ((onlyB.rf P).s101 _ _).s101 _ _
        have ad : ∀ x, x < 144 → (P.1 101 x + u5).toInt = gM D N c ini k x + u5.toInt := fun x hx => by
          have := gb x
          rw [fb_addI (by rw [hv x hx]; omega) (by rw [hv x hx]; omega), hv x hx]
        have nv : ∀ x, x < 144 → (P2.1 101 x).toInt = gM D N c ini (k + 1) x := fun x hx => by
          rw [gs x, hP2, rowI_s]
          by_cases e1 : x = dT D k
          · have hdat : dat D x k = true := by rw [e1]; exact dat_T D k
            rw [hdat, ho, hu, e1, pk_us, hP1, rowI_s, pk_un hne, ad _ hT, eu]
            simp only [Bool.true_and]
            omega
          · rw [pk_un e1, hP1, rowI_s]
            by_cases e2 : x = dF D k
            · have hdat : dat D x k = true := by rw [e2]; exact dat_F D k
              rw [hdat, ho, hu, e2, pk_us, ad _ hF, eu]
              simp only [Bool.true_and]
              omega
            · have hdat : dat D x k = false := ts_nt (fun q => by
                rcases dat_iff.mp q with q | q
                · exact e2 q.symm
                · exact e1 q.symm)
              rw [pk_un e2, hdat, hv x hx]
              simp
        obtain ⟨Q, e1, e2, e3, e4⟩ := ih (k + 1) n P2 (by rw [s88]; exact hR) (by rw [s88]; exact hRN) (by omega) (by omega) nv
        refine ⟨Q, ?_, o2.tr e2, ?_, e4⟩
        · unfold Mo_bars_180
          rw [Option.bind_some, hU5, mo_from hD hR hkD, Option.bind_some, z_gd hF (by decide), z_cl (by omega), z_gd hF (by decide), ← hP1, Option.bind_some, mo_to hD (by rw [r88]; exact hR) hkD, Option.bind_some, z_gd hT (by decide), z_cl (by omega), z_gd hT (by decide), ← hP2, Option.bind_some, k1]
          exact e1
        · rw [e3, hP2, rowI_o _ _ _ (by decide), hP1, rowI_o _ _ _ (by decide)]
      have wo := wk_face N k true
      have wu := wk_face N k false
      have hlo : lO D N c k = !xO N k := by unfold lO; simp [ci]
      have hlu : lU D N c k = !xU N k := by unfold lU; simp [ci]
      have t164 : ∀ o : Bool, lO D N c k = o → ∃ Q, Mo_bars_164 (Mo_bars_124 (nI c) n) (nI c) (nI k) (if o then 1 else 0) P = Mo_bars_224 bigN (nI 0) Q ∧ onlyB P Q ∧ Q.1 1 = P.1 1 ∧ ∀ x, x < 144 → (Q.1 101 x).toInt = gM D N c ini (dN D) x := by
        intro o ho
        unfold Mo_bars_164
        rw [mo_worked hD hRN hkD, Option.bind_some]
        cases xu : xU N k
        · rw [if_pos (show nI (wkN N k) &&& (2 : Int32) = 0 from wu.mpr xu)]
          exact go o true ho (by rw [hlu, xu]; rfl)
        · rw [if_neg (show ¬ nI (wkN N k) &&& (2 : Int32) = 0 from fun q => by have : xU N k = false := wu.mp q; rw [xu] at this; cases this)]
          exact go o false ho (by rw [hlu, xu]; rfl)
      have hd : ∀ Z, (if (nI (wkN N k) &&& (1 : Int32)) = 0 then Mo_bars_164 (Mo_bars_124 (nI c) n) (nI c) (nI k) (1 : Int32) P else Mo_bars_164 (Mo_bars_124 (nI c) n) (nI c) (nI k) (0 : Int32) P) = Z → Mo_bars_124 (nI c) (n + 1) (nI k) P = Z := by
        intro Z hZ
        unfold Mo_bars_124
        rw [gd_0, mo_0 hR, if_neg (nI_ge hkD (by omega)), mo_ink hD hR hkD, Option.bind_some, if_pos (show nI (dI D k) = nI c by rw [ci]), mo_worked hD hRN hkD, Option.bind_some]
        exact hZ
      cases xo : xO N k
      · obtain ⟨Q, e1, e2⟩ := t164 true (by rw [hlo, xo]; rfl)
        exact ⟨Q, hd _ (by rw [if_pos (show nI (wkN N k) &&& (1 : Int32) = 0 from wo.mpr xo)]; exact e1), e2⟩
      · obtain ⟨Q, e1, e2⟩ := t164 false (by rw [hlo, xo]; rfl)
        exact ⟨Q, hd _ (by rw [if_neg (show ¬ nI (wkN N k) &&& (1 : Int32) = 0 from fun q => by have : xO N k = false := wo.mp q; rw [xo] at this; cases this)]; exact e1), e2⟩
    · have hlo : lO D N c k = false := by unfold lO; simp [ci]
      have hlu : lU D N c k = false := by unfold lU; simp [ci]
      obtain ⟨Q, e1, e2⟩ := ih (k + 1) n P hR hRN (by omega) (by omega) (fun x hx => by
        rw [gs x, hlo, hlu, hv x hx]
        simp)
      refine ⟨Q, ?_, e2⟩
      unfold Mo_bars_124
      rw [gd_0, mo_0 hR, if_neg (nI_ge hkD (by omega)), mo_ink hD hR hkD, Option.bind_some, if_neg (show ¬ nI (dI D k) = nI c by rw [z_eq (by omega) (by omega)]; exact ci), k1]
      exact e1
end BRF
