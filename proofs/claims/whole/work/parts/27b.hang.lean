/-! THE REFERENCE'S HANGS -/
def onlyX (P Q : PH) : Prop := (∀ n, n ≠ 99 → n ≠ 100 → Q.1 n = P.1 n) ∧ Q.2 = P.2
theorem onlyX.rf (P : PH) : onlyX P P := ⟨fun _ _ _ => rfl, rfl⟩
theorem onlyX.tr {P Q R : PH} (h : onlyX P Q) (h2 : onlyX Q R) : onlyX P R := ⟨fun n a b => (h2.1 n a b).trans (h.1 n a b), h2.2.trans h.2⟩
theorem onlyX.s {P Q : PH} (h : onlyX P Q) {n : Nat} (hn : n = 99 ∨ n = 100) (k : Nat) (v : Int32) : onlyX P (sI Q n k v) := ⟨fun m a b => (rowI_o Q k v (by omega)).trans (h.1 m a b), h.2⟩
theorem iR_no {n : Nat} (h : n = 99 ∨ n = 100) (k : Nat) : iR n k = false := by
  rcases h with h | h <;> subst h <;> rfl
theorem onlyX.scr {P Q : PH} (h : onlyX P Q) : scr P Q := by
  refine ⟨fun n k q => ?_, fun n k _ => by rw [h.2]⟩
  rw [h.1 n (fun z => by rw [iR_no (Or.inl z)] at q; cases q) (fun z => by rw [iR_no (Or.inr z)] at q; cases q)]
/-- lines of an ink, still to do where asked -/
def Sx (D : DT) (N : NT) (c : Nat) (b : Bool) (l : Nat) : Bool := decide (dI D l = c) && (b || !(xO N l && xU N l))
def LH (D : DT) (P : PH) (Hf Rf : Nat → Bool) : Prop := (∀ l, l < dN D → P.1 99 l = nI (if Hf l then 1 else 0)) ∧ ∀ x, x < 144 → P.1 100 x = nI (if Rf x then 1 else 0)
def LJ (D : DT) (S : Nat → Bool) (h : Nat) (Hf Rf : Nat → Bool) : Prop := (∀ l, l < dN D → Hf l = true → Cl D S h l) ∧ (∀ x, Rf x = true → x = h ∨ ∃ l, l < dN D ∧ Hf l = true ∧ dat D x l = true) ∧ Rf h = true ∧ ∀ l, l < dN D → Hf l = true → Rf (dF D l) = true ∧ Rf (dT D l) = true
section HNG
variable {D : DT} {N : NT} {h c : Nat} {b : Bool}
theorem bn1 : vp_nar .boolean (1 : Int32) = nI 1 := by decide
theorem bn0 : vp_nar .boolean (0 : Int32) = nI 0 := by decide
theorem hang_3 (hh : h < 144) (v2 v3 : Int32) : ∀ (m k n : Nat) (P : PH), k + m = 144 → m < n → (∀ x, x < k → P.1 100 x = nI (if decide (x = h) then 1 else 0)) →
    ∃ Q, Mo_layHangs_3 (nI h) v2 v3 n (nI k) P = Mo_layHangs_38 v2 v3 bigN (nI 0) Q ∧ onlyX P Q ∧ ∀ x, x < 144 → Q.1 100 x = nI (if decide (x = h) then 1 else 0) := by
  intro m
  induction m with
  | zero =>
    intro k n P hk hn hr
    obtain ⟨n, rfl⟩ : ∃ q, n = q + 1 := ⟨n - 1, by omega⟩
    obtain rfl : k = 144 := by omega
    refine ⟨P, ?_, onlyX.rf P, hr⟩
    unfold Mo_layHangs_3
    rw [if_pos (by decide)]
    rfl
  | succ m ih =>
    intro k n P hk hn hr
    obtain ⟨n, rfl⟩ : ∃ q, n = q + 1 := ⟨n - 1, by omega⟩
    have hk9 : k < 144 := by omega
    have g : ∀ v : Nat, v = (if decide (k = h) then 1 else 0) → ∃ Q, Mo_layHangs_3 (nI h) v2 v3 n (nI k + 1) (sI P 100 k (nI v)) = Mo_layHangs_38 v2 v3 bigN (nI 0) Q ∧ onlyX P Q ∧ ∀ x, x < 144 → Q.1 100 x = nI (if decide (x = h) then 1 else 0) := by
      intro v hv
      obtain ⟨Q, e1, e2, e3⟩ := ih (k + 1) n (sI P 100 k (nI v)) (by omega) (by omega) (fun x hx => by
        rw [rowI_s]
        by_cases q : x = k
        · rw [q, pk_us, hv]
        · rw [pk_un q]; exact hr x (by omega))
      refine ⟨Q, ?_, ((onlyX.rf P).s (Or.inr rfl) _ _).tr e2, e3⟩
      rw [show nI k + 1 = nI (k + 1) from nI_1 _]
      exact e1
    unfold Mo_layHangs_3
    rw [if_neg (show ¬ (144 : Int32) ≤ nI k from (show ¬ nI 144 ≤ nI k from nI_ge hk9 (by decide))), z_gd hk9 (by decide), z_gd hk9 (by decide), z_cl (by omega), bn1, bn0]
    simp only [Option.bind_some]
    by_cases q : k = h
    · rw [if_pos (show nI k = nI h by rw [q])]
      exact g 1 (by simp [q])
    · rw [if_neg (show ¬ nI k = nI h by rw [z_eq (by omega) (by omega)]; exact q)]
      exact g 0 (by simp [q])
theorem hang_38 (hD : WD D) (v2 v3 : Int32) : ∀ (m k n : Nat) (P : PH), RD D (P.1 88) → k + m = dN D → m < n → (∀ l, l < k → P.1 99 l = nI 0) →
    ∃ Q, Mo_layHangs_38 v2 v3 n (nI k) P = Mo_layHangs_66 v2 v3 bigN (nI 1) Q ∧ onlyX P Q ∧ (∀ l, l < dN D → Q.1 99 l = nI 0) ∧ Q.1 100 = P.1 100 := by
  have h60 := hD.1
  intro m
  induction m with
  | zero =>
    intro k n P hR hk hn hr
    obtain ⟨n, rfl⟩ : ∃ q, n = q + 1 := ⟨n - 1, by omega⟩
    obtain rfl : k = dN D := by omega
    refine ⟨P, ?_, onlyX.rf P, hr, rfl⟩
    unfold Mo_layHangs_38
    rw [gd_0, mo_0 hR, if_pos (by rw [z_le (by omega) (by omega)]; exact Nat.le_refl _)]
    rfl
  | succ m ih =>
    intro k n P hR hk hn hr
    obtain ⟨n, rfl⟩ : ∃ q, n = q + 1 := ⟨n - 1, by omega⟩
    have hkD : k < dN D := by omega
    obtain ⟨Q, e1, e2, e3, e4⟩ := ih (k + 1) n (sI P 99 k (nI 0)) (by rw [rowI_o _ _ _ (by decide)]; exact hR) (by omega) (by omega) (fun x hx => by
        rw [rowI_s]
        by_cases q : x = k
        · rw [q, pk_us]
        · rw [pk_un q]; exact hr x (by omega))
    refine ⟨Q, ?_, ((onlyX.rf P).s (Or.inl rfl) _ _).tr e2, e3, by rw [e4, rowI_o _ _ _ (by decide)]⟩
    unfold Mo_layHangs_38
    rw [gd_0, mo_0 hR, if_neg (nI_ge hkD (by omega)), z_gd (show k < 60 by omega) (by decide), z_cl (by omega), bn0, show nI k + 1 = nI (k + 1) from nI_1 _]
    simp only [Option.bind_some]
    exact e1
/-- one line more -/
theorem LJ.add {S : Nat → Bool} {Hf Rf : Nat → Bool} (hJ : LJ D S h Hf Rf) {k : Nat} (hk : k < dN D) (hs : S k = true) (hr : Rf (dF D k) = true ∨ Rf (dT D k) = true) :
    LJ D S h (fun l => if l = k then true else Hf l) (fun x => if x = dT D k then true else if x = dF D k then true else Rf x) := by
  obtain ⟨j1, j2, j3, j4⟩ := hJ
  have hcl : Cl D S h k := by
    have w : ∃ x, Rf x = true ∧ dat D x k = true := by
      rcases hr with q | q
      · exact ⟨_, q, dat_F D k⟩
      · exact ⟨_, q, dat_T D k⟩
    obtain ⟨x, q1, q2⟩ := w
    rcases j2 x q1 with q | ⟨l, l1, l2, l3⟩
    · rw [q] at q2; exact Cl.base hk hs q2
    · exact (j1 l l1 l2).step hk hs ⟨x, l3, q2⟩
  refine ⟨fun l hl q => ?_, fun x q => ?_, ?_, fun l hl q => ?_⟩
  · by_cases e : l = k
    · rw [e]; exact hcl
    · have q : (if l = k then true else Hf l) = true := q
      rw [if_neg e] at q; exact j1 l hl q
  · by_cases e1 : x = dT D k
    · exact Or.inr ⟨k, hk, if_pos rfl, by rw [e1]; exact dat_T D k⟩
    · have q : (if x = dT D k then true else if x = dF D k then true else Rf x) = true := q
      rw [if_neg e1] at q
      by_cases e2 : x = dF D k
      · exact Or.inr ⟨k, hk, if_pos rfl, by rw [e2]; exact dat_F D k⟩
      · rw [if_neg e2] at q
        rcases j2 x q with r | ⟨l, l1, l2, l3⟩
        · exact Or.inl r
        · refine Or.inr ⟨l, l1, ?_, l3⟩
          show (if l = k then true else Hf l) = true
          by_cases e : l = k
          · exact if_pos e
          · rw [if_neg e]; exact l2
  · show (if h = dT D k then true else if h = dF D k then true else Rf h) = true
    rw [j3]
    split
    · rfl
    · split <;> rfl
  · have g : ∀ x, Rf x = true ∨ x = dF D k ∨ x = dT D k → (if x = dT D k then true else if x = dF D k then true else Rf x) = true := by
      intro x r
      by_cases e1 : x = dT D k
      · exact if_pos e1
      · rw [if_neg e1]
        by_cases e2 : x = dF D k
        · exact if_pos e2
        · rw [if_neg e2]
          rcases r with r | r | r
          · exact r
          · exact absurd r e2
          · exact absurd r e1
    by_cases e : l = k
    · rw [e]
      exact ⟨g _ (Or.inr (Or.inl rfl)), g _ (Or.inr (Or.inr rfl))⟩
    · have q : (if l = k then true else Hf l) = true := q
      rw [if_neg e] at q
      obtain ⟨r1, r2⟩ := j4 l hl q
      exact ⟨g _ (Or.inl r1), g _ (Or.inl r2)⟩
def setX (D : DT) (P : PH) (k : Nat) : PH := sI (sI (sI P 99 k (nI 1)) 100 (dF D k) (nI 1)) 100 (dT D k) (nI 1)
theorem setX_x (P : PH) (k : Nat) : onlyX P (setX D P k) := (((onlyX.rf P).s (Or.inl rfl) _ _).s (Or.inr rfl) _ _).s (Or.inr rfl) _ _
theorem LH.set {P : PH} {Hf Rf : Nat → Bool} (hL : LH D P Hf Rf) (k : Nat) : LH D (setX D P k) (fun l => if l = k then true else Hf l) (fun x => if x = dT D k then true else if x = dF D k then true else Rf x) := by
  unfold setX
  refine ⟨fun l hl => ?_, fun x hx => ?_⟩
  · show _ = nI (if (if l = k then true else Hf l) = true then 1 else 0)
    rw [rowI_o _ _ _ (by decide), rowI_o _ _ _ (by decide), rowI_s]
    by_cases e : l = k
    · rw [e, pk_us, if_pos rfl]; rfl
    · rw [pk_un e, if_neg e]; exact hL.1 l hl
  · show _ = nI (if (if x = dT D k then true else if x = dF D k then true else Rf x) = true then 1 else 0)
    rw [rowI_s]
    by_cases e1 : x = dT D k
    · rw [e1, pk_us, if_pos rfl]; rfl
    · rw [pk_un e1, if_neg e1, rowI_s]
      by_cases e2 : x = dF D k
      · rw [e2, pk_us, if_pos rfl]; rfl
      · rw [pk_un e2, if_neg e2, rowI_o _ _ _ (by decide)]
        exact hL.2 x hx
theorem hang_122 (hD : WD D) {P : PH} (hR : RD D (P.1 88)) {Hf Rf : Nat → Bool} (hL : LH D P Hf Rf) {k : Nat} (hk : k < dN D) (r66 : Int32 → PH → Option PH) (r77 : Int32 → Int32 → PH → Option PH) (v2 v3 v4 : Int32) :
    Mo_layHangs_122 r66 r77 v2 v3 v4 (nI k) P = if (Rf (dF D k) || Rf (dT D k)) = true then r77 (nI 1) (nI (k + 1)) (setX D P k) else r77 v4 (nI (k + 1)) P := by
  have h60 := hD.1
  have hF := (hD.2.1 k hk).1
  have hT := (hD.to hk).1
  have k1 : nI k + 1 = nI (k + 1) := nI_1 _
  have g : Mo_layHangs_153 r66 r77 v2 v3 (nI k) P = r77 (nI 1) (nI (k + 1)) (setX D P k) := by
    unfold Mo_layHangs_153
    rw [z_gd (show k < 60 by omega) (by decide), z_cl (by omega), bn1]
    simp only [Option.bind_some]
    rw [mo_from hD (P := sI P 99 k (nI 1)) (by rw [rowI_o _ _ _ (by decide)]; exact hR) hk]
    simp only [Option.bind_some]
    rw [z_gd hF (by decide), z_cl (by omega), mo_to hD (P := sI (sI P 99 k (nI 1)) 100 (dF D k) (nI 1)) (by rw [rowI_o _ _ _ (by decide), rowI_o _ _ _ (by decide)]; exact hR) hk]
    simp only [Option.bind_some]
    rw [z_gd hT (by decide), z_cl (by omega), k1]
    rfl
  unfold Mo_layHangs_122
  rw [mo_from hD hR hk, mo_to hD hR hk, g, k1]
  simp only [Option.bind_some]
  rw [z_gd hF (by decide), z_gd hT (by decide), z_cl (by omega), z_cl (by omega), hL.2 _ hF, hL.2 _ hT]
  cases c1 : Rf (dF D k)
  · cases c2 : Rf (dT D k) <;> rfl
  · rfl
theorem hang_77 (hD : WD D) (r66 : Int32 → PH → Option PH) (hh : h < 144) (hc : c < 4) : ∀ (m k n more : Nat) (P : PH) (Hf Rf : Nat → Bool), RD D (P.1 88) → RN D N (P.1 88) → LH D P Hf Rf → LJ D (Sx D N c b) h Hf Rf → k + m = dN D → m < n → more ≤ 1 →
    ∃ (Q : PH) (Hf' Rf' : Nat → Bool) (more' : Nat), Mo_layHangs_77 r66 (nI c) (if b then 1 else 0) n (nI more) (nI k) P = r66 (nI more') Q ∧ onlyX P Q ∧ LH D Q Hf' Rf' ∧ LJ D (Sx D N c b) h Hf' Rf' ∧ (more ≤ more' ∧ more' ≤ 1) ∧ fb_ct Hf (dN D) + more' ≤ fb_ct Hf' (dN D) + more ∧
      (more' = 0 → Hf' = Hf ∧ Rf' = Rf ∧ ∀ l, k ≤ l → l < dN D → Sx D N c b l = true → Rf (dF D l) = true ∨ Rf (dT D l) = true → Hf l = true) := by
  have h60 := hD.1
  intro m
  induction m with
  | zero =>
    intro k n more P Hf Rf hR hRN hL hJ hk hn hm
    obtain ⟨n, rfl⟩ : ∃ q, n = q + 1 := ⟨n - 1, by omega⟩
    obtain rfl : k = dN D := by omega
    refine ⟨P, Hf, Rf, more, ?_, onlyX.rf P, hL, hJ, ⟨Nat.le_refl _, hm⟩, Nat.le_refl _, fun _ => ⟨rfl, rfl, fun l a b => by omega⟩⟩
    unfold Mo_layHangs_77
    rw [gd_0, mo_0 hR, if_pos (by rw [z_le (by omega) (by omega)]; exact Nat.le_refl _)]
  | succ m ih =>
    intro k n more P Hf Rf hR hRN hL hJ hk hn hm
    obtain ⟨n, rfl⟩ : ∃ q, n = q + 1 := ⟨n - 1, by omega⟩
    have hkD : k < dN D := by omega
    have hi := (hD.2.1 k hkD).2.2.1
    have k1 : nI k + 1 = nI (k + 1) := nI_1 _
    -- the line is left as it is
    have skip : (Sx D N c b k = true → Rf (dF D k) = true ∨ Rf (dT D k) = true → Hf k = true) → Mo_layHangs_77 r66 (nI c) (if b then 1 else 0) (n + 1) (nI more) (nI k) P = Mo_layHangs_77 r66 (nI c) (if b then 1 else 0) n (nI more) (nI (k + 1)) P →
        ∃ (Q : PH) (Hf' Rf' : Nat → Bool) (more' : Nat), Mo_layHangs_77 r66 (nI c) (if b then 1 else 0) (n + 1) (nI more) (nI k) P = r66 (nI more') Q ∧ onlyX P Q ∧ LH D Q Hf' Rf' ∧ LJ D (Sx D N c b) h Hf' Rf' ∧ (more ≤ more' ∧ more' ≤ 1) ∧ fb_ct Hf (dN D) + more' ≤ fb_ct Hf' (dN D) + more ∧
          (more' = 0 → Hf' = Hf ∧ Rf' = Rf ∧ ∀ l, k ≤ l → l < dN D → Sx D N c b l = true → Rf (dF D l) = true ∨ Rf (dT D l) = true → Hf l = true) := by
      intro hs he
      obtain ⟨Q, Hf', Rf', more', e1, e2, e3, e4, e5, e6, e7⟩ := ih (k + 1) n more P Hf Rf hR hRN hL hJ (by omega) (by omega) hm
      refine ⟨Q, Hf', Rf', more', he.trans e1, e2, e3, e4, e5, e6, fun q => ?_⟩
      obtain ⟨q1, q2, q3⟩ := e7 q
      refine ⟨q1, q2, fun l hl hlD s r => ?_⟩
      by_cases e : l = k
      · subst e; exact hs s r
      · exact q3 l (by omega) hlD s r
    have t122 : Hf k = false → Sx D N c b k = true → Mo_layHangs_77 r66 (nI c) (if b then 1 else 0) (n + 1) (nI more) (nI k) P = Mo_layHangs_122 r66 (Mo_layHangs_77 r66 (nI c) (if b then 1 else 0) n) (nI c) (if b then 1 else 0) (nI more) (nI k) P →
        ∃ (Q : PH) (Hf' Rf' : Nat → Bool) (more' : Nat), Mo_layHangs_77 r66 (nI c) (if b then 1 else 0) (n + 1) (nI more) (nI k) P = r66 (nI more') Q ∧ onlyX P Q ∧ LH D Q Hf' Rf' ∧ LJ D (Sx D N c b) h Hf' Rf' ∧ (more ≤ more' ∧ more' ≤ 1) ∧ fb_ct Hf (dN D) + more' ≤ fb_ct Hf' (dN D) + more ∧
          (more' = 0 → Hf' = Hf ∧ Rf' = Rf ∧ ∀ l, k ≤ l → l < dN D → Sx D N c b l = true → Rf (dF D l) = true ∨ Rf (dT D l) = true → Hf l = true) := by
      intro hf hs he
      rw [hang_122 hD hR hL hkD] at he
      by_cases r : (Rf (dF D k) || Rf (dT D k)) = true
      · rw [if_pos r] at he
        have r2 : Rf (dF D k) = true ∨ Rf (dT D k) = true := by simpa using r
        have x88 : (setX D P k).1 88 = P.1 88 := (setX_x P k).1 88 (by decide) (by decide)
        obtain ⟨Q, Hf', Rf', more', e1, e2, e3, e4, e5, e6, e7⟩ := ih (k + 1) n 1 (setX D P k) _ _ (by rw [x88]; exact hR) (by rw [x88]; exact hRN) (hL.set k) (hJ.add hkD hs r2) (by omega) (by omega) (Nat.le_refl _)
        rw [ct_in hkD hf] at e6
        refine ⟨Q, Hf', Rf', more', he.trans e1, (setX_x P k).tr e2, e3, e4, ⟨by omega, e5.2⟩, by omega, fun q => ?_⟩
        omega
      · rw [if_neg r] at he
        refine skip (fun _ r2 => absurd ?_ r) he
        rcases r2 with r2 | r2
        · rw [r2]; rfl
        · rw [r2]; exact Bool.or_true _
    have eu : ∀ Z, (if nI (if Hf k then 1 else 0) = 0 then (if nI (dI D k) = nI c then (if (if b then (1 : Int32) else 0) = 0 then (if nI (wkN N k) = 3 then Mo_layHangs_77 r66 (nI c) (if b then 1 else 0) n (nI more) (nI (k + 1)) P else Mo_layHangs_122 r66 (Mo_layHangs_77 r66 (nI c) (if b then 1 else 0) n) (nI c) (if b then 1 else 0) (nI more) (nI k) P) else Mo_layHangs_122 r66 (Mo_layHangs_77 r66 (nI c) (if b then 1 else 0) n) (nI c) (if b then 1 else 0) (nI more) (nI k) P) else Mo_layHangs_77 r66 (nI c) (if b then 1 else 0) n (nI more) (nI (k + 1)) P) else Mo_layHangs_77 r66 (nI c) (if b then 1 else 0) n (nI more) (nI (k + 1)) P) = Z →
        Mo_layHangs_77 r66 (nI c) (if b then 1 else 0) (n + 1) (nI more) (nI k) P = Z := by
      intro Z hZ
      unfold Mo_layHangs_77
      rw [gd_0, mo_0 hR, if_neg (nI_ge hkD (by omega)), z_gd (show k < 60 by omega) (by decide), z_cl (by omega), hL.1 k hkD, mo_ink hD hR hkD, mo_worked hD hRN hkD, k1]
      simp only [Option.bind_some]
      exact hZ
    cases hf : Hf k with
    | true => exact skip (fun _ _ => hf) (eu _ (by rw [hf, if_neg (by decide)]))
    | false =>
      by_cases ci : dI D k = c
      · have hci : nI (dI D k) = nI c := by rw [ci]
        cases b with
        | true => exact t122 hf (by unfold Sx; simp [ci]) (eu _ (by rw [hf, if_pos (by decide), if_pos hci, if_neg (by decide)]))
        | false =>
          by_cases w : nI (wkN N k) = 3
          · refine skip (fun s => ?_) (eu _ (by rw [hf, if_pos (by decide), if_pos hci, if_pos (by decide), if_pos w]))
            unfold Sx at s
            obtain ⟨w1, w2⟩ := (wk12 N k).2.2.mp w
            rw [w1, w2] at s
            simp at s
          · refine t122 hf ?_ (eu _ (by rw [hf, if_pos (by decide), if_pos hci, if_pos (by decide), if_neg w]))
            unfold Sx
            have : ¬ (xO N k = true ∧ xU N k = true) := fun q => w ((wk12 N k).2.2.mpr q)
            simp only [ci, decide_true, Bool.true_and, Bool.false_or, Bool.not_eq_true', Bool.and_eq_false_iff]
            cases cO : xO N k
            · exact Or.inl rfl
            · exact Or.inr (ts_nt (fun q => this ⟨cO, q⟩))
      · have hci : ¬ nI (dI D k) = nI c := by rw [z_eq (by omega) (by omega)]; exact ci
        refine skip (fun s => ?_) (eu _ (by rw [hf, if_pos (by decide), if_neg hci]))
        unfold Sx at s
        simp [ci] at s
theorem hang_fin {S Hf Rf : Nat → Bool} (hJ : LJ D S h Hf Rf) (hsat : ∀ l, l < dN D → S l = true → Rf (dF D l) = true ∨ Rf (dT D l) = true → Hf l = true) {l : Nat} (hcl : Cl D S h l) : Hf l = true := by
  refine (hcl (fun l => l < dN D ∧ Hf l = true) (fun i hi si di => ⟨hi, hsat i hi si ?_⟩) (fun i j ci hi hj si sj s => ⟨hj, hsat j hj sj ?_⟩)).2
  · rcases dat_iff.mp di with q | q
    · rw [q]; exact Or.inl hJ.2.2.1
    · rw [q]; exact Or.inr hJ.2.2.1
  · have r := hJ.2.2.2 i hi ci.2
    rcases shr_or s.sym with q | q
    · rcases dat_iff.mp q with q | q
      · rw [← q]; exact Or.inl r.1
      · rw [← q]; exact Or.inl r.2
    · rcases dat_iff.mp q with q | q
      · rw [← q]; exact Or.inr r.1
      · rw [← q]; exact Or.inr r.2
theorem hang_66 (hD : WD D) (hh : h < 144) (hc : c < 4) : ∀ (m n more : Nat) (P : PH) (Hf Rf : Nat → Bool), RD D (P.1 88) → RN D N (P.1 88) → LH D P Hf Rf → LJ D (Sx D N c b) h Hf Rf → more ≤ 1 → dN D - fb_ct Hf (dN D) + more ≤ m → m < n →
    (more = 0 → ∀ l, l < dN D → Sx D N c b l = true → Rf (dF D l) = true ∨ Rf (dT D l) = true → Hf l = true) →
    ∃ (Q : PH) (Hf' : Nat → Bool), Mo_layHangs_66 (nI c) (if b then 1 else 0) n (nI more) P = some Q ∧ onlyX P Q ∧ (∀ l, l < dN D → Q.1 99 l = nI (if Hf' l then 1 else 0)) ∧ ∀ l, l < dN D → (Hf' l = true ↔ Cl D (Sx D N c b) h l) := by
  have h60 := hD.1
  intro m
  induction m with
  | zero =>
    intro n more P Hf Rf hR hRN hL hJ hm1 hm hn hsat
    obtain ⟨n, rfl⟩ : ∃ q, n = q + 1 := ⟨n - 1, by omega⟩
    obtain rfl : more = 0 := by omega
    refine ⟨P, Hf, ?_, onlyX.rf P, hL.1, fun l hl => ⟨hJ.1 l hl, hang_fin hJ (hsat rfl)⟩⟩
    unfold Mo_layHangs_66
    rw [if_pos (by decide)]
  | succ m ih =>
    intro n more P Hf Rf hR hRN hL hJ hm1 hm hn hsat
    obtain ⟨n, rfl⟩ : ∃ q, n = q + 1 := ⟨n - 1, by omega⟩
    have hct := fb_ct_le Hf (dN D)
    by_cases hz : more = 0
    · subst hz
      refine ⟨P, Hf, ?_, onlyX.rf P, hL.1, fun l hl => ⟨hJ.1 l hl, hang_fin hJ (hsat rfl)⟩⟩
      unfold Mo_layHangs_66
      rw [if_pos (by decide)]
    · obtain rfl : more = 1 := by omega
      obtain ⟨Q, Hf', Rf', more', e1, e2, e3, e4, e5, e6, e7⟩ := hang_77 (c := c) (b := b) hD (Mo_layHangs_66 (nI c) (if b then 1 else 0) n) hh hc (dN D) 0 bigN 0 P Hf Rf hR hRN hL hJ (by omega) (big_gt (by omega)) (by omega)
      have x88 : Q.1 88 = P.1 88 := e2.1 88 (by decide) (by decide)
      have hct' := fb_ct_le Hf' (dN D)
      have hu : Mo_layHangs_66 (nI c) (if b then 1 else 0) (n + 1) (nI 1) P = Mo_layHangs_66 (nI c) (if b then 1 else 0) n (nI more') Q := by
        rw [← e1]
        show (if nI 1 = 0 then some P else Mo_layHangs_77 (Mo_layHangs_66 (nI c) (if b then 1 else 0) n) (nI c) (if b then 1 else 0) bigN (0 : Int32) (0 : Int32) P) = _
        rw [if_neg (by decide), show (0 : Int32) = nI 0 from rfl]
      obtain ⟨Q2, Hf2, f1, f2, f3, f4⟩ := ih n more' Q Hf' Rf' (by rw [x88]; exact hR) (by rw [x88]; exact hRN) e3 e4 e5.2 (by omega) (by omega) (fun q l hl sl r => by
        obtain ⟨q1, q2, q3⟩ := e7 q
        rw [q1]; rw [q2] at r
        exact q3 l (Nat.zero_le _) hl sl r)
      exact ⟨Q2, Hf2, hu.trans f1, e2.tr f2, f3, f4⟩
theorem mo_hangs (hD : WD D) {P : PH} (hR : RD D (P.1 88)) (hRN : RN D N (P.1 88)) (hh : h < 144) (hc : c < 4) (b : Bool) :
    ∃ (Q : PH) (Hf : Nat → Bool), Mo_layHangs (nI h) (nI c) (if b then 1 else 0) P = some Q ∧ onlyX P Q ∧ (∀ l, l < dN D → Q.1 99 l = nI (if Hf l then 1 else 0)) ∧ ∀ l, l < dN D → (Hf l = true ↔ Cl D (Sx D N c b) h l) := by
  have h60 := hD.1
  obtain ⟨P1, a1, a2, a3⟩ := hang_3 hh (nI c) (if b then 1 else 0) 144 0 bigN P rfl (big_gt (by omega)) (fun x hx => by omega)
  have x1 : P1.1 88 = P.1 88 := a2.1 88 (by decide) (by decide)
  obtain ⟨P2, b1, b2, b3, b4⟩ := hang_38 hD (nI c) (if b then 1 else 0) (dN D) 0 bigN P1 (by rw [x1]; exact hR) (by omega) (big_gt (by omega)) (fun l hl => by omega)
  have x2 : P2.1 88 = P.1 88 := (b2.1 88 (by decide) (by decide)).trans x1
  have z0 : fb_ct (fun _ => false) (dN D) = 0 := fb_ct_zero.mpr (fun _ _ => rfl)
  obtain ⟨Q, Hf, c1, c2, c3, c4⟩ := hang_66 (c := c) (b := b) (N := N) hD hh hc (dN D + 1) bigN 1 P2 (fun _ => false) (fun x => decide (x = h)) (by rw [x2]; exact hR) (by rw [x2]; exact hRN)
    ⟨fun l hl => b3 l hl, fun x hx => by rw [b4]; exact a3 x hx⟩ ⟨fun l _ q => (by cases q), fun x q => Or.inl (of_decide_eq_true q), decide_eq_true rfl, fun l _ q => (by cases q)⟩ (by omega) (by omega) (big_gt (by omega)) (fun q => absurd q (by decide))
  refine ⟨Q, Hf, ?_, (a2.tr b2).tr c2, c3, c4⟩
  unfold Mo_layHangs
  show Mo_layHangs_3 (nI h) (nI c) (if b then 1 else 0) bigN (nI 0) P = some Q
  rw [a1, b1, c1]
end HNG
