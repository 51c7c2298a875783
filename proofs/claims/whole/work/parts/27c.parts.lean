/-! PARTS AND THE FIRST OF A PART -/
noncomputable def cP (p : Prop) : Bool := @decide p (Classical.propDecidable p)
theorem cP_iff {p : Prop} : cP p = true ↔ p := @decide_eq_true_iff p (Classical.propDecidable p)
def IsF (D : DT) (S : Nat → Bool) (h i : Nat) : Prop := Cl D S h i ∧ ∀ j, j < i → ¬ Cl D S h j
theorem IsF.one {D : DT} {S : Nat → Bool} {h i j : Nat} (a : IsF D S h i) (b : IsF D S h j) : i = j := by
  rcases Nat.lt_trichotomy i j with c | c | c
  · exact absurd a.1 (b.2 i c)
  · exact c
  · exact absurd b.1 (a.2 j c)
section PRT
variable {D : DT} {N : NT} {P : PH} {c : Nat}
theorem Sx_t (D : DT) (N : NT) (c l : Nat) : Sx D N c true l = decide (dI D l = c) := by unfold Sx; simp
theorem first_17 (hD : WD D) {Q : PH} {Hf : Nat → Bool} (hH : ∀ l, l < dN D → Q.1 99 l = nI (if Hf l then 1 else 0)) {i : Nat} (hi : i < dN D) (h1 : Hf i = true) (h2 : ∀ j, j < i → Hf j = false) : ∀ (m k n : Nat), k + m = i → m < n → Mo_firstOf_17 n (nI k) Q = some (nI i, Q) := by
  have h60 := hD.1
  intro m
  induction m with
  | zero =>
    intro k n hk hn
    obtain ⟨n, rfl⟩ : ∃ q, n = q + 1 := ⟨n - 1, by omega⟩
    obtain rfl : k = i := by omega
    unfold Mo_firstOf_17
    rw [z_gd (show k < 60 by omega) (by decide), z_cl (by omega), hH k hi, h1, if_neg (by decide)]
  | succ m ih =>
    intro k n hk hn
    obtain ⟨n, rfl⟩ : ∃ q, n = q + 1 := ⟨n - 1, by omega⟩
    unfold Mo_firstOf_17
    rw [z_gd (show k < 60 by omega) (by decide), z_cl (by omega), hH k (by omega), h2 k (by omega), if_pos (by decide), show nI k + 1 = nI (k + 1) from nI_1 _]
    exact ih (k + 1) n (by omega) (by omega)
theorem mo_firstOf (hD : WD D) (hR : RD D (P.1 88)) (hRN : RN D N (P.1 88)) {l : Nat} (hl : l < dN D) : ∃ (i : Nat) (Q : PH), Mo_firstOf (nI l) P = some (nI i, Q) ∧ onlyX P Q ∧ i < dN D ∧ IsF D (Sx D N (dI D l) true) (dF D l) i := by
  have h60 := hD.1
  obtain ⟨f1, f2, f3, f4⟩ := hD.2.1 l hl
  obtain ⟨Q, Hf, e1, e2, e3, e4⟩ := mo_hangs (N := N) hD hR hRN f1 f3 true
  have hs : Sx D N (dI D l) true l = true := by rw [Sx_t]; exact decide_eq_true rfl
  obtain ⟨i, hi, g1, g2⟩ := fb_first (p := fun i => Hf i = true) ⟨l, hl, (e4 l hl).mpr (Cl.self hl hs)⟩
  refine ⟨i, Q, ?_, e2, hi, (e4 i hi).mp g1, fun j hj q => g2 j hj ((e4 j (by omega)).mpr q)⟩
  rw [if_pos rfl] at e1
  have e5 := first_17 hD e3 hi g1 (fun j hj => ts_nt (g2 j hj)) i 0 bigN (by omega) (big_gt (by omega))
  rw [show (nI 0 : Int32) = 0 from rfl] at e5
  unfold Mo_firstOf
  rw [mo_from hD hR hl, Option.bind_some, mo_ink hD hR hl, Option.bind_some, e1, Option.bind_some, e5]
theorem onlyX.rd {D : DT} {P Q : PH} (h : onlyX P Q) (r : RD D (P.1 88)) : RD D (Q.1 88) := by
  rw [h.1 88 (by decide) (by decide)]; exact r
theorem onlyX.rn {D : DT} {N : NT} {P Q : PH} (h : onlyX P Q) (r : RN D N (P.1 88)) : RN D N (Q.1 88) := by
  rw [h.1 88 (by decide) (by decide)]; exact r
theorem call_partOf (h : INVx D N P) (v : Int32) : callP (Bs_partOf v P) (Mo_partOf v) [NSE] P := by
  obtain ⟨hD, hN, hR, hRN, hC, hCN, -⟩ := id h
  have h60 := hD.1
  rcases three v (dN D) (by omega) with o | ⟨l, hl, rfl⟩
  · refine ⟨(1, 0), by decide, ?_, moI.aft h (moI.thr (fun _ => 0) (fun Q hQ => ?_) (fun q => absurd q (by decide)))⟩
    · unfold Bs_partOf; rw [ckLine_out hD hC o]; rfl
    · unfold Mo_partOf Mo_fails
      simp only [Option.bind_some]
      rw [isLine_out hD (hQ.s5 0).2.2.1 o]
      simp only [Option.bind_some, if_true, sI2]
      rfl
  · obtain ⟨f1, f2, f3, f4⟩ := hD.2.1 l hl
    obtain ⟨y, e1, e2⟩ := tog (d := 3) (S := Sx D N (dI D l) true) (x := P.2 (3 + 6) (dI D l)) hD hC f1 (fun i hi => by rw [hC.2.2.2.2.2.1 _ f3 i hi, Sx_t])
    have hs : Sx D N (dI D l) true l = true := by rw [Sx_t]; exact decide_eq_true rfl
    obtain ⟨i, hi, h1, h2⟩ := low_of ⟨l, (by omega : l < 64), (e2 l (by omega)).mpr (Cl.self hl hs)⟩
    have hF : IsF D (Sx D N (dI D l) true) (dF D l) i := ⟨(e2 i hi).mp h1, fun j hj q => by
      have z := (e2 j (by omega)).mpr q
      rw [h2 j hj] at z
      cases z⟩
    refine ⟨(0, nI i), Nat.zero_le _, ?_, moI.aft h (fun Q hQ => ?_)⟩
    · unfold Bs_partOf
      rw [ckLine_in hD hC hl, dr_ink hD hC hl, dr_from hD hC hl]
      simp only [Option.bind_some, Sum.elim_inr]
      rw [dr_linesOf f3]
      simp only [Option.bind_some]
      rw [e1]
      simp only [Option.bind_some]
      rw [low_is hi h1 h2]
      rfl
    · have q := hQ.s5 0
      obtain ⟨i', Q', g1, g2, g3, g4⟩ := mo_firstOf (P := sI Q 1 5 0) hD q.2.2.1 q.2.2.2.1 hl
      refine ⟨nI i', Q', ?_, ?_, ((scr.rf Q).sI _ rfl).tr g2.scr, by rw [g2.2]; rfl, fun _ => by rw [hF.one g4]⟩
      · unfold Mo_partOf
        simp only [Option.bind_some]
        rw [isLine_in hD q.2.2.1 hl]
        simp only [Option.bind_some, nz1, if_false]
        rw [g1]
        rfl
      · rw [g2.1 1 (by decide) (by decide)]; exact at5 _ _
noncomputable def frB (D : DT) (N : NT) (c l : Nat) : Bool := cP (dI D l = c ∧ IsF D (Sx D N c true) (dF D l) l)
theorem mo_parts_lp (hD : WD D) (hc : c < 4) : ∀ (m k n : Nat) (P : PH), RD D (P.1 88) → RN D N (P.1 88) → k + m = dN D → m < n → ∃ Q, Mo_parts_29 (nI c) n (nI (fb_ct (frB D N c) k)) (nI k) P = some (nI (fb_ct (frB D N c) (dN D)), Q) ∧ onlyX P Q := by
  have h60 := hD.1
  intro m
  induction m with
  | zero =>
    intro k n P hR hRN hk hn
    obtain ⟨n, rfl⟩ : ∃ q, n = q + 1 := ⟨n - 1, by omega⟩
    obtain rfl : k = dN D := by omega
    refine ⟨P, ?_, onlyX.rf P⟩
    unfold Mo_parts_29
    rw [gd_0, mo_0 hR, if_pos (by rw [z_le (by omega) (by omega)]; exact Nat.le_refl _)]
  | succ m ih =>
    intro k n P hR hRN hk hn
    obtain ⟨n, rfl⟩ : ∃ q, n = q + 1 := ⟨n - 1, by omega⟩
    have hkD : k < dN D := by omega
    have hi := (hD.2.1 k hkD).2.2.1
    have k1 : nI k + 1 = nI (k + 1) := nI_1 _
    have sc : fb_ct (frB D N c) (k + 1) = fb_ct (frB D N c) k + (if frB D N c k then 1 else 0) := fb_ct_succ _ _
    by_cases ci : dI D k = c
    · obtain ⟨i, Q, g1, g2, g3, g4⟩ := mo_firstOf (P := P) hD hR hRN hkD
      rw [ci] at g4
      obtain ⟨Q2, e1, e2⟩ := ih (k + 1) n Q (g2.rd hR) (g2.rn hRN) (by omega) (by omega)
      refine ⟨Q2, ?_, g2.tr e2⟩
      unfold Mo_parts_29
      rw [gd_0, mo_0 hR, if_neg (nI_ge hkD (by omega)), mo_ink hD hR hkD]
      simp only [Option.bind_some]
      rw [if_pos (show nI (dI D k) = nI c by rw [ci]), g1]
      simp only [Option.bind_some]
      rw [k1]
      by_cases q : i = k
      · have : frB D N c k = true := cP_iff.mpr ⟨ci, by rw [q] at g4; exact g4⟩
        rw [this, if_pos rfl] at sc
        rw [if_pos (show nI i = nI k by rw [q]), show nI (fb_ct (frB D N c) k) + 1 = nI (fb_ct (frB D N c) k + 1) from nI_1 _, ← sc]
        exact e1
      · have : frB D N c k = false := ts_nt (fun r => q (g4.one (cP_iff.mp r).2))
        replace sc : fb_ct (frB D N c) (k + 1) = fb_ct (frB D N c) k := by rw [sc, this]; rfl
        rw [if_neg (show ¬ nI i = nI k by rw [z_eq (by omega) (by omega)]; exact q), show nI (fb_ct (frB D N c) k) + 0 = nI (fb_ct (frB D N c) k) from Int32.add_zero _, ← sc]
        exact e1
    · obtain ⟨Q2, e1, e2⟩ := ih (k + 1) n P hR hRN (by omega) (by omega)
      refine ⟨Q2, ?_, e2⟩
      unfold Mo_parts_29
      rw [gd_0, mo_0 hR, if_neg (nI_ge hkD (by omega)), mo_ink hD hR hkD]
      simp only [Option.bind_some]
      have : frB D N c k = false := ts_nt (fun r => ci (cP_iff.mp r).1)
      replace sc : fb_ct (frB D N c) (k + 1) = fb_ct (frB D N c) k := by rw [sc, this]; rfl
      rw [k1, if_neg (show ¬ nI (dI D k) = nI c by rw [z_eq (by omega) (by omega)]; exact ci), show nI (fb_ct (frB D N c) k) + 0 = nI (fb_ct (frB D N c) k) from Int32.add_zero _, ← sc]
      exact e1
/-- a set of an ink's lines that holds whole parts -/
def whV (D : DT) (c : Nat) (V : Int64) : Prop := (∀ i, i < 64 → bL V i = true → i < dN D ∧ dI D i = c) ∧ ∀ i j, i < dN D → j < dN D → bL V i = true → dI D j = c → shr D i j → bL V j = true
theorem whV.cl {V : Int64} (hD : WD D) (hV : whV D c V) {i : Nat} (hi : i < dN D) (vi : bL V i = true) (j : Nat) : Cl D (bL V) (dF D i) j ↔ Cl D (Sx D N c true) (dF D i) j := by
  have h60 := hD.1
  have sv : ∀ a, a < dN D → bL V a = true → Sx D N c true a = true := fun a ha va => by rw [Sx_t]; exact decide_eq_true (hV.1 a (by omega) va).2
  have sb : ∀ a, Sx D N c true a = true → dI D a = c := fun a s => by rw [Sx_t] at s; exact of_decide_eq_true s
  constructor
  · intro hc
    exact hc (Cl D (Sx D N c true) (dF D i)) (fun a ha va da => Cl.base ha (sv a ha va) da) (fun a b ca _ hb _ vb s => ca.step hb (sv b hb vb) s)
  · intro hc
    exact hc (Cl D (bL V) (dF D i)) (fun a ha sa da => Cl.base ha (hV.2 i a hi ha vi (sb a sa) ⟨_, dat_F D i, da⟩) da) (fun a b ca ha hb _ s2 s => ca.step hb (hV.2 a b ha hb ca.mem.2 (sb b s2) s) s)
theorem dr_parts_lp (hD : WD D) (hC : CD 3 D P) (hc : c < 4) : ∀ (m k n v4 : Nat) (V : Int64), k + m = 60 → m < n → whV D c V → fb_ct (fun l => bL V l && frB D N c l) (dN D) ≤ m →
    Dr_partsOf_12 3 P n V (nI v4) (nI k) = some (nI (v4 + fb_ct (fun l => bL V l && frB D N c l) (dN D))) := by
  have h60 := hD.1
  intro m
  induction m with
  | zero =>
    intro k n v4 V hk hn hV hm
    obtain ⟨n, rfl⟩ : ∃ q, n = q + 1 := ⟨n - 1, by omega⟩
    obtain rfl : k = 60 := by omega
    unfold Dr_partsOf_12
    rw [if_pos (by decide), show fb_ct (fun l => bL V l && frB D N c l) (dN D) = 0 by omega]
    rfl
  | succ m ih =>
    intro k n v4 V hk hn hV hm
    obtain ⟨n, rfl⟩ : ∃ q, n = q + 1 := ⟨n - 1, by omega⟩
    have hk6 : k < 60 := by omega
    by_cases hz : ∃ i, i < 64 ∧ bL V i = true
    · obtain ⟨i, hi, h1, h2⟩ := low_of hz
      obtain ⟨hiD, ci⟩ := hV.1 i hi h1
      have hF := (hD.2.1 i hiD).1
      obtain ⟨y, e1, e2⟩ := tog (d := 3) (S := bL V) (x := V) hD hC hF (fun j hj => by
        by_cases q : j < dN D
        · simp [q]
        · have : bL V j = false := ts_nt (fun r => q (hV.1 j hj r).1)
          simp [this])
      have sx : ∀ a, dI D a = c → Sx D N c true a = true := fun a q => by rw [Sx_t]; exact decide_eq_true q
      have by' : ∀ j, j < 64 → (bL y j = true ↔ Cl D (Sx D N c true) (dF D i) j) := fun j hj => (e2 j hj).trans (hV.cl hD hiD h1 j)
      have yV : ∀ j, j < 64 → bL y j = true → bL V j = true := fun j hj q => ((e2 j hj).mp q).mem.2
      have bv : ∀ j, j < 64 → bL (V &&& (y ^^^ (-1))) j = (bL V j && !bL y j) := fun j hj => by rw [bL_and, bL_not _ hj]
      have yi : bL y i = true := (by' i hi).mpr (Cl.self hiD (sx i ci))
      have hV' : whV D c (V &&& (y ^^^ (-1))) := by
        refine ⟨fun j hj q => ?_, fun a b ha hb va cb s => ?_⟩
        · rw [bv j hj] at q
          simp only [Bool.and_eq_true] at q
          exact hV.1 j hj q.1
        · rw [bv a (by omega)] at va
          rw [bv b (by omega)]
          simp only [Bool.and_eq_true, Bool.not_eq_true'] at va ⊢
          refine ⟨hV.2 a b ha hb va.1 cb s, ts_nt (fun q => ?_)⟩
          have := (by' a (by omega)).mpr (((by' b (by omega)).mp q).step ha (sx a (hV.1 a (by omega) va.1).2) s.sym)
          rw [this] at va
          exact absurd va.2 (by decide)
      have hct : fb_ct (fun l => bL V l && frB D N c l) (dN D) = fb_ct (fun l => bL (V &&& (y ^^^ (-1))) l && frB D N c l) (dN D) + 1 := by
        rw [← ct_in (p := fun l => bL (V &&& (y ^^^ (-1))) l && frB D N c l) hiD (by rw [bv i hi, yi]; simp)]
        refine fb_ct_cong (fun l hl => ?_)
        by_cases q : l = i
        · rw [if_pos q, q, h1]
          have : frB D N c i = true := cP_iff.mpr ⟨ci, Cl.self hiD (sx i ci), fun j hj r => by
            have := yV j (by omega) ((by' j (by omega)).mpr r)
            rw [h2 j hj] at this
            cases this⟩
          rw [this]; rfl
        · rw [if_neg q, bv l (by omega)]
          cases cy : bL y l
          · simp
          · have : frB D N c l = false := ts_nt (fun r => by
              obtain ⟨r1, r2⟩ := cP_iff.mp r
              have cl := (by' l (by omega)).mp cy
              have cs := Cl.sym hiD (sx i ci) cl
              rcases Nat.lt_or_ge i l with z | z
              · exact r2.2 i z cs
              · have := yV l (by omega) cy
                rw [h2 l (by omega)] at this
                cases this)
            rw [this]
            simp
      have e := ih (k + 1) n (v4 + 1) (V &&& (y ^^^ (-1))) (by omega) (by omega) hV' (by omega)
      unfold Dr_partsOf_12
      rw [if_neg (show ¬ (60 : Int32) ≤ nI k from (show ¬ nI 60 ≤ nI k from nI_ge hk6 (by decide))), if_neg (fun q => by rw [(lgz V).mp q i hi] at h1; cases h1), low_is hi h1 h2]
      simp only [Option.bind_some]
      rw [dr_from hD hC hiD]
      simp only [Option.bind_some]
      rw [e1]
      simp only [Option.bind_some]
      rw [show nI k + 1 = nI (k + 1) from nI_1 _, show nI v4 + 1 = nI (v4 + 1) from nI_1 _, e, hct]
      congr 2
      omega
    · have hf : ∀ i, i < 64 → bL V i = false := fun i hi => ts_nt (fun q => hz ⟨i, hi, q⟩)
      have z0 : fb_ct (fun l => bL V l && frB D N c l) (dN D) = 0 := fb_ct_zero.mpr (fun l hl => by rw [hf l (by omega)]; rfl)
      unfold Dr_partsOf_12
      rw [if_neg (show ¬ (60 : Int32) ≤ nI k from (show ¬ nI 60 ≤ nI k from nI_ge hk6 (by decide))), if_pos ((lgz V).mpr hf), z0]
      rfl
theorem call_parts (h : INVx D N P) (v : Int32) : callP (Bs_parts v P) (Mo_parts v) [IAE] P := by
  obtain ⟨hD, hN, hR, hRN, hC, hCN, -⟩ := id h
  have h60 := hD.1
  rcases three v 4 (by decide) with o | ⟨k, hk, rfl⟩
  · refine ⟨(1, 0), by decide, ?_, moI.aft h (moI.thr (fun _ => 0) (fun Q hQ => ?_) (fun q => absurd q (by decide)))⟩
    · unfold Bs_parts; rw [ckInk_out o]; rfl
    · unfold Mo_parts Mo_parts_13
      rw [isInk_out o]
      simp only [Option.bind_some, if_true, at5, le10, if_false]
      rfl
  · have vb : ∀ i, i < 64 → bL (P.2 (3 + 6) k) i = (decide (i < dN D) && decide (dI D i = k)) := fun i hi => hC.2.2.2.2.2.1 k hk i hi
    have hV : whV D k (P.2 (3 + 6) k) := by
      refine ⟨fun i hi q => ?_, fun i j _ hj _ cj _ => ?_⟩
      · rw [vb i hi] at q
        simpa using q
      · rw [vb j (by omega)]
        simp [hj, cj]
    have hct : fb_ct (fun l => bL (P.2 (3 + 6) k) l && frB D N k l) (dN D) = fb_ct (frB D N k) (dN D) := fb_ct_cong (fun l hl => by
      rw [vb l (by omega)]
      cases r : frB D N k l
      · simp
      · have := (cP_iff.mp r).1
        simp [this, hl])
    refine ⟨(0, nI (fb_ct (frB D N k) (dN D))), Nat.zero_le _, ?_, moI.aft h (fun Q hQ => ?_)⟩
    · have e := dr_parts_lp (N := N) hD hC hk 60 0 bigN 0 (P.2 (3 + 6) k) rfl (big_gt (by omega)) hV (by have := fb_ct_le (fun l => bL (P.2 (3 + 6) k) l && frB D N k l) (dN D); omega)
      rw [hct, Nat.zero_add] at e
      unfold Bs_parts Dr_partsOf
      rw [ckInk_in hk, dr_linesOf hk]
      simp only [Option.bind_some, Sum.elim_inr]
      rw [show Dr_partsOf_12 3 P bigN (P.2 (3 + 6) k) (0 : Int32) (0 : Int32) = _ from e]
      rfl
    · have q := hQ.s5 0
      obtain ⟨Q', g1, g2⟩ := mo_parts_lp (N := N) hD hk (dN D) 0 bigN (sI Q 1 5 0) q.2.2.1 q.2.2.2.1 (by omega) (big_gt (by omega))
      rw [show fb_ct (frB D N k) 0 = 0 from rfl] at g1
      refine ⟨_, Q', ?_, ?_, ((scr.rf Q).sI _ rfl).tr g2.scr, by rw [g2.2]; rfl, fun _ => rfl⟩
      · unfold Mo_parts Mo_parts_13
        rw [isInk_in hk]
        simp only [Option.bind_some, nz1, if_false, at5, le00, if_true]
        exact g1
      · rw [g2.1 1 (by decide) (by decide)]; exact at5 _ _
end PRT
