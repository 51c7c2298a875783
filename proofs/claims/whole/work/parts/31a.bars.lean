/-! BARS: the class -/
/-- what is over's at a hole, less what is under's, the thread's own end told in -/
def fM (D : DT) (O U : Nat → Bool) (h : Nat) (b : Bool) (x : Nat) : Int := (fb_ct (fun l => dat D x l && O l) (dN D) : Int) - (fb_ct (fun l => dat D x l && U l) (dN D) : Int) + (if x = h then (if b then -1 else 1) else 0)
/-- the scan over the holes: where it fails, the last one odd -/
def scn (f : Nat → Int) : Nat → Nat → Option Nat → Option Nat × Option Nat
  | 0, _, last => (none, last)
  | m + 1, k, last => if f k = 0 then scn f m (k + 1) last else (match last with
    | none => if f k = 1 ∨ f k = -1 then scn f m (k + 1) (some k) else (some k, none)
    | some _ => (some k, none))
theorem scn_s (f : Nat → Int) (m k : Nat) (last : Option Nat) : scn f (m + 1) k last = if f k = 0 then scn f m (k + 1) last else (match last with
    | none => if f k = 1 ∨ f k = -1 then scn f m (k + 1) (some k) else (some k, none)
    | some _ => (some k, none)) := rfl
def atO (o : Option Nat) (v : Int32) : Int32 := match o with
  | none => v
  | some k => nI k
noncomputable def barsS (D : DT) (O U : Nat → Bool) (h : Nat) (b : Bool) : Nat × Option Nat × Option Nat := match fsp (fun l => (O l || U l) && !cP (Cl D (fun l => O l || U l) h l)) (dN D) with
  | some l => (1, some l, none)
  | none => match scn (fM D O U h b) 144 0 none with
    | (some k, _) => (2, some k, none)
    | (none, last) => (0, none, last)
def RSt (D : DT) (O U : Nat → Bool) (h : Nat) (b : Bool) (P : PH) : Prop := (∀ i, i < 64 → bL (P.2 75 4) i = (decide (i < dN D) && O i)) ∧ (∀ i, i < 64 → bL (P.2 75 5) i = (decide (i < dN D) && U i)) ∧ P.1 75 6 = nI h ∧ P.1 75 7 = nI (if b then 1 else 0)
def onlyR (P Q : PH) : Prop := Q.2 = P.2 ∧ (∀ n, n ≠ 75 → Q.1 n = P.1 n) ∧ ∀ k, 3 ≤ k → Q.1 75 k = P.1 75 k
theorem onlyR.rf (P : PH) : onlyR P P := ⟨rfl, fun _ _ => rfl, fun _ _ => rfl⟩
theorem onlyR.tr {P Q R : PH} (h : onlyR P Q) (h2 : onlyR Q R) : onlyR P R := ⟨h2.1.trans h.1, fun n a => (h2.2.1 n a).trans (h.2.1 n a), fun k a => (h2.2.2 k a).trans (h.2.2 k a)⟩
theorem onlyR.s {P Q : PH} (h : onlyR P Q) {k : Nat} (hk : k < 3) (v : Int32) : onlyR P (sI Q 75 k v) := ⟨h.1, fun n a => by rw [rowI_o _ _ _ a]; exact h.2.1 n a, fun j a => by rw [rowI_s, pk_un (by omega)]; exact h.2.2 j a⟩
section BRS
variable {D : DT} {P : PH} {O U : Nat → Bool} {h : Nat} {b : Bool}
theorem RSt.keep {Q : PH} (s : RSt D O U h b P) (o : onlyR P Q) : RSt D O U h b Q := by
  obtain ⟨a1, a2, a3, a4⟩ := s
  exact ⟨by rw [o.1]; exact a1, by rw [o.1]; exact a2, by rw [o.2.2 6 (by decide)]; exact a3, by rw [o.2.2 7 (by decide)]; exact a4⟩
theorem CD.keepR {Q : PH} (c : CD 3 D P) (o : onlyR P Q) : CD 3 D Q := c.keep (o.2.1 _ (by decide)) (o.2.1 _ (by decide)) (o.2.1 _ (by decide)) (o.2.1 _ (by decide)) (o.2.1 _ (by decide)) (by rw [o.1]) (by rw [o.1]) (o.2.1 _ (by decide))
theorem ct_at (hD : WD D) (hC : CD 3 D P) {x : Nat} (hx : x < 144) {w : Int64} {S : Nat → Bool} (hw : ∀ i, i < 64 → bL w i = (decide (i < dN D) && S i)) : Jl_bitCount (P.2 (3 + 5) x &&& w) P = some (nI (fb_ct (fun l => dat D x l && S l) (dN D))) := by
  have h60 := hD.1
  refine pop_is (by omega) (fun i hi => ?_) P
  rw [bL_and, hC.2.2.2.2.1 x hx i hi, hw i hi]
  cases decide (i < dN D) <;> cases dat D x i <;> cases S i <;> rfl
theorem rs_unmatched (hD : WD D) (hC : CD 3 D P) (hS : RSt D O U h b P) (hh : h < 144) {x : Nat} (hx : x < 144) : ∃ z, Rs_unmatched (nI x) P = some z ∧ z.toInt = fM D O U h b x ∧ -100 < z.toInt ∧ z.toInt < 100 := by
  have h60 := hD.1
  obtain ⟨s1, s2, s3, s4⟩ := hS
  have c1 := fb_ct_le (fun l => dat D x l && O l) (dN D)
  have c2 := fb_ct_le (fun l => dat D x l && U l) (dN D)
  have i1 : (1 : Int32).toInt = 1 := by decide
  have e0 : (nI (fb_ct (fun l => dat D x l && O l) (dN D)) - nI (fb_ct (fun l => dat D x l && U l) (dN D))).toInt = (fb_ct (fun l => dat D x l && O l) (dN D) : Int) - (fb_ct (fun l => dat D x l && U l) (dN D) : Int) := pk_sub_toInt (by omega) (by omega)
  have u : ∀ Z, (if nI x = P.1 75 6 then (if P.1 75 7 = 0 then some ((nI (fb_ct (fun l => dat D x l && O l) (dN D)) - nI (fb_ct (fun l => dat D x l && U l) (dN D))) + (1 : Int32)) else some ((nI (fb_ct (fun l => dat D x l && O l) (dN D)) - nI (fb_ct (fun l => dat D x l && U l) (dN D))) - (1 : Int32))) else some (nI (fb_ct (fun l => dat D x l && O l) (dN D)) - nI (fb_ct (fun l => dat D x l && U l) (dN D)))) = some Z → Rs_unmatched (nI x) P = some Z := by
    intro Z hZ
    unfold Rs_unmatched
    rw [dr_linesAt hx, Option.bind_some, ct_at hD hC hx s1, Option.bind_some, ct_at hD hC hx s2, Option.bind_some, Option.bind_some]
    exact hZ
  unfold fM
  by_cases c : x = h
  · rw [if_pos c]
    cases b
    · refine ⟨_, u _ (by rw [s3, s4, if_pos (by rw [c]), if_pos (by decide)]), ?_, ?_⟩
      · rw [fb_addI (by rw [e0, i1]; omega) (by rw [e0, i1]; omega), e0, i1]; rfl
      · rw [fb_addI (by rw [e0, i1]; omega) (by rw [e0, i1]; omega), e0, i1]; omega
    · refine ⟨_, u _ (by rw [s3, s4, if_pos (by rw [c]), if_neg (by decide)]), ?_, ?_⟩
      · rw [fb_subI (by rw [e0, i1]; omega) (by rw [e0, i1]; omega), e0, i1]; rfl
      · rw [fb_subI (by rw [e0, i1]; omega) (by rw [e0, i1]; omega), e0, i1]; omega
  · rw [if_neg c]
    refine ⟨_, u _ (by rw [s3, if_neg (show ¬ nI x = nI h by rw [z_eq (by omega) (by omega)]; exact c)]), ?_, ?_⟩
    · rw [e0]; omega
    · rw [e0]; omega
theorem rs_matches_lp (hD : WD D) (hh : h < 144) : ∀ (m k n : Nat) (P : PH) (last : Option Nat), k + m = 144 → m < n → CD 3 D P → RSt D O U h b P → (∀ a, last = some a → a < 144) → P.1 75 2 = enc last →
    ∃ Q, Rs_matches_7 n (nI k) P = some ((if (scn (fM D O U h b) m k last).1 = none then (1 : Int32) else 0), Q) ∧ onlyR P Q ∧ Q.1 75 0 = P.1 75 0 ∧ Q.1 75 1 = atO (scn (fM D O U h b) m k last).1 (P.1 75 1) ∧ Q.1 75 2 = enc (scn (fM D O U h b) m k last).2 := by
  intro m
  induction m with
  | zero =>
    intro k n P last hk hn hC hS hl h2
    obtain ⟨n, rfl⟩ : ∃ q, n = q + 1 := ⟨n - 1, by omega⟩
    obtain rfl : k = 144 := by omega
    refine ⟨P, ?_, onlyR.rf P, rfl, rfl, h2⟩
    unfold Rs_matches_7
    rw [if_pos (by decide), gd1]
    rfl
  | succ m ih =>
    intro k n P last hk hn hC hS hl h2
    obtain ⟨n, rfl⟩ : ∃ q, n = q + 1 := ⟨n - 1, by omega⟩
    have hk9 : k < 144 := by omega
    obtain ⟨z, z1, z2, z3, z4⟩ := rs_unmatched hD hC hS hh hk9
    have i0 : (0 : Int32).toInt = 0 := by decide
    have i1 : (1 : Int32).toInt = 1 := by decide
    have im : (-1 : Int32).toInt = -1 := by decide
    have k1 : nI k + 1 = nI (k + 1) := nI_1 _
    have fail : ∃ Q, (some (sI P 75 2 (-1 : Int32))).bind (fun (P44 : PH) => (some (sI P44 75 1 (nI k))).bind fun (P49 : PH) => gdP ((0 : Int32) = 0 ∨ (0 : Int32) = 1) <| some ((0 : Int32), P49)) = some ((0 : Int32), Q) ∧ onlyR P Q ∧ Q.1 75 0 = P.1 75 0 ∧ Q.1 75 1 = nI k ∧ Q.1 75 2 = enc none := by
      refine ⟨sI (sI P 75 2 (-1 : Int32)) 75 1 (nI k), ?_, ((onlyR.rf P).s (by decide) _).s (by decide) _, ?_, ?_, ?_⟩
      · rw [Option.bind_some, Option.bind_some, gd0]
      · rw [rowI_s, pk_un (by decide), rowI_s, pk_un (by decide)]
      · rw [rowI_s, pk_us]
      · rw [rowI_s, pk_un (by decide), rowI_s, pk_us]; rfl
    have hd : ∀ Z, (if z = 0 then Rs_matches_54 (Rs_matches_7 n) (nI k) z P else if P.1 75 2 = (-1 : Int32) then (if (1 : Int32) < z then (some (sI P 75 2 (-1 : Int32))).bind (fun (P44 : PH) => (some (sI P44 75 1 (nI k))).bind fun (P49 : PH) => gdP ((0 : Int32) = 0 ∨ (0 : Int32) = 1) <| some ((0 : Int32), P49)) else if (-1 : Int32) ≤ z then Rs_matches_54 (Rs_matches_7 n) (nI k) z P else (some (sI P 75 2 (-1 : Int32))).bind (fun (P44 : PH) => (some (sI P44 75 1 (nI k))).bind fun (P49 : PH) => gdP ((0 : Int32) = 0 ∨ (0 : Int32) = 1) <| some ((0 : Int32), P49))) else (some (sI P 75 2 (-1 : Int32))).bind (fun (P44 : PH) => (some (sI P44 75 1 (nI k))).bind fun (P49 : PH) => gdP ((0 : Int32) = 0 ∨ (0 : Int32) = 1) <| some ((0 : Int32), P49))) = Z → Rs_matches_7 (n + 1) (nI k) P = Z := by
      intro Z hZ
      unfold Rs_matches_7
      rw [if_neg (show ¬ (144 : Int32) ≤ nI k from (show ¬ nI 144 ≤ nI k from nI_ge hk9 (by decide))), z1, Option.bind_some]
      exact hZ
    by_cases c0 : fM D O U h b k = 0
    · have sc : scn (fM D O U h b) (m + 1) k last = scn (fM D O U h b) m (k + 1) last := by rw [scn_s, if_pos c0]
      have hz : z = 0 := by rw [fa_eq, i0, z2, c0]
      obtain ⟨Q, e1, e2⟩ := ih (k + 1) n P last (by omega) (by omega) hC hS hl h2
      rw [sc]
      refine ⟨Q, hd _ ?_, e2⟩
      unfold Rs_matches_54
      rw [if_pos hz, if_pos hz, k1]
      exact e1
    · have hz : ¬ z = 0 := by rw [fa_eq, i0, z2]; exact c0
      cases last with
      | some a =>
        have sc : scn (fM D O U h b) (m + 1) k (some a) = (some k, none) := by rw [scn_s, if_neg c0]
        obtain ⟨Q, f1, f2, f3, f4, f5⟩ := fail
        rw [sc]
        refine ⟨Q, hd _ ?_, f2, f3, f4, f5⟩
        rw [if_neg hz, if_neg (show ¬ P.1 75 2 = (-1 : Int32) from by rw [h2]; exact nI_nm (by have := hl a rfl; omega))]
        exact f1
      | none =>
        by_cases c1 : fM D O U h b k = 1 ∨ fM D O U h b k = -1
        · have sc : scn (fM D O U h b) (m + 1) k none = scn (fM D O U h b) m (k + 1) (some k) := by rw [scn_s, if_neg c0]; exact if_pos c1
          obtain ⟨Q, e1, e2, e3, e4, e5⟩ := ih (k + 1) n (sI P 75 2 (nI k)) (some k) (by omega) (by omega) (hC.keepR ((onlyR.rf P).s (by decide) _)) (hS.keep ((onlyR.rf P).s (by decide) _)) (fun a q => by rw [← Option.some.inj q]; exact hk9) (by rw [rowI_s, pk_us]; rfl)
          rw [sc]
          refine ⟨Q, hd _ ?_, ((onlyR.rf P).s (by decide) _).tr e2, ?_, ?_, e5⟩
          · unfold Rs_matches_54
            rw [if_neg hz, if_pos (show P.1 75 2 = (-1 : Int32) from h2), if_neg (show ¬ (1 : Int32) < z by rw [fa_lt, i1, z2]; omega), if_pos (show (-1 : Int32) ≤ z by rw [fa_le, im, z2]; omega), if_neg hz, Option.bind_some, k1]
            exact e1
          · rw [e3, rowI_s, pk_un (by decide)]
          · rw [e4, rowI_s, pk_un (by decide)]
        · have sc : scn (fM D O U h b) (m + 1) k none = (some k, none) := by rw [scn_s, if_neg c0]; exact if_neg c1
          obtain ⟨Q, f1, f2, f3, f4, f5⟩ := fail
          rw [sc]
          refine ⟨Q, hd _ ?_, f2, f3, f4, f5⟩
          rw [if_neg hz, if_pos (show P.1 75 2 = (-1 : Int32) from h2)]
          by_cases c2 : (1 : Int32) < z
          · rw [if_pos c2]; exact f1
          · rw [if_neg c2, if_neg (show ¬ (-1 : Int32) ≤ z from fun q => by
              rw [fa_lt, i1, z2] at c2
              rw [fa_le, im, z2] at q
              omega)]
            exact f1
end BRS
