/-! THE FIRST WORKING: the mathematics -/
def hng (D : DT) (O U : Nat → Bool) (h : Nat) : Prop := ∀ i, i < dN D → (O i || U i) = true → Cl D (fun l => O l || U l) h i
def stO (O : Nat → Bool) (b : Bool) (l : Nat) : Nat → Bool := if b then (fun i => O i ^^ decide (i = l)) else O
def stU (U : Nat → Bool) (b : Bool) (l : Nat) : Nat → Bool := if b then U else (fun i => U i ^^ decide (i = l))
theorem scn_ok {f : Nat → Int} : ∀ (m k : Nat) (l0 : Option Nat), (scn f m k l0).1 = none → ∃ e, (∀ x, k ≤ x → x < k + m → x ≠ e → f x = 0) ∧ (∀ x, k ≤ x → x < k + m → -1 ≤ f x ∧ f x ≤ 1) ∧ (∀ a, l0 = some a → ∀ x, k ≤ x → x < k + m → f x = 0)
  | 0, k, l0, _ => ⟨0, fun x a b => by omega, fun x a b => by omega, fun _ _ x a b => by omega⟩
  | m + 1, k, l0, h => by
    rw [scn_s] at h
    by_cases y : f k = 0
    · rw [if_pos y] at h
      obtain ⟨e, h1, h2, h3⟩ := scn_ok m (k + 1) l0 h
      refine ⟨e, fun x a b c => ?_, fun x a b => ?_, fun a q x c d => ?_⟩
      · by_cases z : x = k
        · rw [z]; exact y
        · exact h1 x (by omega) (by omega) c
      · by_cases z : x = k
        · rw [z, y]; exact ⟨by decide, by decide⟩
        · exact h2 x (by omega) (by omega)
      · by_cases z : x = k
        · rw [z]; exact y
        · exact h3 a q x (by omega) (by omega)
    · rw [if_neg y] at h
      cases l0 with
      | some a => cases h
      | none =>
        have h : (if f k = 1 ∨ f k = -1 then scn f m (k + 1) (some k) else (some k, none)).1 = none := h
        by_cases y2 : f k = 1 ∨ f k = -1
        · rw [if_pos y2] at h
          obtain ⟨e, h1, h2, h3⟩ := scn_ok m (k + 1) (some k) h
          refine ⟨k, fun x a b c => h3 k rfl x (by omega) (by omega), fun x a b => ?_, fun a q => by cases q⟩
          by_cases z : x = k
          · rw [z]; omega
          · exact h2 x (by omega) (by omega)
        · rw [if_neg y2] at h
          cases h
section FWM
variable {D : DT} {N : NT} {O U : Nat → Bool} {h : Nat} {b : Bool}
theorem bars0 : (barsS D O U h b).1 = 0 ↔ hng D O U h ∧ (scn (fM D O U h b) 144 0 none).1 = none := by
  unfold barsS
  cases ef : fsp (fun l => (O l || U l) && !cP (Cl D (fun l => O l || U l) h l)) (dN D) with
  | some l =>
    obtain ⟨a1, a2, -⟩ := fsp_some ef
    rw [Bool.and_eq_true] at a2
    refine ⟨fun q => absurd q (show ¬ (1 : Nat) = 0 by decide), fun q => ?_⟩
    have := cP_iff.mpr (q.1 l a1 a2.1)
    rw [this] at a2
    exact absurd a2.2 (by decide)
  | none =>
    have hn : hng D O U h := fun i hi s => by
      have := fsp_none ef i hi
      rw [s, Bool.true_and] at this
      exact cP_iff.mp (by cases q : cP (Cl D (fun l => O l || U l) h i)
                          · rw [q] at this; cases this
                          · rfl)
    cases es : scn (fM D O U h b) 144 0 none with
    | mk bad last =>
      cases bad with
      | none => exact ⟨fun _ => ⟨hn, rfl⟩, fun _ => rfl⟩
      | some a => exact ⟨fun q => absurd q (show ¬ (2 : Nat) = 0 by decide), fun q => by cases q.2⟩
theorem ct_rm {p q : Nat → Bool} {l n : Nat} (hl : l < n) (hq : q l = true) : fb_ct (fun i => p i && (q i ^^ decide (i = l))) n + (if p l then 1 else 0) = fb_ct (fun i => p i && q i) n := by
  have e := fb_ct_upd (fun i => p i && q i) false hl
  rw [fb_ct_cong (q := fun i => p i && (q i ^^ decide (i = l))) (fun k hk => by
    by_cases c : k = l
    · rw [if_pos c, c, hq]; simp
    · simp [c])] at e
  rw [show (p l && q l) = p l by rw [hq, Bool.and_true]] at e
  simpa using e
theorem fM_inv (hD : WD D) {l : Nat} (hl : l < dN D) (ha : dat D h l = true) (hx : (if b then O l else U l) = true) : fM D (stO O b l) (stU U b l) (oth D l h) (!b) = fM D O U h b := by
  funext x
  have o := oth_oth hD hl ha
  have dx : dat D x l = true ↔ x = h ∨ x = oth D l h := ⟨two_ends hD hl ha, fun q => by
    rcases q with q | q
    · rw [q]; exact ha
    · rw [q]; exact o.2.1⟩
  unfold fM stO stU
  cases b
  · have e := ct_rm (p := fun i => dat D x i) hl (show U l = true from hx)
    simp only [Bool.false_eq_true, if_false, Bool.not_false, if_true]
    by_cases c1 : x = h
    · have c2 : ¬ x = oth D l h := fun q => o.2.2.2 (by rw [← q, c1])
      rw [if_pos (dx.mpr (Or.inl c1))] at e
      rw [if_pos c1, if_neg c2]
      omega
    · by_cases c2 : x = oth D l h
      · rw [if_pos (dx.mpr (Or.inr c2))] at e
        rw [if_neg c1, if_pos c2]
        omega
      · rw [if_neg (fun q => (dx.mp q).elim c1 c2)] at e
        rw [if_neg c1, if_neg c2]
        omega
  · have e := ct_rm (p := fun i => dat D x i) hl (show O l = true from hx)
    simp only [Bool.not_true, Bool.false_eq_true, if_false, if_true]
    by_cases c1 : x = h
    · have c2 : ¬ x = oth D l h := fun q => o.2.2.2 (by rw [← q, c1])
      rw [if_pos (dx.mpr (Or.inl c1))] at e
      rw [if_pos c1, if_neg c2]
      omega
    · by_cases c2 : x = oth D l h
      · rw [if_pos (dx.mpr (Or.inr c2))] at e
        rw [if_neg c1, if_pos c2]
        omega
      · rw [if_neg (fun q => (dx.mp q).elim c1 c2)] at e
        rw [if_neg c1, if_neg c2]
        omega
theorem Cl.fun {S S2 : Nat → Bool} {l : Nat} (e : S = S2) (hc : Cl D S h l) : Cl D S2 h l := by rw [← e]; exact hc
/-- something left: a line to go on by -/
theorem st_ex (hD : WD D) (hh : h < 144) (hw : (barsS D O U h b).1 = 0) (some : ∃ i, i < dN D ∧ (O i || U i) = true) : ∃ l, l < dN D ∧ dat D h l = true ∧ (if b then O l else U l) = true ∧ hng D (stO O b l) (stU U b l) (oth D l h) := by
  obtain ⟨hn, hs⟩ := bars0.mp hw
  obtain ⟨e, s1, s2, -⟩ := scn_ok 144 0 none hs
  have s1 : ∀ x, x < 144 → x ≠ e → fM D O U h b x = 0 := fun x a c => s1 x (by omega) (by omega) c
  have s2 : ∀ x, x < 144 → -1 ≤ fM D O U h b x ∧ fM D O U h b x ≤ 1 := fun x a => s2 x (by omega) (by omega)
  unfold fM at s1 s2
  cases b
  · have eS : (fun l => O l || U l) = suS U O := funext (fun l => Bool.or_comm _ _)
    obtain ⟨l, hl, ha, al, hl2⟩ := prog (A := U) (B := O) hD hh (fun x hx => by
      have := s2 x hx
      unfold cAt
      by_cases c : x = h
      · rw [if_pos c] at this ⊢; simp only [Bool.false_eq_true, if_false] at this; omega
      · rw [if_neg c] at this ⊢; omega) ⟨e, fun x hx c2 => by
      have := s1 x hx c2
      unfold cAt
      by_cases c : x = h
      · rw [if_pos c] at this ⊢; simp only [Bool.false_eq_true, if_false] at this; omega
      · rw [if_neg c] at this ⊢; omega⟩ (fun i hi si => (hn i hi (by rw [← si]; exact Bool.or_comm _ _)).fun eS) (by
      obtain ⟨i, hi, si⟩ := some
      exact ⟨i, hi, by rw [← si]; exact Bool.or_comm _ _⟩)
    have eP : suP U O l = (fun i => stO O false l i || stU U false l i) := funext (fun i => Bool.or_comm _ _)
    exact ⟨l, hl, ha, al, fun i hi si => (hl2 i hi (by rw [eP]; exact si)).fun eP⟩
  · obtain ⟨l, hl, ha, al, hl2⟩ := prog (A := O) (B := U) hD hh (fun x hx => by
      have := s2 x hx
      unfold cAt
      by_cases c : x = h
      · rw [if_pos c] at this ⊢; simp only [if_true] at this; omega
      · rw [if_neg c] at this ⊢; omega) ⟨e, fun x hx c2 => by
      have := s1 x hx c2
      unfold cAt
      by_cases c : x = h
      · rw [if_pos c] at this ⊢; simp only [if_true] at this; omega
      · rw [if_neg c] at this ⊢; omega⟩ hn some
    exact ⟨l, hl, ha, al, hl2⟩
/-- behind a stitch it ends well just if what is left hangs together -/
theorem st_well (hD : WD D) (hw : (barsS D O U h b).1 = 0) {l : Nat} (hl : l < dN D) (ha : dat D h l = true) (hx : (if b then O l else U l) = true) : (barsS D (stO O b l) (stU U b l) (oth D l h) (!b)).1 = 0 ↔ hng D (stO O b l) (stU U b l) (oth D l h) := by
  rw [bars0, fM_inv hD hl ha hx]
  exact ⟨fun q => q.1, fun q => ⟨q, (bars0.mp hw).2⟩⟩
/-! of a thread -/
noncomputable def bsN (D : DT) (N : NT) : Nat × Option Nat × Option Nat := barsS D (lO D N (xIk N)) (lU D N (xIk N)) (xH N (xM N)) (ovN N (xM N))
def wel (D : DT) (N : NT) : Prop := (bsN D N).1 = 0
def gdl (D : DT) (N : NT) (w l : Nat) : Prop := lnA D (xH N (xM N)) w = some l ∧ dI D l = xIk N ∧ xWk N (ovN N (xM N)) l = false
def gdw (D : DT) (N : NT) (w : Nat) : Prop := ∃ l, gdl D N w l ∧ wel D (goN N w l)
theorem lO_go {c w l : Nat} (hi : dI D l = c) : lO D (goN N w l) c = stO (lO D N c) (ovN N (xM N)) l := by
  funext i
  show (decide (dI D i = c) && !(xO (flN (ovN N (xM N)) l N) i)) = stO (lO D N c) (ovN N (xM N)) l i
  generalize ovN N (xM N) = v
  cases v
  · rfl
  · show (decide (dI D i = c) && !(xO N i ^^ decide (i = l))) = ((decide (dI D i = c) && !xO N i) ^^ decide (i = l))
    by_cases q : i = l
    · rw [q, hi]; simp
    · simp [q]
theorem lU_go {c w l : Nat} (hi : dI D l = c) : lU D (goN N w l) c = stU (lU D N c) (ovN N (xM N)) l := by
  funext i
  show (decide (dI D i = c) && !(xU (flN (ovN N (xM N)) l N) i)) = stU (lU D N c) (ovN N (xM N)) l i
  generalize ovN N (xM N) = v
  cases v
  · show (decide (dI D i = c) && !(xU N i ^^ decide (i = l))) = ((decide (dI D i = c) && !xU N i) ^^ decide (i = l))
    by_cases q : i = l
    · rw [q, hi]; simp
    · simp [q]
  · rfl
theorem ov_succ (N : NT) (k : Nat) : ovN N (k + 1) = !ovN N k := by
  unfold ovN
  rcases Nat.mod_two_eq_zero_or_one k with e | e
  · rw [e, show (k + 1) % 2 = 1 by omega]; cases xVf N <;> rfl
  · rw [e, show (k + 1) % 2 = 0 by omega]; cases xVf N <;> rfl
theorem go_hole (hD : WD D) {w l : Nat} (e : lnA D (xH N (xM N)) w = some l) : xH (goN N w l) (xM N + 1) = oth D l (xH N (xM N)) := by
  rw [xH_succ (N := goN N w l) hD (l := l) (by rw [go_H (Nat.le_refl _)]; show lnA D (xH N (xM N)) (if xM N = xM N then w else xD N (xM N)) = some l; rw [if_pos rfl]; exact e), go_H (Nat.le_refl _)]
theorem gd_A {w l : Nat} (g : gdl D N w l) : (if ovN N (xM N) then lO D N (xIk N) l else lU D N (xIk N) l) = true := by
  obtain ⟨-, g2, g3⟩ := g
  unfold xWk at g3
  unfold lO lU
  rw [g2]
  cases q : ovN N (xM N)
  · rw [q] at g3
    have g3 : xU N l = false := g3
    rw [g3]; simp
  · rw [q] at g3
    have g3 : xO N l = false := g3
    rw [g3]; simp
theorem A_gd {w l : Nat} (e : lnA D (xH N (xM N)) w = some l) (a : (if ovN N (xM N) then lO D N (xIk N) l else lU D N (xIk N) l) = true) : gdl D N w l := by
  refine ⟨e, ?_⟩
  unfold xWk
  unfold lO lU at a
  cases q : ovN N (xM N)
  · rw [q] at a
    have a : (decide (dI D l = xIk N) && !xU N l) = true := a
    rw [Bool.and_eq_true, decide_eq_true_eq, Bool.not_eq_true'] at a
    exact a
  · rw [q] at a
    have a : (decide (dI D l = xIk N) && !xO N l) = true := a
    rw [Bool.and_eq_true, decide_eq_true_eq, Bool.not_eq_true'] at a
    exact a
theorem bsN_go (hD : WD D) {w l : Nat} (g : gdl D N w l) : bsN D (goN N w l) = barsS D (stO (lO D N (xIk N)) (ovN N (xM N)) l) (stU (lU D N (xIk N)) (ovN N (xM N)) l) (oth D l (xH N (xM N))) (!ovN N (xM N)) := by
  show barsS D (lO D (goN N w l) (xIk N)) (lU D (goN N w l) (xIk N)) (xH (goN N w l) (xM N + 1)) (ovN (goN N w l) (xM N + 1)) = _
  rw [lO_go g.2.1, lU_go g.2.1, go_hole hD g.1, ov_succ]
  rfl
theorem wel_go (hD : WD D) (hw : wel D N) {w l : Nat} (g : gdl D N w l) : wel D (goN N w l) ↔ hng D (stO (lO D N (xIk N)) (ovN N (xM N)) l) (stU (lU D N (xIk N)) (ovN N (xM N)) l) (oth D l (xH N (xM N))) := by
  have s := lnA_stp g.1 hD
  unfold wel
  rw [bsN_go hD g]
  exact st_well hD hw s.2.1 s.2.2 (gd_A g)
theorem gd_go (hD : WD D) (hN : WN D N) (ht : xT N = true) {w l : Nat} (hw : w < 8) (g : gdl D N w l) : WN D (goN N w l) := WN.go hD hN ht hw g.1 g.2.1 g.2.2
theorem lft_eq (D : DT) (N : NT) (c : Nat) : lft D N c (dN D) = fb_ct (lO D N c) (dN D) + fb_ct (lU D N c) (dN D) := rfl
theorem lft_go (hD : WD D) {w l : Nat} (g : gdl D N w l) : lft D (goN N w l) (xIk N) (dN D) + 1 = lft D N (xIk N) (dN D) := by
  have hl := (lnA_stp g.1 hD).2.1
  have a := gd_A g
  rw [lft_eq, lft_eq, lO_go g.2.1, lU_go g.2.1]
  unfold stO stU
  cases q : ovN N (xM N)
  · rw [q] at a
    have := ct_flop (p := lU D N (xIk N)) hl a
    simp only [Bool.false_eq_true, if_false]
    omega
  · rw [q] at a
    have := ct_flop (p := lO D N (xIk N)) hl a
    simp only [if_true]
    omega
theorem wk_ex (hD : WD D) (hN : WN D N) (ht : xT N = true) (hw : wel D N) (h0 : 0 < lft D N (xIk N) (dN D)) : ∃ w, w < 8 ∧ gdw D N w := by
  have hh := WN.hole hD hN ht (xM N) (Nat.le_refl _)
  obtain ⟨l, hl, ha, al, hn⟩ := st_ex hD hh hw (by
    rw [lft_eq] at h0
    rcases (show 0 < fb_ct (lO D N (xIk N)) (dN D) ∨ 0 < fb_ct (lU D N (xIk N)) (dN D) by omega) with q | q
    · obtain ⟨k, hk, e⟩ := fb_ct_pos.mp q
      exact ⟨k, hk, by rw [e]; rfl⟩
    · obtain ⟨k, hk, e⟩ := fb_ct_pos.mp q
      exact ⟨k, hk, by rw [e]; exact Bool.or_true _⟩)
  obtain ⟨w, w1, w2, -⟩ := lnA_at hD hl ha
  have g : gdl D N w l := A_gd w2 al
  exact ⟨w, w1, l, g, (wel_go hD hw g).mpr hn⟩
noncomputable def wk1 (D : DT) (N : NT) : NT := match fsp (fun w => cP (gdw D N w)) 8 with
  | some w => (match lnA D (xH N (xM N)) w with
    | some l => goN N w l
    | none => N)
  | none => N
noncomputable def wkIt (D : DT) : Nat → NT → NT
  | 0, N => N
  | m + 1, N => wkIt D m (wk1 D N)
theorem wk1_ok (hD : WD D) (hN : WN D N) (ht : xT N = true) (hw : wel D N) (h0 : 0 < lft D N (xIk N) (dN D)) : ∃ w l, w < 8 ∧ gdl D N w l ∧ wel D (goN N w l) ∧ (∀ j, j < w → ¬ gdw D N j) ∧ wk1 D N = goN N w l := by
  obtain ⟨w0, a0, a1⟩ := wk_ex hD hN ht hw h0
  obtain ⟨w, hw8, c1, c2⟩ := fb_first (p := fun w => cP (gdw D N w) = true) ⟨w0, a0, cP_iff.mpr a1⟩
  obtain ⟨l, g, gw⟩ := cP_iff.mp c1
  refine ⟨w, l, hw8, g, gw, fun j hj q => c2 j hj (cP_iff.mpr q), ?_⟩
  unfold wk1
  rw [fsp_is hw8 c1 (fun j hj => ts_nt (c2 j hj))]
  show (match lnA D (xH N (xM N)) w with
    | some l => goN N w l
    | none => N) = _
  rw [g.1]
theorem wk1_D (N : NT) : xM N ≤ xM (wk1 D N) ∧ ∀ k, k < xM N → xD (wk1 D N) k = xD N k := by
  unfold wk1
  cases fsp (fun w => cP (gdw D N w)) 8 with
  | none => exact ⟨Nat.le_refl _, fun _ _ => rfl⟩
  | some w =>
    show xM N ≤ xM (match lnA D (xH N (xM N)) w with
    | some l => goN N w l
    | none => N) ∧ ∀ k, k < xM N → xD (match lnA D (xH N (xM N)) w with
    | some l => goN N w l
    | none => N) k = xD N k
    cases lnA D (xH N (xM N)) w with
    | none => exact ⟨Nat.le_refl _, fun _ _ => rfl⟩
    | some l => exact ⟨Nat.le_succ _, fun k hk => if_neg (by omega)⟩
theorem wkIt_D : ∀ (m : Nat) (N : NT) (k : Nat), k < xM N → xD (wkIt D m N) k = xD N k
  | 0, _, _, _ => rfl
  | m + 1, N, k, hk => by
    have a := wk1_D (D := D) N
    show xD (wkIt D m (wk1 D N)) k = _
    rw [wkIt_D m (wk1 D N) k (by omega), a.2 k hk]
end FWM
