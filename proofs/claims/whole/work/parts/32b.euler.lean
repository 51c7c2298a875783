/-! THE EULER STEP: where what is left hangs together and matches, a stitch can be behind which it does -/
section EUL
variable {D : DT} {A B : Nat → Bool} {h : Nat}
theorem Cl.cong {S S2 : Nat → Bool} {l : Nat} (e : ∀ i, i < dN D → S i = S2 i) (hc : Cl D S h l) : Cl D S2 h l :=
  fun C b t => hc C (fun i a s d => b i a (by rw [← e i a]; exact s) d) (fun i j ci hi hj si sj s => t i j ci hi hj (by rw [← e i hi]; exact si) (by rw [← e j hj]; exact sj) s)
def cAt (D : DT) (A : Nat → Bool) (n x : Nat) : Nat := fb_ct (fun l => dat D x l && A l) n
theorem sm_pt (v : Nat) {i n : Nat} (h : i < n) : fb_sm (fun x => if x = i then v else 0) n = v := by
  have := fb_sm_upd (fun _ => 0) v h
  rw [fb_sm_const] at this
  omega
theorem sm_par {f g : Nat → Nat} : ∀ {n : Nat}, (∀ k, k < n → f k % 2 = g k % 2) → fb_sm f n % 2 = fb_sm g n % 2
  | 0, _ => rfl
  | n + 1, h => by
    have a := sm_par (n := n) (fun k hk => h k (by omega))
    have b := h n (by omega)
    rw [fb_sm_succ, fb_sm_succ]
    omega
theorem vsum (hD : WD D) (V A : Nat → Bool) : ∀ n, n ≤ dN D → fb_sm (fun x => if V x then cAt D A n x else 0) 144 = fb_sm (fun l => if A l then (if V (dF D l) then 1 else 0) + (if V (dT D l) then 1 else 0) else 0) n
  | 0, _ => by
    rw [fb_sm_cong (g := fun _ => 0) (fun k _ => by show (if V k then 0 else 0) = 0; exact ite_self _), fb_sm_const]
    rfl
  | n + 1, hn => by
    have ih := vsum hD V A n (by omega)
    have a := (hD.2.1 n (by omega)).1
    have b := hD.to (l := n) (by omega)
    have key : fb_sm (fun x => if V x then cAt D A (n + 1) x else 0) 144 = fb_sm (fun x => (if V x then cAt D A n x else 0) + ((if x = dF D n then (if A n then (if V (dF D n) then 1 else 0) else 0) else 0) + (if x = dT D n then (if A n then (if V (dT D n) then 1 else 0) else 0) else 0))) 144 := by
      refine fb_sm_cong (fun x _ => ?_)
      unfold cAt
      rw [fb_ct_succ]
      generalize fb_ct (fun l => dat D x l && A l) n = c
      have hd : dat D x n = (decide (dF D n = x) || decide (dT D n = x)) := rfl
      rw [hd]
      by_cases c1 : x = dF D n
      · subst c1
        have c2 : ¬ dF D n = dT D n := by omega
        cases hV : V (dF D n) <;> cases hA : A n <;> simp [c2, hV, hA]
      · have c3 : ¬ dF D n = x := fun q => c1 q.symm
        by_cases c2 : x = dT D n
        · subst c2
          cases hV : V (dT D n) <;> cases hA : A n <;> simp [c1, c3, hV, hA]
        · have c4 : ¬ dT D n = x := fun q => c2 q.symm
          simp [c1, c2, c3, c4]
    rw [key, fb_sm_add, fb_sm_add, sm_pt _ a, sm_pt _ b.1, ih, fb_sm_succ]
    cases A n <;> rfl
def suS (A B : Nat → Bool) (i : Nat) : Bool := A i || B i
def suP (A B : Nat → Bool) (l i : Nat) : Bool := (A i ^^ decide (i = l)) || B i
theorem suP_ne {l i : Nat} (q : i ≠ l) : suP A B l i = suS A B i := by unfold suP suS; simp [q]
theorem suP_self {l : Nat} (a : A l = true) (b : B l = false) : suP A B l l = false := by unfold suP; simp [a, b]
def Vl (D : DT) (A B : Nat → Bool) (h l x : Nat) : Prop := x = oth D l h ∨ ∃ i, Cl D (suP A B l) (oth D l h) i ∧ dat D x i = true
theorem Vl_line {l x j : Nat} (v : Vl D A B h l x) (hj : j < dN D) (sj : suP A B l j = true) (ha : dat D x j = true) : Cl D (suP A B l) (oth D l h) j := by
  rcases v with v | ⟨i, c, d⟩
  · rw [v] at ha
    exact Cl.base hj sj ha
  · exact c.step hj sj ⟨x, d, ha⟩
theorem two_ends (hD : WD D) {l x : Nat} (hl : l < dN D) (ha : dat D h l = true) (hx : dat D x l = true) : x = h ∨ x = oth D l h := by
  rw [dat_iff] at ha hx
  unfold oth
  by_cases c : dF D l = h
  · rw [if_pos c]; omega
  · rw [if_neg c]; omega
theorem bad_odd (hD : WD D) {l : Nat} (hl : l < dN D) (ha : dat D h l = true) (al : A l = true) (bl : B l = false) (hv : ¬ Vl D A B h l h) : ∃ x, x < 144 ∧ Vl D A B h l x ∧ (cAt D A (dN D) x + cAt D B (dN D) x) % 2 = 1 := by
  by_cases c : ∃ x, x < 144 ∧ Vl D A B h l x ∧ (cAt D A (dN D) x + cAt D B (dN D) x) % 2 = 1
  · exact c
  · exfalso
    obtain ⟨V, hV⟩ : ∃ V : Nat → Bool, ∀ x, V x = true ↔ Vl D A B h l x := ⟨fun x => cP (Vl D A B h l x), fun x => cP_iff⟩
    have e1 := vsum hD V A (dN D) (Nat.le_refl _)
    have e2 := vsum hD V B (dN D) (Nat.le_refl _)
    have e3 : fb_sm (fun x => (if V x then cAt D A (dN D) x else 0) + (if V x then cAt D B (dN D) x else 0)) 144 % 2 = fb_sm (fun _ => 0) 144 % 2 := sm_par (fun x hx => by
      cases q : V x
      · rfl
      · have : ¬ (cAt D A (dN D) x + cAt D B (dN D) x) % 2 = 1 := fun z => c ⟨x, hx, (hV x).mp q, z⟩
        show (cAt D A (dN D) x + cAt D B (dN D) x) % 2 = 0 % 2
        omega)
    rw [fb_sm_add, e1, e2, ← fb_sm_add, fb_sm_const] at e3
    have e4 : fb_sm (fun k => (if A k then (if V (dF D k) then 1 else 0) + (if V (dT D k) then 1 else 0) else 0) + (if B k then (if V (dF D k) then 1 else 0) + (if V (dT D k) then 1 else 0) else 0)) (dN D) % 2 = fb_sm (fun x => if x = l then 1 else 0) (dN D) % 2 := sm_par (fun k hk => by
      by_cases q : k = l
      · subst q
        rw [al, bl, if_pos rfl, if_pos rfl]
        have vo : V (oth D k h) = true := (hV _).mpr (Or.inl rfl)
        have vh : V h = false := ts_nt (fun z => hv ((hV _).mp z))
        have z1 := oth_oth hD hk ha
        rw [dat_iff] at ha
        unfold oth at vo z1
        by_cases f : dF D k = h
        · rw [if_pos f] at vo
          rw [vo, f, vh]
          rfl
        · rw [if_neg f] at vo
          have g : dT D k = h := by omega
          rw [vo, g, vh]
          rfl
      · rw [if_neg q]
        have vv : suS A B k = true → V (dF D k) = V (dT D k) := fun s => by
          have sk : suP A B l k = true := by rw [suP_ne q]; exact s
          have a1 : V (dF D k) = true → V (dT D k) = true := fun z => (hV _).mpr (Or.inr ⟨k, Vl_line ((hV _).mp z) hk sk (dat_F D k), dat_T D k⟩)
          have a2 : V (dT D k) = true → V (dF D k) = true := fun z => (hV _).mpr (Or.inr ⟨k, Vl_line ((hV _).mp z) hk sk (dat_T D k), dat_F D k⟩)
          cases z : V (dF D k)
          · cases z2 : V (dT D k)
            · rfl
            · rw [a2 z2] at z; cases z
          · rw [a1 z]
        unfold suS at vv
        cases x : A k <;> cases y : B k <;> rw [x, y] at vv <;> first | rfl | (rw [vv rfl]; cases V (dT D k) <;> rfl))
    rw [sm_pt 1 hl] at e4
    rw [e4] at e3
    omega
theorem prog (hD : WD D) (hh : h < 144) (hg : ∀ x, x < 144 → -1 ≤ (cAt D A (dN D) x : Int) - (cAt D B (dN D) x : Int) - (if x = h then 1 else 0)) (one : ∃ e, ∀ x, x < 144 → x ≠ e → (cAt D A (dN D) x : Int) - (cAt D B (dN D) x : Int) - (if x = h then 1 else 0) = 0)
    (hang : ∀ i, i < dN D → suS A B i = true → Cl D (suS A B) h i) (some : ∃ i, i < dN D ∧ suS A B i = true) : ∃ l, l < dN D ∧ dat D h l = true ∧ A l = true ∧ ∀ i, i < dN D → suP A B l i = true → Cl D (suP A B l) (oth D l h) i := by
  by_cases good : ∃ l, l < dN D ∧ dat D h l = true ∧ A l = true ∧ ∀ i, i < dN D → suP A B l i = true → Cl D (suP A B l) (oth D l h) i
  · exact good
  · exfalso
    have gh := hg h hh
    rw [if_pos rfl] at gh
    -- a line at the hole
    obtain ⟨i0, hi0, si0⟩ := some
    obtain ⟨j0, hj0, sj0, aj0⟩ : ∃ j, j < dN D ∧ suS A B j = true ∧ dat D h j = true := hang i0 hi0 si0 (fun _ => ∃ j, j < dN D ∧ suS A B j = true ∧ dat D h j = true) (fun i a b c => ⟨i, a, b, c⟩) (fun _ _ a _ _ _ _ _ => a)
    have exA : ∃ l, l < dN D ∧ dat D h l = true ∧ A l = true := by
      by_cases c : ∃ l, l < dN D ∧ dat D h l = true ∧ A l = true
      · exact c
      · exfalso
        have z : cAt D A (dN D) h = 0 := fb_ct_zero.mpr (fun k hk => ts_nt (fun q => by
          rw [Bool.and_eq_true] at q
          exact c ⟨k, hk, q.1, q.2⟩))
        have bj : B j0 = true := by
          unfold suS at sj0
          cases x : A j0
          · rw [x] at sj0; exact sj0
          · exact absurd ⟨j0, hj0, aj0, x⟩ c
        have y : 0 < cAt D B (dN D) h := fb_ct_pos.mpr ⟨j0, hj0, by rw [aj0, bj]; rfl⟩
        omega
    -- a line that can't be gone is not B's
    have notB : ∀ l, l < dN D → dat D h l = true → A l = true → B l = false := by
      intro l hl ha al
      refine ts_nt (fun bl => good ⟨l, hl, ha, al, fun i hi si => ?_⟩)
      have same : ∀ i, suP A B l i = suS A B i := fun i => by
        by_cases q : i = l
        · rw [q]; unfold suP suS; simp [bl]
        · exact suP_ne q
      have si2 : suS A B i = true := by rw [← same]; exact si
      have o := oth_oth hD hl ha
      refine hang i hi si2 (fun i => Cl D (suP A B l) (oth D l h) i) (fun j hj sj aj => ?_) (fun a b ca ha2 hb _ sb s => ca.step hb (by rw [same]; exact sb) s)
      exact (Cl.base hl (by rw [same]; unfold suS; rw [al]; rfl) o.2.1).step hj (by rw [same]; exact sj) ⟨h, ha, aj⟩
    -- its far part doesn't touch the hole
    have far : ∀ l, l < dN D → dat D h l = true → A l = true → ¬ Vl D A B h l h := by
      intro l hl ha al v
      have bl := notB l hl ha al
      have o := oth_oth hD hl ha
      rcases v with v | ⟨i0, c0, d0⟩
      · exact o.2.2.2 v.symm
      · refine good ⟨l, hl, ha, al, fun i hi si => ?_⟩
        have nl : i ≠ l := fun q => by rw [q, suP_self al bl] at si; cases si
        have si2 : suS A B i = true := by rw [← suP_ne nl]; exact si
        have st : ∀ j, j < dN D → suS A B j = true → j ≠ l → suP A B l j = true := fun j _ s q => by rw [suP_ne q]; exact s
        have := hang i hi si2 (fun i => i = l ∨ Cl D (suP A B l) (oth D l h) i) (fun j hj sj aj => by
          by_cases q : j = l
          · exact Or.inl q
          · exact Or.inr (c0.step hj (st j hj sj q) ⟨h, d0, aj⟩)) (fun a b ca ha2 hb sa sb s => by
          by_cases q : b = l
          · exact Or.inl q
          · refine Or.inr ?_
            rcases ca with ca | ca
            · rw [ca] at s
              obtain ⟨x, x1, x2⟩ := s
              rcases two_ends hD hl ha x1 with r | r
              · rw [r] at x2; exact c0.step hb (st b hb sb q) ⟨h, d0, x2⟩
              · rw [r] at x2; exact Cl.base hb (st b hb sb q) x2
            · exact ca.step hb (st b hb sb q) s)
        exact this.resolve_left nl
    obtain ⟨e, he⟩ := one
    have inV : ∀ l, l < dN D → dat D h l = true → A l = true → Vl D A B h l e ∧ e ≠ h := by
      intro l hl ha al
      obtain ⟨x, hx, vx, px⟩ := bad_odd hD hl ha al (notB l hl ha al) (far l hl ha al)
      have xh : x ≠ h := fun q => far l hl ha al (by rw [q] at vx; exact vx)
      have xe : x = e := by
        by_cases q : x = e
        · exact q
        · have := he x hx q
          rw [if_neg xh] at this
          omega
      rw [← xe]
      exact ⟨vx, xh⟩
    obtain ⟨l, hl, ha, al⟩ := exA
    obtain ⟨ve, eh⟩ := inV l hl ha al
    have g0 := he h hh (fun q => eh q.symm)
    rw [if_pos rfl] at g0
    have bl := notB l hl ha al
    by_cases two : ∃ m, m < dN D ∧ dat D h m = true ∧ A m = true ∧ m ≠ l
    · obtain ⟨m, hm, hma, am, ml⟩ := two
      have vm := (inV m hm hma am).1
      have bm := notB m hm hma am
      have sml : suP A B l m = true := by rw [suP_ne ml]; unfold suS; rw [am]; rfl
      have slm : suP A B m l = true := by rw [suP_ne (fun q => ml q.symm)]; unfold suS; rw [al]; rfl
      have om := oth_oth hD hm hma
      have key : Cl D (suP A B l) (oth D l h) m := by
        rcases vm with v | ⟨i, c, d⟩
        · exact Vl_line ve hm sml (by rw [v]; exact om.2.1)
        · have kl : ∀ j, Cl D (suP A B m) (oth D m h) j → j ≠ l := fun j cj q => far m hm hma am (Or.inr ⟨l, by rw [← q]; exact cj, ha⟩)
          have km : ∀ j, j < dN D → suP A B m j = true → j ≠ l → suP A B l j = true := fun j _ s q => by
            by_cases z : j = m
            · rw [z]; exact sml
            · rw [suP_ne q, ← suP_ne z]; exact s
          have := c (fun j => Cl D (suP A B m) (oth D m h) j ∧ (Cl D (suP A B l) (oth D l h) j → Cl D (suP A B l) (oth D l h) m)) (fun j hj sj aj => ⟨Cl.base hj sj aj, fun cj => cj.step hm sml ⟨_, aj, om.2.1⟩⟩) (fun a b ca ha2 hb sa sb s => ⟨ca.1.step hb sb s, fun cb => ca.2 (cb.step ha2 (km a ha2 sa (kl a ca.1)) s.sym)⟩)
          exact this.2 (Vl_line ve c.mem.1 (km i c.mem.1 c.mem.2 (kl i c)) d)
      exact far l hl ha al (Or.inr ⟨m, key, hma⟩)
    · have only : ∀ m, m < dN D → dat D h m = true → A m = true → m = l := fun m a b c => by
        by_cases q : m = l
        · exact q
        · exact absurd ⟨m, a, b, c, q⟩ two
      have cA1 : cAt D A (dN D) h ≤ 1 := by
        have : cAt D A (dN D) h ≤ fb_ct (fun k => if k = l then true else false) (dN D) := fb_ct_sub (fun k hk q => by
          rw [Bool.and_eq_true] at q
          rw [if_pos (only k hk q.1 q.2)])
        have u := fb_ct_upd (fun _ => false) true hl
        have z : fb_ct (fun _ => false) (dN D) = 0 := fb_ct_zero.mpr (fun _ _ => rfl)
        rw [z] at u
        simp at u
        simp at this
        omega
      have cB0 : cAt D B (dN D) h = 0 := by omega
      have noB : ∀ m, m < dN D → dat D h m = true → B m = false := fun m a b => by
        have := fb_ct_zero.mp cB0 m a
        rw [b] at this
        exact this
      refine good ⟨l, hl, ha, al, fun i hi si => ?_⟩
      have nl : i ≠ l := fun q => by rw [q, suP_self al bl] at si; cases si
      have si2 : suS A B i = true := by rw [← suP_ne nl]; exact si
      have atl : ∀ j, j < dN D → suS A B j = true → dat D h j = true → j = l := fun j hj sj aj => by
        unfold suS at sj
        rw [noB j hj aj, Bool.or_false] at sj
        exact only j hj aj sj
      have := hang i hi si2 (fun i => i = l ∨ Cl D (suP A B l) (oth D l h) i) (fun j hj sj aj => Or.inl (atl j hj sj aj)) (fun a b ca ha2 hb sa sb s => by
        by_cases q : b = l
        · exact Or.inl q
        · refine Or.inr ?_
          have sbp : suP A B l b = true := by rw [suP_ne q]; exact sb
          rcases ca with ca | ca
          · rw [ca] at s
            obtain ⟨x, x1, x2⟩ := s
            rcases two_ends hD hl ha x1 with r | r
            · rw [r] at x2; exact absurd (atl b hb sb x2) q
            · rw [r] at x2; exact Cl.base hb sbp x2
          · exact ca.step hb sbp s)
      exact this.resolve_left nl
end EUL
