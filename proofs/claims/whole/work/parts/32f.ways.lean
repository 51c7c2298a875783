/-! WAYS -/
def cWy (D : DT) : Nat → (Nat → Bool) → (Nat → Bool) → Nat → Bool → Nat
  | 0, _, _, _, _ => 1
  | m + 1, O, U, h, b => fb_sm (fun l => if dat D h l && (if b then O l else U l) then cWy D m (stO O b l) (stU U b l) (oth D l h) (!b) else 0) (dN D)
theorem sm_swap (g : Nat → Nat → Nat) (m : Nat) : ∀ n, fb_sm (fun w => fb_sm (fun l => g w l) n) m = fb_sm (fun l => fb_sm (fun w => g w l) m) n
  | 0 => by
    show fb_sm (fun _ => 0) m = 0
    rw [fb_sm_const, Nat.mul_zero]
  | n + 1 => by
    rw [fb_sm_succ, ← sm_swap g m n, ← fb_sm_add]
    rfl
theorem sm_0 {f : Nat → Nat} {n : Nat} (h : ∀ k, k < n → f k = 0) : fb_sm f n = 0 := by
  rw [fb_sm_cong (g := fun _ => 0) h, fb_sm_const, Nat.mul_zero]
theorem sm_rm {R : Nat → Bool} {F : Nat → Nat} {i n : Nat} (hi : i < n) (hr : R i = true) : fb_sm (fun l => if R l then F l else 0) n = fb_sm (fun l => if (R l ^^ decide (l = i)) then F l else 0) n + F i := by
  have e := fb_sm_upd (fun l => if R l then F l else 0) 0 hi
  rw [fb_sm_cong (g := fun l => if (R l ^^ decide (l = i)) then F l else 0) (fun k hk => by
    by_cases c : k = i
    · rw [if_pos c, c, hr]; simp
    · simp [c])] at e
  have e2 : (if R i then F i else 0) = F i := by rw [hr]; rfl
  omega
section WYS
variable {D : DT} {N : NT} {P : PH} {O U : Nat → Bool} {h : Nat} {b : Bool}
theorem sm_ln (hD : WD D) (hh : h < 144) (f : Nat → Nat) : fb_sm (fun w => match lnA D h w with
    | some l => f l
    | none => 0) 8 = fb_sm (fun l => if dat D h l then f l else 0) (dN D) := by
  rw [fb_sm_cong (g := fun w => fb_sm (fun l => if lnA D h w = some l then f l else 0) (dN D)) (fun w hw => by
    show (match lnA D h w with
    | some l => f l
    | none => 0) = _
    cases e : lnA D h w with
    | none =>
      rw [sm_0 (fun k hk => if_neg (fun q => by cases q))]
    | some l =>
      have hl := (lnA_stp e hD).2.1
      rw [fb_sm_cong (g := fun l' => if l' = l then f l else 0) (fun k hk => by
        by_cases c : k = l
        · rw [if_pos c, c, if_pos rfl]
        · rw [if_neg c, if_neg (fun q => c (Option.some.inj q).symm)]), sm_pt _ hl])]
  rw [sm_swap]
  refine fb_sm_cong (fun l hl => ?_)
  cases ha : dat D h l
  · rw [if_neg (by decide)]
    exact sm_0 (fun w hw => if_neg (fun q => by rw [(lnA_stp q hD).2.2] at ha; cases ha))
  · rw [if_pos rfl]
    obtain ⟨w0, a1, a2, -⟩ := lnA_at hD hl ha
    rw [fb_sm_cong (g := fun w => if w = w0 then f l else 0) (fun w hw => by
      by_cases c : w = w0
      · rw [if_pos c, c, if_pos a2]
      · rw [if_neg c, if_neg (fun q => c (stp_inj hh hw a1 (lnA_stp q hD).1 (lnA_stp a2 hD).1))]), sm_pt _ a1]
theorem ct_st {l : Nat} (hl : l < dN D) (hx : (if b then O l else U l) = true) : fb_ct (stO O b l) (dN D) + fb_ct (stU U b l) (dN D) + 1 = fb_ct O (dN D) + fb_ct U (dN D) := by
  unfold stO stU
  cases b
  · have := ct_flop (p := U) hl hx
    simp only [Bool.false_eq_true, if_false]
    omega
  · have := ct_flop (p := O) hl hx
    simp only [if_true]
    omega
theorem st_sub {l i : Nat} (hx : (if b then O l else U l) = true) (s : (stO O b l i || stU U b l i) = true) : (O i || U i) = true := by
  unfold stO stU at s
  cases b
  · have hx : U l = true := hx
    have s : (O i || (U i ^^ decide (i = l))) = true := s
    by_cases c : i = l
    · rw [c, hx]; exact Bool.or_true _
    · simpa [c] using s
  · have hx : O l = true := hx
    have s : ((O i ^^ decide (i = l)) || U i) = true := s
    by_cases c : i = l
    · rw [c, hx]; rfl
    · simpa [c] using s
theorem st_not {l i : Nat} (c : i ≠ l) (s : (O i || U i) = true) : (stO O b l i || stU U b l i) = true := by
  unfold stO stU
  cases b
  · show (O i || (U i ^^ decide (i = l))) = true
    simpa [c] using s
  · show ((O i ^^ decide (i = l)) || U i) = true
    simpa [c] using s
theorem cWy_hng (hD : WD D) : ∀ (m : Nat) (O U : Nat → Bool) (h : Nat) (b : Bool), fb_ct O (dN D) + fb_ct U (dN D) = m → cWy D m O U h b ≠ 0 → hng D O U h := by
  intro m
  induction m with
  | zero =>
    intro O U h b hm _ i hi s
    have a := fb_ct_zero.mp (show fb_ct O (dN D) = 0 by omega) i hi
    have c := fb_ct_zero.mp (show fb_ct U (dN D) = 0 by omega) i hi
    rw [a, c] at s
    cases s
  | succ m ih =>
    intro O U h b hm hc
    have ex : ∃ l, l < dN D ∧ (if dat D h l && (if b then O l else U l) then cWy D m (stO O b l) (stU U b l) (oth D l h) (!b) else 0) ≠ 0 := by
      by_cases q : ∃ l, l < dN D ∧ (if dat D h l && (if b then O l else U l) then cWy D m (stO O b l) (stU U b l) (oth D l h) (!b) else 0) ≠ 0
      · exact q
      · exfalso
        refine hc (sm_0 (fun l hl => ?_))
        by_cases z : (if dat D h l && (if b then O l else U l) then cWy D m (stO O b l) (stU U b l) (oth D l h) (!b) else 0) = 0
        · exact z
        · exact absurd ⟨l, hl, z⟩ q
    obtain ⟨l, hl, hz⟩ := ex
    cases c : (dat D h l && (if b then O l else U l))
    · rw [c] at hz; exact absurd rfl hz
    · rw [c, if_pos rfl] at hz
      rw [Bool.and_eq_true] at c
      have hs := ih _ _ _ _ (by have := ct_st hl c.2; omega) hz
      have o := oth_oth hD hl c.1
      have sl : (O l || U l) = true := by
        cases b
        · have := c.2; rw [show U l = true from this]; exact Bool.or_true _
        · have := c.2; rw [show O l = true from this]; rfl
      have bl : Cl D (fun l => O l || U l) h l := Cl.base hl sl c.1
      intro i hi si
      by_cases q : i = l
      · rw [q]; exact bl
      · exact hs i hi (st_not q si) (fun i => Cl D (fun l => O l || U l) h i) (fun j hj sj aj => bl.step hj (st_sub c.2 sj) ⟨_, o.2.1, aj⟩) (fun x y cx _ hy _ sy s => cx.step hy (st_sub c.2 sy) s)
theorem most8 (hD : WD D) (A : Nat → Bool) : fb_ct (fun l => dat D h l && A l) (dN D) ≤ 8 := by
  refine Nat.le_trans (ct_inj (f := fun l => (fsp (fun w => decide (lnA D h w = some l)) 8).getD 0) (m := 8) (B := fun _ => true) (fun l hl q => ⟨?_, rfl⟩) (fun i j hi hj qi qj e => ?_)) (fb_ct_le _ _)
  · rw [Bool.and_eq_true] at q
    obtain ⟨w, a1, a2, -⟩ := lnA_at hD hl q.1
    show (fsp (fun w => decide (lnA D h w = some l)) 8).getD 0 < 8
    cases e : fsp (fun w => decide (lnA D h w = some l)) 8 with
    | none => exact (by decide : (0 : Nat) < 8)
    | some w => exact (fsp_some e).1
  · have key : ∀ l, l < dN D → (dat D h l && A l) = true → lnA D h ((fsp (fun w => decide (lnA D h w = some l)) 8).getD 0) = some l := by
      intro l hl q
      rw [Bool.and_eq_true] at q
      obtain ⟨w, a1, a2, -⟩ := lnA_at hD hl q.1
      cases e : fsp (fun w => decide (lnA D h w = some l)) 8 with
      | none =>
        have := fsp_none e w a1
        rw [decide_eq_true a2] at this
        cases this
      | some w => exact of_decide_eq_true (fsp_some e).2.1
    have a := key i hi qi
    have c := key j hj qj
    have e : (fsp (fun w => decide (lnA D h w = some i)) 8).getD 0 = (fsp (fun w => decide (lnA D h w = some j)) 8).getD 0 := e
    rw [e, c] at a
    exact (Option.some.inj a).symm
/-! the class -/
def bitsOf (D : DT) (x : Int64) (S : Nat → Bool) : Prop := ∀ i, i < 64 → bL x i = (decide (i < dN D) && S i)
theorem wys_42 (hD : WD D) (hC : CD 3 D P) (hh : h < 144) {F : Nat → Nat} {v1 v3 : Int64} {v7 : Int32} (rec : Nat → Int64 → Int64 → Int32 → Int32 → Int32 → PH → Option Int32)
    (hrec : ∀ l, l < dN D → dat D h l = true → (if b then O l else U l) = true → rec 3 (if b then v1 ^^^ ((1 : Int64) <<< ((nI l).toInt64 &&& 63)) else v1) (if b then v3 else v3 ^^^ ((1 : Int64) <<< ((nI l).toInt64 &&& 63))) (nI (oth D l h)) (nI (if !b then 1 else 0)) (v7 + (1 : Int32)) P = some (nI (F l))) :
    ∀ (q n c acc : Nat) (R : Nat → Bool) (v9 : Int64), fb_ct R (dN D) = q → q + c ≤ 8 → q < n → bitsOf D v9 R → (∀ l, l < dN D → R l = true → dat D h l = true ∧ (if b then O l else U l) = true) → Rs_workings_42 rec 3 v1 v3 (nI h) (nI (if b then 1 else 0)) v7 P n (nI acc) v9 (nI c) = some (nI (acc + fb_sm (fun l => if R l then F l else 0) (dN D))) := by
  have h60 := hD.1
  intro q
  induction q with
  | zero =>
    intro n c acc R v9 hq hc hn h9 hR
    obtain ⟨n, rfl⟩ : ∃ q, n = q + 1 := ⟨n - 1, by omega⟩
    have r0 := fb_ct_zero.mp hq
    have z : lg_cmp v9 0 = 0 := (lgz v9).mpr (fun i hi => by
      rw [h9 i hi]
      by_cases k : i < dN D
      · rw [r0 i k, Bool.and_false]
      · rw [decide_eq_false k, Bool.false_and])
    rw [sm_0 (fun k hk => by rw [r0 k hk]; rfl)]
    unfold Rs_workings_42
    rw [if_pos z, ite_self]
    rfl
  | succ q ih =>
    intro n c acc R v9 hq hc hn h9 hR
    obtain ⟨n, rfl⟩ : ∃ q, n = q + 1 := ⟨n - 1, by omega⟩
    obtain ⟨i0, j1, j2⟩ := fb_ct_pos.mp (show 0 < fb_ct R (dN D) by omega)
    obtain ⟨l, hl64, b1, b2⟩ := low_of (x := v9) ⟨i0, by omega, by rw [h9 i0 (by omega), j2, decide_eq_true j1]; rfl⟩
    have hb := h9 l hl64
    rw [b1] at hb
    have hb := hb.symm
    rw [Bool.and_eq_true, decide_eq_true_eq] at hb
    obtain ⟨hl, rl⟩ := hb
    obtain ⟨ha, al⟩ := hR l hl rl
    have nz : ¬ lg_cmp v9 0 = 0 := fun z => by
      have := (lgz v9).mp z l hl64
      rw [b1] at this
      cases this
    have e12 : v9 &&& -v9 = (1 : Int64) <<< ((nI l).toInt64 &&& 63) := bL_ext (fun j hj => by rw [bL_low b1 b2 hj, bL_sh hl64])
    have elow : Bs_lowest ((1 : Int64) <<< ((nI l).toInt64 &&& 63)) P = some (nI l) := low_is hl64 (by rw [bL_sh hl64]; exact decide_eq_true rfl) (fun j hj => by rw [bL_sh hl64]; exact decide_eq_false (by omega)) P
    have hr := hrec l hl ha al
    have ct1 := ct_flop hl rl
    have next := ih n (c + 1) (acc + F l) (fun i => R i ^^ decide (i = l)) (v9 ^^^ ((1 : Int64) <<< ((nI l).toInt64 &&& 63))) (by omega) (by omega) (by omega) (bit_fl hl h60 h9) (fun j hj rj => by
      by_cases k : j = l
      · rw [k]; exact ⟨ha, al⟩
      · exact hR j hj (by simpa [k] using rj))
    rw [sm_rm hl rl]
    unfold Rs_workings_42
    rw [if_neg (show ¬ (8 : Int32) ≤ nI c from (show ¬ nI 8 ≤ nI c from nI_ge (by omega) (by decide))), if_neg nz, Option.bind_some, e12, elow, Option.bind_some, dr_other hD hC hl hh, Option.bind_some, show nI c + 1 = nI (c + 1) from nI_1 _]
    cases b
    · have hr : rec 3 v1 (v3 ^^^ ((1 : Int64) <<< ((nI l).toInt64 &&& 63))) (nI (oth D l h)) (1 : Int32) (v7 + (1 : Int32)) P = some (nI (F l)) := hr
      rw [if_pos (by decide), hr, Option.bind_some, Option.bind_some, Option.bind_some, nI_add]
      have e : acc + (fb_sm (fun l' => if (R l' ^^ decide (l' = l)) then F l' else 0) (dN D) + F l) = acc + F l + fb_sm (fun l' => if (R l' ^^ decide (l' = l)) then F l' else 0) (dN D) := by omega
      rw [e]
      exact next
    · have hr : rec 3 (v1 ^^^ ((1 : Int64) <<< ((nI l).toInt64 &&& 63))) v3 (nI (oth D l h)) (0 : Int32) (v7 + (1 : Int32)) P = some (nI (F l)) := hr
      rw [if_neg (by decide), hr, Option.bind_some, Option.bind_some, Option.bind_some, nI_add]
      have e : acc + (fb_sm (fun l' => if (R l' ^^ decide (l' = l)) then F l' else 0) (dN D) + F l) = acc + F l + fb_sm (fun l' => if (R l' ^^ decide (l' = l)) then F l' else 0) (dN D) := by omega
      rw [e]
      exact next
theorem cls_wys (hD : WD D) (hC : CD 3 D P) : ∀ (m d k : Nat) (O U : Nat → Bool) (h : Nat) (b : Bool) (v1 v3 : Int64), fb_ct O (dN D) + fb_ct U (dN D) = m → m + k ≤ 16 → m < d → h < 144 → bitsOf D v1 O → bitsOf D v3 U → Rs_workings d 3 v1 v3 (nI h) (nI (if b then 1 else 0)) (nI k) P = some (nI (cWy D m O U h b)) := by
  have h60 := hD.1
  intro m
  induction m with
  | zero =>
    intro d k O U h b v1 v3 hm hk hd hh b1 b3
    obtain ⟨d, rfl⟩ : ∃ q, d = q + 1 := ⟨d - 1, by omega⟩
    have z : lg_cmp (v1 ||| v3) 0 = 0 := (lgz _).mpr (fun i hi => by
      rw [bL_or, b1 i hi, b3 i hi]
      by_cases c : i < dN D
      · rw [fb_ct_zero.mp (show fb_ct O (dN D) = 0 by omega) i c, fb_ct_zero.mp (show fb_ct U (dN D) = 0 by omega) i c, Bool.and_false, Bool.or_false]
      · rw [decide_eq_false c, Bool.false_and, Bool.false_and, Bool.or_false])
    unfold Rs_workings Rs_workings_step
    rw [if_pos z]
    rfl
  | succ m ih =>
    intro d k O U h b v1 v3 hm hk hd hh b1 b3
    obtain ⟨d, rfl⟩ : ∃ q, d = q + 1 := ⟨d - 1, by omega⟩
    have nz : ¬ lg_cmp (v1 ||| v3) 0 = 0 := fun z => by
      have z := (lgz _).mp z
      have o0 : fb_ct O (dN D) = 0 := fb_ct_zero.mpr (fun i hi => by
        have := z i (by omega)
        rw [bL_or, b1 i (by omega), b3 i (by omega), decide_eq_true hi, Bool.true_and, Bool.true_and, Bool.or_eq_false_iff] at this
        exact this.1)
      have u0 : fb_ct U (dN D) = 0 := fb_ct_zero.mpr (fun i hi => by
        have := z i (by omega)
        rw [bL_or, b1 i (by omega), b3 i (by omega), decide_eq_true hi, Bool.true_and, Bool.true_and, Bool.or_eq_false_iff] at this
        exact this.2)
      omega
    have hrec : ∀ l, l < dN D → dat D h l = true → (if b then O l else U l) = true → Rs_workings d 3 (if b then v1 ^^^ ((1 : Int64) <<< ((nI l).toInt64 &&& 63)) else v1) (if b then v3 else v3 ^^^ ((1 : Int64) <<< ((nI l).toInt64 &&& 63))) (nI (oth D l h)) (nI (if !b then 1 else 0)) (nI k + (1 : Int32)) P = some (nI (cWy D m (stO O b l) (stU U b l) (oth D l h) (!b))) := by
      intro l hl ha al
      rw [show nI k + (1 : Int32) = nI (k + 1) from nI_1 _]
      refine ih d (k + 1) _ _ _ _ _ _ (by have := ct_st hl al; omega) (by omega) (by omega) (oth_oth hD hl ha).2.2.1 ?_ ?_
      · cases b
        · exact b1
        · exact bit_fl hl h60 b1
      · cases b
        · exact bit_fl hl h60 b3
        · exact b3
    have most := most8 (h := h) hD (fun l => if b then O l else U l)
    have open9 : ∀ x : Int64, bitsOf D x (fun l => if b then O l else U l) → bitsOf D (P.2 (3 + 5) h &&& x) (fun l => dat D h l && (if b then O l else U l)) := fun x hx i hi => by
      rw [bL_and, hC.2.2.2.2.1 h hh i hi, hx i hi]
      have a : ∀ a b c : Bool, ((a && b) && (a && c)) = (a && (b && c)) := by decide
      exact a _ _ _
    have run := fun (x : Int64) (hx : bitsOf D x (fun l => if b then O l else U l)) => wys_42 hD hC hh (Rs_workings d) hrec (fb_ct (fun l => dat D h l && (if b then O l else U l)) (dN D)) bigN 0 0 (fun l => dat D h l && (if b then O l else U l)) (P.2 (3 + 5) h &&& x) rfl (by omega) (big_gt (by omega)) (open9 x hx) (fun l hl q => by rw [Bool.and_eq_true] at q; exact q)
    unfold Rs_workings Rs_workings_step
    rw [if_neg nz, if_pos (show nI k ≤ (16 : Int32) from (show nI k ≤ nI 16 by rw [z_le (by omega) (by omega)]; omega)), dr_linesAt hh, Option.bind_some]
    cases b
    · rw [if_pos (by decide), Option.bind_some]
      have := run v3 b3
      rw [Nat.zero_add] at this
      exact this
    · rw [if_neg (by decide), Option.bind_some]
      have := run v1 b1
      rw [Nat.zero_add] at this
      exact this
/-! the reference -/
noncomputable def wyG (D : DT) (N : NT) (F : Nat → Nat) (w : Nat) : Nat := match lnA D (xH N (xM N)) w with
  | some l => if cP (gdl D N w l ∧ wel D (goN N w l)) then F l else 0
  | none => 0
theorem wyG_y {F : Nat → Nat} {w l : Nat} (g : gdl D N w l) (gw : wel D (goN N w l)) : wyG D N F w = F l := by
  unfold wyG
  rw [g.1]
  show (if cP (gdl D N w l ∧ wel D (goN N w l)) = true then F l else 0) = F l
  rw [if_pos (cP_iff.mpr ⟨g, gw⟩)]
theorem wyG_n {F : Nat → Nat} {w : Nat} (g : ¬ gdw D N w) : wyG D N F w = 0 := by
  unfold wyG
  cases e : lnA D (xH N (xM N)) w with
  | none => rfl
  | some l =>
    show (if cP (gdl D N w l ∧ wel D (goN N w l)) = true then F l else 0) = 0
    rw [if_neg (fun q => g ⟨l, cP_iff.mp q⟩)]
theorem mo_wlp (hD : WD D) (hN : WN D N) (ht : xT N = true) {F : Nat → Nat} (rec : PH → Option (Int32 × PH)) (hrec : ∀ (w l : Nat) (P : PH), w < 8 → gdl D N w l → wel D (goN N w l) → RD D (P.1 88) → RN D (goN N w l) (P.1 88) → ∃ Q, rec P = some (nI (F l), Q) ∧ RD D (Q.1 88) ∧ RN D (goN N w l) (Q.1 88) ∧ onlyW P Q) :
    ∀ (m k n : Nat) (P : PH), k + m = 8 → m < n → RD D (P.1 88) → RN D N (P.1 88) → ∃ Q, Mo_waysOn_19 rec n (nI (fb_sm (wyG D N F) k)) (nI k) P = some (nI (fb_sm (wyG D N F) 8), Q) ∧ RD D (Q.1 88) ∧ RN D N (Q.1 88) ∧ onlyW P Q := by
  intro m
  induction m with
  | zero =>
    intro k n P hk hn hR hRN
    obtain ⟨n, rfl⟩ : ∃ q, n = q + 1 := ⟨n - 1, by omega⟩
    obtain rfl : k = 8 := by omega
    refine ⟨P, ?_, hR, hRN, onlyW.rf P⟩
    unfold Mo_waysOn_19
    rw [if_pos (by decide)]
  | succ m ih =>
    intro k n P hk hn hR hRN
    obtain ⟨n, rfl⟩ : ∃ q, n = q + 1 := ⟨n - 1, by omega⟩
    have k8 : k < 8 := by omega
    by_cases c : gdw D N k
    · obtain ⟨l, g, gw⟩ := c
      obtain ⟨Q1, a1, a2, a3, a4⟩ := (mo_gw hD hN ht k8 hR hRN).1 l g gw
      obtain ⟨Q2, b1, b2, b3, b4⟩ := hrec k l Q1 k8 g gw a2 a3
      obtain ⟨Q3, c1, c2, c3, c4⟩ := mo_backs hD (gd_go hD hN ht k8 g) b2 b3 ht (Nat.succ_pos _) (l := l) (by
        show lnA D (xH (goN N k l) (xM N)) (if xM N = xM N then k else xD N (xM N)) = some l
        rw [go_H (Nat.le_refl _), if_pos rfl]
        exact g.1)
      obtain ⟨Q, f1, f2, f3, f4⟩ := ih (k + 1) n Q3 (by omega) (by omega) c2 c3.unbk
      refine ⟨Q, ?_, f2, f3, ((a4.tr b4).tr c4.w).tr f4⟩
      rw [fb_sm_succ, wyG_y g gw] at f1
      unfold Mo_waysOn_19
      rw [if_neg (show ¬ (8 : Int32) ≤ nI k from (show ¬ nI 8 ≤ nI k from nI_ge k8 (by decide))), a1, Option.bind_some, if_neg (show ¬ ((1 : Int32), Q1).1 = 0 from (show ¬ (1 : Int32) = 0 by decide)), b1, Option.bind_some, Option.bind_some]
      show (Mo_backs Q2).bind _ = _
      rw [c1, Option.bind_some, nI_add, show nI k + 1 = nI (k + 1) from nI_1 _]
      exact f1
    · obtain ⟨Q1, a1, a2, a3, a4⟩ := (mo_gw hD hN ht k8 hR hRN).2 c
      obtain ⟨Q, f1, f2, f3, f4⟩ := ih (k + 1) n Q1 (by omega) (by omega) a2 a3
      refine ⟨Q, ?_, f2, f3, a4.tr f4⟩
      rw [fb_sm_succ, wyG_n c, Nat.add_zero] at f1
      unfold Mo_waysOn_19
      rw [if_neg (show ¬ (8 : Int32) ≤ nI k from (show ¬ nI 8 ≤ nI k from nI_ge k8 (by decide))), a1, Option.bind_some, if_pos (show ((0 : Int32), Q1).1 = 0 from rfl), show nI k + 1 = nI (k + 1) from nI_1 _]
      exact f1
noncomputable def cWN (D : DT) (N : NT) (m : Nat) : Nat := cWy D m (lO D N (xIk N)) (lU D N (xIk N)) (xH N (xM N)) (ovN N (xM N))
theorem cWN_go (hD : WD D) {w l m : Nat} (g : gdl D N w l) : cWN D (goN N w l) m = cWy D m (stO (lO D N (xIk N)) (ovN N (xM N)) l) (stU (lU D N (xIk N)) (ovN N (xM N)) l) (oth D l (xH N (xM N))) (!ovN N (xM N)) := by
  show cWy D m (lO D (goN N w l) (xIk N)) (lU D (goN N w l) (xIk N)) (xH (goN N w l) (xM N + 1)) (ovN (goN N w l) (xM N + 1)) = _
  rw [lO_go g.2.1, lU_go g.2.1, go_hole hD g.1, ov_succ]
  rfl
theorem cWN_sum (hD : WD D) (hN : WN D N) (ht : xT N = true) (hw : wel D N) {m : Nat} (hl : lft D N (xIk N) (dN D) = m + 1) : fb_sm (wyG D N (fun l => cWy D m (stO (lO D N (xIk N)) (ovN N (xM N)) l) (stU (lU D N (xIk N)) (ovN N (xM N)) l) (oth D l (xH N (xM N))) (!ovN N (xM N)))) 8 = cWN D N (m + 1) := by
  have hh := WN.hole hD hN ht (xM N) (Nat.le_refl _)
  obtain ⟨F, hF⟩ : ∃ F : Nat → Nat, F = fun l => cWy D m (stO (lO D N (xIk N)) (ovN N (xM N)) l) (stU (lU D N (xIk N)) (ovN N (xM N)) l) (oth D l (xH N (xM N))) (!ovN N (xM N)) := ⟨_, rfl⟩
  have e1 : cWN D N (m + 1) = fb_sm (fun l => if dat D (xH N (xM N)) l && (if ovN N (xM N) then lO D N (xIk N) l else lU D N (xIk N) l) then F l else 0) (dN D) := by rw [hF]; rfl
  rw [e1, ← hF]
  have e2 := sm_ln hD hh (fun l => if (if ovN N (xM N) then lO D N (xIk N) l else lU D N (xIk N) l) = true then F l else 0)
  rw [fb_sm_cong (f := fun l => if dat D (xH N (xM N)) l && (if ovN N (xM N) then lO D N (xIk N) l else lU D N (xIk N) l) then F l else 0) (g := fun l => if dat D (xH N (xM N)) l = true then (if (if ovN N (xM N) then lO D N (xIk N) l else lU D N (xIk N) l) = true then F l else 0) else 0) (fun k hk => by
    cases dat D (xH N (xM N)) k
    · rfl
    · rw [Bool.true_and, if_pos rfl]), ← e2]
  refine fb_sm_cong (fun w hw8 => ?_)
  show wyG D N F w = (match lnA D (xH N (xM N)) w with
    | some l => if (if ovN N (xM N) then lO D N (xIk N) l else lU D N (xIk N) l) = true then F l else 0
    | none => 0)
  cases e : lnA D (xH N (xM N)) w with
  | none => unfold wyG; rw [e]
  | some l =>
    show wyG D N F w = if (if ovN N (xM N) then lO D N (xIk N) l else lU D N (xIk N) l) = true then F l else 0
    by_cases c : (if ovN N (xM N) then lO D N (xIk N) l else lU D N (xIk N) l) = true
    · have g : gdl D N w l := A_gd e c
      rw [if_pos c]
      by_cases gw : wel D (goN N w l)
      · exact wyG_y g gw
      · rw [wyG_n (fun q => by
          obtain ⟨l', g', gw'⟩ := q
          rw [g'.1] at e
          cases e
          exact gw gw')]
        have lg := lft_go hD g
        have hl' : lft D (goN N w l) (xIk N) (dN D) = m := by omega
        have : F l = 0 := by
          by_cases z : F l = 0
          · exact z
          · exfalso
            rw [hF] at z
            refine gw ((wel_go hD hw g).mpr (cWy_hng hD m _ _ _ _ ?_ z))
            rw [← lO_go (w := w) g.2.1, ← lU_go (w := w) g.2.1, ← lft_eq]
            exact hl'
        exact this.symm
    · rw [if_neg c]
      exact wyG_n (fun q => by
        obtain ⟨l', g', gw'⟩ := q
        have ga := gd_A g'
        rw [g'.1] at e
        cases e
        exact c ga)
theorem mo_won (hD : WD D) : ∀ (m d : Nat) (N : NT) (P : PH), lft D N (xIk N) (dN D) = m → m < d → m < 1000 → WN D N → xT N = true → wel D N → RD D (P.1 88) → RN D N (P.1 88) → ∃ Q, Mo_waysOn d P = some (nI (cWN D N m), Q) ∧ RD D (Q.1 88) ∧ RN D N (Q.1 88) ∧ onlyW P Q := by
  intro m
  induction m with
  | zero =>
    intro d N P hl hd h9 hN ht hw hR hRN
    obtain ⟨d, rfl⟩ : ∃ q, d = q + 1 := ⟨d - 1, by omega⟩
    refine ⟨P, ?_, hR, hRN, onlyW.rf P⟩
    unfold Mo_waysOn Mo_waysOn_step
    rw [gd3, show P.1 88 (3 : Int32).toNatClampNeg = nI (xIk N) from (hRN.2.2.2 ht).1, mo_leftOf hD hR hRN (hN ht).1, Option.bind_some, hl, if_pos (by decide)]
    rfl
  | succ m ih =>
    intro d N P hl hd h9 hN ht hw hR hRN
    obtain ⟨d, rfl⟩ : ∃ q, d = q + 1 := ⟨d - 1, by omega⟩
    obtain ⟨Q, f1, f2, f3, f4⟩ := mo_wlp hD hN ht (F := fun l => cWy D m (stO (lO D N (xIk N)) (ovN N (xM N)) l) (stU (lU D N (xIk N)) (ovN N (xM N)) l) (oth D l (xH N (xM N))) (!ovN N (xM N))) (Mo_waysOn d) (fun w l P w8 g gw r1 r2 => by
      have lg := lft_go hD g
      obtain ⟨Q, g1, g2, g3, g4⟩ := ih d (goN N w l) P (by show lft D (goN N w l) (xIk N) (dN D) = m; omega) (by omega) (by omega) (gd_go hD hN ht w8 g) ht gw r1 r2
      rw [cWN_go hD g] at g1
      exact ⟨Q, g1, g2, g3, g4⟩) 8 0 bigN P rfl (big_gt (by omega)) hR hRN
    rw [cWN_sum hD hN ht hw hl] at f1
    refine ⟨Q, ?_, f2, f3, f4⟩
    unfold Mo_waysOn Mo_waysOn_step
    rw [gd3, show P.1 88 (3 : Int32).toNatClampNeg = nI (xIk N) from (hRN.2.2.2 ht).1, mo_leftOf hD hR hRN (hN ht).1, Option.bind_some, hl, if_neg (nI_ne0 (by omega) (by omega))]
    exact f1
theorem call_ways (h : INVx D N P) : callQ (Bs_ways P) Mo_ways [ISE] P := by
  obtain ⟨hD, hN, hR, hRN, hC, hCN, hRest⟩ := id h
  cases ht : xT N with
  | false =>
    refine ⟨(1, 0), P, by decide, ?_, moI.aft h (moI.thr (fun _ => 0) (fun Q hQ => ?_) (fun q => absurd q (by decide)))⟩
    · unfold Bs_ways; rw [ckThread hCN, ht]; rfl
    · unfold Mo_ways Mo_ways_13
      rw [mo_isThere hQ.2.2.2.1, ht, Option.bind_some, if_pos (by decide), Option.bind_some, at5, if_neg (by decide)]
      rfl
  | true =>
    have hh := WN.hole hD hN ht (xM N) (Nat.le_refl _)
    obtain ⟨Pa, a1, a2, a3⟩ := rs_behind hD hN hC hCN ht
    have a2 : RSN D N Pa := a2
    have l120 := lft_le D N (xIk N) hD
    have hm := rs_many hD a2
    -- the reference's head
    have head : ∀ (P2 : PH) (Z : Option (Int32 × PH)), INVx D N P2 → (if nI (lft D N (xIk N) (dN D)) ≤ (16 : Int32) then (Mo_barsNow (sI P2 1 5 (nI 0))).bind fun (x44 : Int32 × PH) =>
      if x44.1 = 0 then (Mo_waysOn 20 x44.2).bind fun (x51 : Int32 × PH) => some (x51.1, x51.2) else some ((0 : Int32), x44.2) else some ((-2 : Int32), sI P2 1 5 (nI 0))) = Z → Mo_ways P2 = Z := by
      intro P2 Z h2 hZ
      have q := h2.s5 (nI 0)
      unfold Mo_ways Mo_ways_13
      rw [mo_isThere h2.2.2.2.1, ht, Option.bind_some, if_neg (by decide), Option.bind_some, if_pos (show (sI P2 1 5 (0 : Int32)).1 1 5 ≤ 0 by rw [at5]; decide), gd3, show (sI P2 1 5 (0 : Int32)).1 88 (3 : Int32).toNatClampNeg = nI (xIk N) from (q.2.2.2.1.2.2.2 ht).1, show Mo_leftOf (nI (xIk N)) (sI P2 1 5 (0 : Int32)) = some (nI (lft D N (xIk N) (dN D))) from mo_leftOf hD q.2.2.1 q.2.2.2.1 (hN ht).1, Option.bind_some]
      exact hZ
    by_cases big : lft D N (xIk N) (dN D) ≤ 16
    · have big' : nI (lft D N (xIk N) (dN D)) ≤ (16 : Int32) := (show nI (lft D N (xIk N) (dN D)) ≤ nI 16 by rw [z_le (by omega) (by omega)]; exact big)
      obtain ⟨P1, e1, e2⟩ := rs_endsWell hD (hC.keep75 a3) a2 hh
      have e1 : Rs_endsWell Pa = some ((if (bsN D N).1 = 0 then (1 : Int32) else 0), P1) := e1
      have h1 : INVx D N P1 := h.scr (a3.tr e2.o).scr
      have a4 : RSN D N P1 := a2.onlyR e2
      by_cases hw : wel D N
      · have ec := cls_wys hD h1.2.2.2.2.1 (lft D N (xIk N) (dN D)) 20 0 _ _ _ (ovN N (xM N)) _ _ (lft_eq D N (xIk N)).symm (by omega) (by omega) hh a4.1 a4.2.1
        refine ⟨(0, nI (cWN D N (lft D N (xIk N) (dN D)))), P1, Nat.zero_le _, ?_, fun P2 hP2 => ?_⟩
        · unfold Bs_ways Rs_countWorkings
          rw [ckThread hCN, ht]
          show (Rs_behind 43 P).bind _ = _
          rw [a1, Option.bind_some, hm, Option.bind_some, if_pos big', e1, if_pos (show (bsN D N).1 = 0 from hw), Option.bind_some, if_neg (show ¬ ((1 : Int32), P1).1 = 0 from (show ¬ (1 : Int32) = 0 by decide))]
          show ((Rs_workings 20 3 (P1.2 75 4) (P1.2 75 5) (P1.1 75 6) (P1.1 75 7) (nI 0) P1).bind _).bind _ = _
          rw [a4.2.2.1, a4.2.2.2, ec, Option.bind_some, Option.bind_some]
          rfl
        · have h2 := h1.scr hP2.scr
          have q := h2.s5 (nI 0)
          obtain ⟨Q1, b1, b2, -⟩ := mo_barsNow (P := sI P2 1 5 (nI 0)) hD hN q.2.2.1 q.2.2.2.1 ht
          have b1 : Mo_barsNow (sI P2 1 5 (nI 0)) = some (nI (bsN D N).1, Q1) := b1
          have e88 : Q1.1 88 = (sI P2 1 5 (nI 0)).1 88 := b2.1 88 (by decide) (by decide) (by decide) (by decide)
          obtain ⟨Q2, c1, c2, c3, c4⟩ := mo_won hD (lft D N (xIk N) (dN D)) 20 N Q1 rfl (by omega) (by omega) hN ht hw (by rw [e88]; exact q.2.2.1) (by rw [e88]; exact q.2.2.2.1)
          have o := b2.w.tr c4
          refine ⟨_, Q2, head P2 _ h2 ?_, ?_, ?_, fun _ => rfl, D, N, INVx.of hD hN c2 c3 ?_ ?_ (q.rest.keep o.W)⟩
          · rw [if_pos big', b1, Option.bind_some, show (bsN D N).1 = 0 from hw, if_pos (show ((nI 0, Q1) : Int32 × PH).1 = 0 from rfl)]
            show (Mo_waysOn 20 Q1).bind _ = _
            rw [c1, Option.bind_some]
          · rw [o.2.1 5 (by decide) (by decide)]; exact at5 _ _
          · rw [o.2.2]; rfl
          · exact q.2.2.2.2.1.keep (o.1 _ (by decide) (by decide) (by decide) (by decide) (by decide)) (o.1 _ (by decide) (by decide) (by decide) (by decide) (by decide)) (o.1 _ (by decide) (by decide) (by decide) (by decide) (by decide)) (o.1 _ (by decide) (by decide) (by decide) (by decide) (by decide)) (o.1 _ (by decide) (by decide) (by decide) (by decide) (by decide)) (by rw [o.2.2]) (by rw [o.2.2]) (o.1 _ (by decide) (by decide) (by decide) (by decide) (by decide))
          · exact q.2.2.2.2.2.1.rows (o.1 _ (by decide) (by decide) (by decide) (by decide) (by decide)) (o.1 _ (by decide) (by decide) (by decide) (by decide) (by decide)) (by rw [o.2.2])
      · refine ⟨(0, 0), P1, Nat.zero_le _, ?_, moI.aft h1 (fun P2 h2 => ?_)⟩
        · unfold Bs_ways Rs_countWorkings
          rw [ckThread hCN, ht]
          show (Rs_behind 43 P).bind _ = _
          rw [a1, Option.bind_some, hm, Option.bind_some, if_pos big', e1, if_neg (show ¬ (bsN D N).1 = 0 from hw), Option.bind_some, if_pos (show ((0 : Int32), P1).1 = 0 from rfl), Option.bind_some]
          rfl
        · have q := h2.s5 (nI 0)
          obtain ⟨Q1, b1, b2, -⟩ := mo_barsNow (P := sI P2 1 5 (nI 0)) hD hN q.2.2.1 q.2.2.2.1 ht
          have b1 : Mo_barsNow (sI P2 1 5 (nI 0)) = some (nI (bsN D N).1, Q1) := b1
          have zl : (bsN D N).1 ≤ 2 := bars_le _ _ _ _ _
          have z : ¬ (bsN D N).1 = 0 := hw
          refine ⟨0, Q1, head P2 _ h2 ?_, ?_, ((scr.rf P2).sI _ rfl).tr b2.scr, by rw [b2.2.2]; rfl, fun _ => rfl⟩
          · rw [if_pos big', b1, Option.bind_some, if_neg (show ¬ ((nI (bsN D N).1, Q1) : Int32 × PH).1 = 0 from nI_ne0 (by omega) (by omega))]
          · rw [b2.2.1 5 (by decide) (by decide)]; exact at5 _ _
    · have big' : ¬ nI (lft D N (xIk N) (dN D)) ≤ (16 : Int32) := (show ¬ nI (lft D N (xIk N) (dN D)) ≤ nI 16 by rw [z_le (by omega) (by omega)]; exact big)
      have h1 : INVx D N Pa := h.scr a3.scr
      refine ⟨(0, (-2 : Int32)), Pa, Nat.zero_le _, ?_, moI.aft h1 (fun P2 h2 => ⟨(-2 : Int32), sI P2 1 5 (nI 0), head P2 _ h2 (if_neg big'), at5 _ _, (scr.rf P2).sI _ rfl, rfl, fun _ => rfl⟩)⟩
      unfold Bs_ways Rs_countWorkings
      rw [ckThread hCN, ht]
      show (Rs_behind 43 P).bind _ = _
      rw [a1, Option.bind_some, hm, Option.bind_some, if_neg big', Option.bind_some]
      rfl
end WYS
