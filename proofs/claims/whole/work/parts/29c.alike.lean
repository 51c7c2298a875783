/-! ALIKE: both loops -/
section ALK3
variable {D : DT} {N : NT} {P Q : PH}
theorem encE {k : Nat} (hk : k < 144) {A : Option Nat} (hA : ∀ a, A = some a → a < 144) : nI k = enc A ↔ A = some k := by
  cases A with
  | none =>
    constructor
    · intro q; exact absurd (show nI k = m1 from q) (nI_nm (by omega))
    · intro q; cases q
  | some a =>
    have ha := hA a rfl
    show nI k = nI a ↔ _
    rw [nI_eq (by omega) (by omega)]
    constructor
    · intro q; rw [q]
    · intro q; exact (Option.some.inj q).symm
def jnO (D : DT) (A B : Option Nat) (j : Nat) : Prop := (A = some (dF D j) ∧ B = some (dT D j)) ∨ (B = some (dF D j) ∧ A = some (dT D j))
theorem alk_108 (hD : WD D) (hR : RD D (Q.1 88)) {l : Nat} (hl : l < dN D) {A B : Option Nat} (hA : ∀ a, A = some a → a < 144) (hB : ∀ b, B = some b → b < 144) (r61 : Int32 → PH → Option (Int32 × PH)) (v1 v2 v3 : Int32) :
    ∀ (m k n : Nat) (f : Bool), k + m = dN D → m < n → (f = true ↔ ∃ j, j < k ∧ dI D j = dI D l ∧ jnO D A B j) →
    ∃ g : Bool, Mo_alike_108 r61 v1 v2 v3 (nI l) (enc A) (enc B) n (if f then 1 else 0) (nI k) Q = (if g = true then r61 (nI (l + 1)) Q else some ((0 : Int32), Q)) ∧ (g = true ↔ ∃ j, j < dN D ∧ dI D j = dI D l ∧ jnO D A B j) := by
  have h60 := hD.1
  intro m
  induction m with
  | zero =>
    intro k n f hk hn hf
    obtain ⟨n, rfl⟩ : ∃ q, n = q + 1 := ⟨n - 1, by omega⟩
    obtain rfl : k = dN D := by omega
    refine ⟨f, ?_, hf⟩
    unfold Mo_alike_108
    rw [gd_0, mo_0 hR, if_pos (by rw [z_le (by omega) (by omega)]; exact Nat.le_refl _), gd0, show nI l + 1 = nI (l + 1) from nI_1 _]
    cases f
    · rw [if_pos (by decide), if_neg (by decide)]
    · rw [if_neg (by decide), if_pos rfl]
  | succ m ih =>
    intro k n f hk hn hf
    obtain ⟨n, rfl⟩ : ∃ q, n = q + 1 := ⟨n - 1, by omega⟩
    have hkD : k < dN D := by omega
    have i1 := (hD.2.1 k hkD).2.2.1
    have i2 := (hD.2.1 l hl).2.2.1
    have hF := (hD.2.1 k hkD).1
    have hT := (hD.to hkD).1
    have k1 : nI k + 1 = nI (k + 1) := nI_1 _
    have no : ¬ (dI D k = dI D l ∧ jnO D A B k) → (f = true ↔ ∃ j, j < k + 1 ∧ dI D j = dI D l ∧ jnO D A B j) := by
      intro q
      rw [hf]
      constructor
      · rintro ⟨j, a, b⟩; exact ⟨j, by omega, b⟩
      · rintro ⟨j, a, b⟩
        refine ⟨j, ?_, b⟩
        rcases Nat.lt_or_ge j k with z | z
        · exact z
        · obtain rfl : j = k := by omega
          exact absurd b q
    unfold Mo_alike_108
    rw [gd_0, mo_0 hR, if_neg (nI_ge hkD (by omega)), mo_ink hD hR hkD, mo_ink hD hR hl, mo_from hD hR hkD, mo_to hD hR hkD, k1]
    simp only [Option.bind_some]
    cases f with
    | true =>
      obtain ⟨g, e1, e2⟩ := ih (k + 1) n true (by omega) (by omega) ⟨fun _ => by obtain ⟨j, a, b⟩ := hf.mp rfl; exact ⟨j, by omega, b⟩, fun _ => rfl⟩
      exact ⟨g, by rw [if_neg (by decide)]; exact e1, e2⟩
    | false =>
      rw [if_pos (by decide)]
      have s0 : ¬ (dI D k = dI D l ∧ jnO D A B k) → ∃ g : Bool, Mo_alike_108 r61 v1 v2 v3 (nI l) (enc A) (enc B) n (0 : Int32) (nI (k + 1)) Q = (if g = true then r61 (nI (l + 1)) Q else some ((0 : Int32), Q)) ∧ (g = true ↔ ∃ j, j < dN D ∧ dI D j = dI D l ∧ jnO D A B j) := fun q => ih (k + 1) n false (by omega) (by omega) (no q)
      have s1 : dI D k = dI D l ∧ jnO D A B k → ∃ g : Bool, Mo_alike_108 r61 v1 v2 v3 (nI l) (enc A) (enc B) n (1 : Int32) (nI (k + 1)) Q = (if g = true then r61 (nI (l + 1)) Q else some ((0 : Int32), Q)) ∧ (g = true ↔ ∃ j, j < dN D ∧ dI D j = dI D l ∧ jnO D A B j) := fun q => ih (k + 1) n true (by omega) (by omega) ⟨fun _ => ⟨k, by omega, q⟩, fun _ => rfl⟩
      by_cases c : dI D k = dI D l
      · rw [if_pos (show nI (dI D k) = nI (dI D l) by rw [c])]
        have t161 : ¬ (A = some (dF D k) ∧ B = some (dT D k)) → ∃ g : Bool, Mo_alike_161 r61 (Mo_alike_108 r61 v1 v2 v3 (nI l) (enc A) (enc B) n) v1 v2 v3 (nI l) (enc A) (enc B) (nI k) Q = (if g = true then r61 (nI (l + 1)) Q else some ((0 : Int32), Q)) ∧ (g = true ↔ ∃ j, j < dN D ∧ dI D j = dI D l ∧ jnO D A B j) := by
          intro q
          unfold Mo_alike_161
          rw [mo_from hD hR hkD, mo_to hD hR hkD, k1]
          simp only [Option.bind_some]
          by_cases d1 : B = some (dF D k)
          · rw [if_pos ((encE hF hB).mpr d1)]
            by_cases d2 : A = some (dT D k)
            · rw [if_pos ((encE hT hA).mpr d2)]
              exact s1 ⟨c, Or.inr ⟨d1, d2⟩⟩
            · rw [if_neg (fun z => d2 ((encE hT hA).mp z))]
              exact s0 (fun z => by
                rcases z.2 with z | z
                · exact q z
                · exact d2 z.2)
          · rw [if_neg (fun z => d1 ((encE hF hB).mp z))]
            exact s0 (fun z => by
              rcases z.2 with z | z
              · exact q z
              · exact d1 z.1)
        by_cases d1 : A = some (dF D k)
        · rw [if_pos ((encE hF hA).mpr d1)]
          by_cases d2 : B = some (dT D k)
          · rw [if_pos ((encE hT hB).mpr d2)]
            exact s1 ⟨c, Or.inl ⟨d1, d2⟩⟩
          · rw [if_neg (fun z => d2 ((encE hT hB).mp z))]
            exact t161 (fun z => d2 z.2)
        · rw [if_neg (fun z => d1 ((encE hF hA).mp z))]
          exact t161 (fun z => d1 z.1)
      · rw [if_neg (show ¬ nI (dI D k) = nI (dI D l) by rw [z_eq (by omega) (by omega)]; exact c)]
        exact s0 (fun z => c z.1)
theorem btw_some {A B : Option Nat} {j : Nat} (e : btw D A B = some j) : j < dN D ∧ jnO D A B j := by
  cases A with
  | none => cases e
  | some a =>
    cases B with
    | none => cases e
    | some b =>
      obtain ⟨h1, h2, -⟩ := fsp_some (show fsp (jn D a b) (dN D) = some j from e)
      refine ⟨h1, ?_⟩
      rcases jn_iff.mp h2 with ⟨r1, r2⟩ | ⟨r1, r2⟩
      · exact Or.inl ⟨by rw [r1], by rw [r2]⟩
      · exact Or.inr ⟨by rw [r1], by rw [r2]⟩
theorem btw_is (hD : WD D) {A B : Option Nat} {j : Nat} (hj : j < dN D) (h : jnO D A B j) : btw D A B = some j := by
  have g : ∀ a b, jn D a b j = true → fsp (jn D a b) (dN D) = some j := fun a b q => fsp_is hj q (fun i hi => ts_nt (fun r => by
    have := jn_uniq hD hj (show i < dN D by omega) q r
    omega))
  rcases h with ⟨h1, h2⟩ | ⟨h1, h2⟩
  · rw [h1, h2]
    exact g _ _ (jn_iff.mpr (Or.inl ⟨rfl, rfl⟩))
  · rw [h1, h2]
    exact g _ _ (jn_iff.mpr (Or.inr ⟨rfl, rfl⟩))
theorem alk_both (hD : WD D) (hC : CD 3 D P) (hR : RD D (Q.1 88)) {w : Nat} {u v : Int32} {A1 A2 B1 B2 : Nat} (hch : ∀ h, endO D h → ∃ X Y : Int, Mo_changed (nI h) (nI w) u v Q = some (enc (hlA X Y)) ∧ Dr_changed (nI h) (nI w) (nI A1) (nI A2) (nI B1) (nI B2) P = some (enc (hlA X Y))) :
    ∀ (m k n n' : Nat), k + m = dN D → m < n → m < n' → ∃ r : Bool, Mo_alike_61 (nI w) u v n (nI k) Q = some ((if r then 1 else 0), Q) ∧ Dr_likeItself_87 3 (nI w) (nI A1) (nI A2) (nI B1) (nI B2) P n' (nI k) = some (if r then 1 else 0) := by
  have h60 := hD.1
  intro m
  induction m with
  | zero =>
    intro k n n' hk hn hn'
    obtain ⟨n, rfl⟩ : ∃ q, n = q + 1 := ⟨n - 1, by omega⟩
    obtain ⟨n', rfl⟩ : ∃ q, n' = q + 1 := ⟨n' - 1, by omega⟩
    obtain rfl : k = dN D := by omega
    refine ⟨true, ?_, ?_⟩
    · unfold Mo_alike_61
      rw [gd_0, mo_0 hR, if_pos (by rw [z_le (by omega) (by omega)]; exact Nat.le_refl _), gd1]
      rfl
    · unfold Dr_likeItself_87
      rw [hC.1, if_pos (by rw [z_le (by omega) (by omega)]; exact Nat.le_refl _), gd1]
      rfl
  | succ m ih =>
    intro k n n' hk hn hn'
    obtain ⟨n, rfl⟩ : ∃ q, n = q + 1 := ⟨n - 1, by omega⟩
    obtain ⟨n', rfl⟩ : ∃ q, n' = q + 1 := ⟨n' - 1, by omega⟩
    have hkD : k < dN D := by omega
    have i1 := (hD.2.1 k hkD).2.2.1
    have k1 : nI k + 1 = nI (k + 1) := nI_1 _
    obtain ⟨X1, Y1, f1, f2⟩ := hch (dF D k) ⟨k, hkD, dat_F D k⟩
    obtain ⟨X2, Y2, g1, g2⟩ := hch (dT D k) ⟨k, hkD, dat_T D k⟩
    obtain ⟨r0, e1, e2⟩ := ih (k + 1) n n' (by omega) (by omega) (by omega)
    have hA : ∀ a, hlA X1 Y1 = some a → a < 144 := fun a q => (hlA_some q).1
    have hB : ∀ b, hlA X2 Y2 = some b → b < 144 := fun b q => (hlA_some q).1
    obtain ⟨g, a1, a2⟩ := alk_108 hD hR hkD hA hB (Mo_alike_61 (nI w) u v n) (nI w) u v (dN D) 0 bigN false (by omega) (big_gt (by omega)) ⟨fun q => (by cases q), fun ⟨j, hj, _⟩ => by omega⟩
    have em : Mo_alike_61 (nI w) u v (n + 1) (nI k) Q = (if g = true then Mo_alike_61 (nI w) u v n (nI (k + 1)) Q else some ((0 : Int32), Q)) := by
      have eu : ∀ Z, Mo_alike_108 (Mo_alike_61 (nI w) u v n) (nI w) u v (nI k) (enc (hlA X1 Y1)) (enc (hlA X2 Y2)) bigN (0 : Int32) (0 : Int32) Q = Z → Mo_alike_61 (nI w) u v (n + 1) (nI k) Q = Z := by
        intro Z hZ
        unfold Mo_alike_61
        rw [gd_0, mo_0 hR, if_neg (nI_ge hkD (by omega)), mo_from hD hR hkD, Option.bind_some, f1, Option.bind_some, mo_to hD hR hkD, Option.bind_some, g1, Option.bind_some]
        exact hZ
      rw [if_neg (show ¬ false = true by decide), show (nI 0 : Int32) = 0 from rfl] at a1
      exact eu _ a1
    have ec : Dr_likeItself_87 3 (nI w) (nI A1) (nI A2) (nI B1) (nI B2) P (n' + 1) (nI k) = (if g = true then Dr_likeItself_87 3 (nI w) (nI A1) (nI A2) (nI B1) (nI B2) P n' (nI (k + 1)) else some (0 : Int32)) := by
      have eu : ∀ Z, ((Dr_lineBetween 3 (enc (hlA X1 Y1)) (enc (hlA X2 Y2)) P).bind fun (x137 : Int32) => if x137 = (-1 : Int32) then some (0 : Int32) else (Dr_inkOf 3 x137 P).bind fun (x151 : Int32) => (Dr_inkOf 3 (nI k) P).bind fun (x157 : Int32) => if x151 = x157 then Dr_likeItself_87 3 (nI w) (nI A1) (nI A2) (nI B1) (nI B2) P n' (nI (k + 1)) else some (0 : Int32)) = Z → Dr_likeItself_87 3 (nI w) (nI A1) (nI A2) (nI B1) (nI B2) P (n' + 1) (nI k) = Z := by
        intro Z hZ
        unfold Dr_likeItself_87
        rw [hC.1, if_neg (nI_ge hkD (by omega)), dr_from hD hC hkD, Option.bind_some, f2, Option.bind_some, dr_to hD hC hkD, Option.bind_some, g2, Option.bind_some, gd0, k1]
        exact hZ
      refine eu _ ?_
      rw [dr_between hD hC _ _ hA hB, Option.bind_some]
      cases eb : btw D (hlA X1 Y1) (hlA X2 Y2) with
      | none =>
        rw [if_pos (show enc none = (-1 : Int32) from rfl), if_neg (fun q => by
          obtain ⟨j, hj, _, hjo⟩ := a2.mp q
          rw [btw_is hD hj hjo] at eb
          cases eb)]
      | some j =>
        obtain ⟨hj, hjo⟩ := btw_some eb
        have ij := (hD.2.1 j hj).2.2.1
        rw [if_neg (show ¬ enc (some j) = (-1 : Int32) from nI_nm (by omega)), show enc (some j) = nI j from rfl, dr_ink hD hC hj, Option.bind_some, dr_ink hD hC hkD, Option.bind_some]
        by_cases c : dI D j = dI D k
        · rw [if_pos (show nI (dI D j) = nI (dI D k) by rw [c]), if_pos (a2.mpr ⟨j, hj, c, hjo⟩)]
        · rw [if_neg (show ¬ nI (dI D j) = nI (dI D k) by rw [z_eq (by omega) (by omega)]; exact c), if_neg (fun q => by
            obtain ⟨i, hi, ci, hio⟩ := a2.mp q
            have := btw_is hD hi hio
            rw [eb] at this
            obtain rfl := Option.some.inj this
            exact c ci)]
    cases g with
    | true => exact ⟨r0, by rw [em, if_pos rfl]; exact e1, by rw [ec, if_pos rfl]; exact e2⟩
    | false => exact ⟨false, by rw [em, if_neg (by decide)]; rfl, by rw [ec, if_neg (by decide)]; rfl⟩
theorem call_alike (h : INVx D N P) (v : Int32) : callP (Bs_alike v P) (Mo_alike v) [IAE] P := by
  obtain ⟨hD, hN, hR, hRN, hC, hCN, -⟩ := id h
  have h60 := hD.1
  rcases three v 4 (by decide) with o | ⟨w, hw, rfl⟩
  · refine ⟨(1, 0), by decide, ?_, moI.aft h (moI.thr (fun _ => 0) (fun Q hQ => ?_) (fun q => absurd q (by decide)))⟩
    · unfold Bs_alike Bs_alike_9
      rcases o with o | o
      · rw [if_pos o]; rfl
      · rw [if_neg (big_not (by decide) o).1, if_neg (show ¬ v ≤ (3 : Int32) from fun q => by
          rw [fa_le] at o q
          rw [nI_toInt (by decide)] at o
          rw [show (3 : Int32).toInt = 3 by decide] at q
          omega)]
        rfl
    · unfold Mo_alike Mo_alike_18
      rw [w_out 3 3 (by decide) rfl (by decide) o]
      simp only [Option.bind_some, if_true, at5, le10, if_false, gd0, gq0]
      rfl
  · obtain ⟨A1, A2, B1, B2, b1, b2⟩ := box_lp hD hC (nI w) 144 0 bigN 12 0 12 0 rfl (big_gt (by omega)) ⟨by omega, by omega, by omega, by omega, fun x hx => by omega, fun ⟨x, hx, _⟩ => by omega, fun _ => ⟨rfl, rfl, rfl, rfl⟩⟩
    have go : ∀ Q, INVx D N Q → ∃ r : Bool, Mo_alike (nI w) Q = some ((if r then 1 else 0), sI Q 1 5 (nI 0)) ∧ Dr_likeItself 3 (nI w) P = some (if r then 1 else 0) := by
      intro Q hQ
      have q := hQ.s5 (nI 0)
      have hR' := q.2.2.1
      obtain ⟨x4, l1, l2⟩ := mo_least (P := sI Q 1 5 (nI 0)) hD hR' (w := 4) (by omega) true
      obtain ⟨xw, l3, l4⟩ := mo_least (P := sI Q 1 5 (nI 0)) hD hR' (w := w) (by omega) true
      obtain ⟨y4, l5, l6⟩ := mo_least (P := sI Q 1 5 (nI 0)) hD hR' (w := 4) (by omega) false
      obtain ⟨yw, l7, l8⟩ := mo_least (P := sI Q 1 5 (nI 0)) hD hR' (w := w) (by omega) false
      obtain ⟨r, e1, e2⟩ := alk_both (w := w) (u := x4 - xw) (v := y4 - yw) hD hC hR' (fun x hx => ch_both hD hw b2 l2 l4 l6 l8 hx) (dN D) 0 bigN bigN (by omega) (big_gt (by omega)) (big_gt (by omega))
      rw [show (nI 0 : Int32) = 0 from rfl] at e1 e2
      refine ⟨r, ?_, ?_⟩
      · unfold Mo_alike Mo_alike_18
        rw [w_in 3 3 (by decide) rfl (by decide) hw, Option.bind_some, if_neg (by decide), Option.bind_some, if_pos (by rw [at5]; decide)]
        rw [show (if true = true then (0 : Int32) else 1) = 0 from rfl] at l1 l3
        rw [show (if false = true then (0 : Int32) else 1) = 1 from rfl] at l5 l7
        rw [show Mo_least (4 : Int32) (0 : Int32) (sI Q 1 5 0) = some x4 from l1, Option.bind_some, show Mo_least (nI w) (0 : Int32) (sI Q 1 5 0) = some xw from l3, Option.bind_some, Option.bind_some, show Mo_least (4 : Int32) (1 : Int32) (sI Q 1 5 0) = some y4 from l5, Option.bind_some, show Mo_least (nI w) (1 : Int32) (sI Q 1 5 0) = some yw from l7, Option.bind_some, Option.bind_some]
        exact e1
      · unfold Dr_likeItself
        rw [show Dr_likeItself_15 3 (nI w) P bigN (12 : Int32) (0 : Int32) (12 : Int32) (0 : Int32) (0 : Int32) = _ from b1]
        exact e2
    obtain ⟨r, -, c2⟩ := go P h
    refine ⟨(0, if r then 1 else 0), Nat.zero_le _, ?_, moI.aft h (moI.thr (fun _ => if r then 1 else 0) (fun Q hQ => ?_) (fun _ _ _ => rfl))⟩
    · unfold Bs_alike
      rw [if_neg (nI_pos (by omega)), if_pos (show nI w ≤ (3 : Int32) from (show nI w ≤ nI 3 by rw [z_le (by omega) (by omega)]; omega)), c2, Option.bind_some, gdb]
      rfl
    · obtain ⟨r', d1, d2⟩ := go Q hQ
      rw [c2] at d2
      have : (if r then (1 : Int32) else 0) = (if r' then 1 else 0) := Option.some.inj d2
      show Mo_alike (nI w) Q = some ((if r then 1 else 0), sI Q 1 5 (nI 0))
      rw [this]
      exact d1
end ALK3
