/-! ALIKE: changes, boxes -/
section ALK
variable {D : DT} {N : NT} {P : PH}
theorem i0 : (0 : Int32).toInt = 0 := by decide
theorem out_int {x : Int32} {n : Nat} (hn : n < 2147483648) (o : x < 0 ∨ nI n ≤ x) : x.toInt < 0 ∨ (n : Int) ≤ x.toInt := by
  rcases o with o | o
  · rw [fa_lt, i0] at o; exact Or.inl o
  · rw [fa_le, nI_toInt hn] at o; exact Or.inr o
theorem hlA_x {x y : Int} (h : x < 0 ∨ 12 ≤ x) : hlA x y = none := if_neg (by omega)
theorem hlA_y {x y : Int} (h : y < 0 ∨ 12 ≤ y) : hlA x y = none := if_neg (by omega)
theorem hlA_in {i j : Nat} (hi : i < 12) (hj : j < 12) : hlA (i : Int) (j : Int) = some (12 * j + i) := by
  unfold hlA
  rw [if_pos (by omega)]
  congr 1
theorem hlA_some {x y : Int} {t : Nat} (e : hlA x y = some t) : t < 144 ∧ (t % 12 : Nat) = x ∧ (t / 12 : Nat) = y := by
  unfold hlA at e
  by_cases c : 0 ≤ x ∧ x < 12 ∧ 0 ≤ y ∧ y < 12
  · rw [if_pos c] at e
    have := Option.some.inj e
    omega
  · rw [if_neg c] at e; cases e
theorem hole_cls (x y : Int32) : Bs_holeAt x y P = some (enc (hlA x.toInt y.toInt)) := by
  unfold Bs_holeAt
  rcases three x 12 (by decide) with o | ⟨i, hi, rfl⟩
  · rw [hlA_x (out_int (by decide) o)]
    rcases o with o | o
    · rw [if_pos o]; rfl
    · rw [if_neg (big_not (by decide) o).1, if_pos (show (12 : Int32) ≤ x from o)]; rfl
  · rw [if_neg (nI_pos (by omega)), if_neg (show ¬ (12 : Int32) ≤ nI i from (show ¬ nI 12 ≤ nI i from nI_ge hi (by decide))), nI_toInt (by omega)]
    rcases three y 12 (by decide) with o | ⟨j, hj, rfl⟩
    · rw [hlA_y (out_int (by decide) o)]
      rcases o with o | o
      · rw [if_pos o]; rfl
      · rw [if_neg (big_not (by decide) o).1, if_neg (show ¬ y < (12 : Int32) from (big_not (N := 12) (by decide) o).2.1)]; rfl
    · rw [if_neg (nI_pos (by omega)), if_pos (show nI j < (12 : Int32) from nI_lt hj (by decide)), nI_toInt (by omega), hlA_in hi hj, show (12 : Int32) = nI 12 from rfl, pk_mul, nI_add]
      rfl
theorem hole_ref (x y : Int32) : ((Mo_within x.toInt64 (0 : Int64) (11 : Int64) P).bind fun (x40 : Int32) => if x40 = 0 then some (-1 : Int32) else (Mo_within y.toInt64 (0 : Int64) (11 : Int64) P).bind fun (x53 : Int32) => if x53 = 0 then some (-1 : Int32) else some (((12 : Int32) * y) + x)) = some (enc (hlA x.toInt y.toInt)) := by
  rcases three x 12 (by decide) with o | ⟨i, hi, rfl⟩
  · rw [hlA_x (out_int (by decide) o), w_out 11 11 (by decide) rfl (by decide) o]
    rfl
  · rw [w_in 11 11 (by decide) rfl (by decide) hi, nI_toInt (by omega), Option.bind_some, if_neg (by decide)]
    rcases three y 12 (by decide) with o | ⟨j, hj, rfl⟩
    · rw [hlA_y (out_int (by decide) o), w_out 11 11 (by decide) rfl (by decide) o]
      rfl
    · rw [w_in 11 11 (by decide) rfl (by decide) hj, nI_toInt (by omega), Option.bind_some, if_neg (by decide), hlA_in hi hj, show (12 : Int32) = nI 12 from rfl, pk_mul, nI_add]
      rfl
def chX (v x y : Nat) : Int := if v = 0 then -(y : Int) else if v = 1 ∨ v = 2 then -(x : Int) else x
def chY (v x y : Nat) : Int := if v = 0 then (x : Int) else if v = 1 ∨ v = 3 then -(y : Int) else y
theorem neg_int {a : Nat} (h : a < 12) : (-(nI a)).toInt = -(a : Int) := by
  rw [fb_negI (by rw [nI_toInt (by omega)]; omega), nI_toInt (by omega)]
theorem mo_chX {v x y : Nat} (hv : v < 4) (hx : x < 12) (hy : y < 12) : ∃ z, Mo_changedX (nI v) (nI x) (nI y) P = some z ∧ z.toInt = chX v x y := by
  rcases (show v = 0 ∨ v = 1 ∨ v = 2 ∨ v = 3 by omega) with rfl | rfl | rfl | rfl
  · exact ⟨_, rfl, neg_int hy⟩
  · exact ⟨_, rfl, neg_int hx⟩
  · exact ⟨_, rfl, neg_int hx⟩
  · exact ⟨_, rfl, nI_toInt (by omega)⟩
theorem mo_chY {v x y : Nat} (hv : v < 4) (hx : x < 12) (hy : y < 12) : ∃ z, Mo_changedY (nI v) (nI x) (nI y) P = some z ∧ z.toInt = chY v x y := by
  rcases (show v = 0 ∨ v = 1 ∨ v = 2 ∨ v = 3 by omega) with rfl | rfl | rfl | rfl
  · exact ⟨_, rfl, nI_toInt (by omega)⟩
  · exact ⟨_, rfl, neg_int hy⟩
  · exact ⟨_, rfl, nI_toInt (by omega)⟩
  · exact ⟨_, rfl, neg_int hy⟩
/-- what the reference's least looks at -/
def vl (w : Nat) (b : Bool) (h : Nat) : Int := if w = 4 then (if b then ((h % 12 : Nat) : Int) else ((h / 12 : Nat) : Int)) else (if b then chX w (h % 12) (h / 12) else chY w (h % 12) (h / 12))
theorem vl_rng {w h : Nat} (b : Bool) (hh : h < 144) : -12 < vl w b h ∧ vl w b h < 12 := by
  unfold vl chX chY
  have a1 : h % 12 < 12 := by omega
  have a2 : h / 12 < 12 := by omega
  split
  · split <;> omega
  · split
    · split
      · omega
      · split <;> omega
    · split
      · omega
      · split <;> omega
theorem least_45 {w : Nat} (hw : w ≤ 4) (b : Bool) {h : Nat} (hh : h < 144) (r6 : Int32 → Int32 → Option Int32) (v3 v4 : Int32) : ∃ z : Int32, Mo_least_45 r6 (nI w) (if b then 0 else 1) v3 v4 (nI h) P = r6 (jMin v3 z) (v4 + 1) ∧ z.toInt = vl w b h := by
  have a1 : h % 12 < 12 := by omega
  have a2 : h / 12 < 12 := by omega
  have e1 : nI h - nI h / (12 : Int32) * (12 : Int32) = nI (h % 12) := pk_rem (a := h) (d := 12) (by omega) (by decide) (by decide)
  have e2 : nI h / (12 : Int32) = nI (h / 12) := pk_div (a := h) (d := 12) (by omega) (by decide) (by decide)
  unfold Mo_least_45 Mo_least_104
  rw [e1, e2]
  simp only [Option.bind_some]
  by_cases c : w = 4
  · rw [if_pos (show nI w = (4 : Int32) by rw [c]; rfl)]
    unfold vl
    cases b
    · exact ⟨nI (h / 12), by rw [if_neg (by decide)], by rw [if_pos c, if_neg (by decide)]; exact nI_toInt (by omega)⟩
    · exact ⟨nI (h % 12), by rw [if_pos (by decide)], by rw [if_pos c, if_pos rfl]; exact nI_toInt (by omega)⟩
  · rw [if_neg (show ¬ nI w = (4 : Int32) from (show ¬ nI w = nI 4 by rw [z_eq (by omega) (by omega)]; exact c))]
    unfold vl
    cases b
    · obtain ⟨z, z1, z2⟩ := mo_chY (P := P) (show w < 4 by omega) a1 a2
      exact ⟨z, by rw [if_neg (by decide), z1]; rfl, by rw [if_neg c, if_neg (by decide)]; exact z2⟩
    · obtain ⟨z, z1, z2⟩ := mo_chX (P := P) (show w < 4 by omega) a1 a2
      exact ⟨z, by rw [if_pos (by decide), z1]; rfl, by rw [if_neg c, if_pos rfl]; exact z2⟩
/-- the ends in the reference's order -/
def en (D : DT) (i : Nat) : Nat := if i % 2 = 0 then dF D (i / 2) else dT D (i / 2)
theorem en_rng (hD : WD D) {i : Nat} (hi : i < 2 * dN D) : en D i < 144 := by
  unfold en
  split
  · exact (hD.2.1 (i / 2) (by omega)).1
  · exact (hD.to (show i / 2 < dN D by omega)).1
def LV (D : DT) (w : Nat) (b : Bool) (k : Nat) (z : Int) : Prop := -12 < z ∧ z ≤ 100 ∧ (∀ i, i < k → z ≤ vl w b (en D i)) ∧ (z = 100 ∨ ∃ i, i < k ∧ z = vl w b (en D i))
theorem jMin_int (x y : Int32) : (jMin x y).toInt = if y.toInt < x.toInt then y.toInt else x.toInt := by
  unfold jMin
  by_cases c : y < x
  · rw [if_pos c, if_pos (by rw [fa_lt] at c; exact c)]
  · rw [if_neg c, if_neg (by rw [fa_lt] at c; exact c)]
theorem LV.next {w k : Nat} {b : Bool} {s z : Int32} (h : LV D w b k s.toInt) (hz : z.toInt = vl w b (en D k)) (hr : en D k < 144) : LV D w b (k + 1) (jMin s z).toInt := by
  obtain ⟨h1, h2, h3, h4⟩ := h
  have r := vl_rng (w := w) b hr
  rw [jMin_int]
  by_cases c : z.toInt < s.toInt
  · rw [if_pos c]
    refine ⟨by omega, by omega, fun i hi => ?_, Or.inr ⟨k, by omega, hz⟩⟩
    by_cases e : i = k
    · rw [e]; omega
    · have := h3 i (by omega); omega
  · rw [if_neg c]
    refine ⟨h1, h2, fun i hi => ?_, ?_⟩
    · by_cases e : i = k
      · rw [e]; omega
      · exact h3 i (by omega)
    · rcases h4 with q | ⟨i, hi, q⟩
      · exact Or.inl q
      · exact Or.inr ⟨i, by omega, q⟩
theorem least_lp (hD : WD D) (hR : RD D (P.1 88)) {w : Nat} (hw : w ≤ 4) (b : Bool) : ∀ (m k n : Nat) (s : Int32), k + m = 2 * dN D → m < n → LV D w b k s.toInt → ∃ s', Mo_least_6 (nI w) (if b then 0 else 1) P n s (nI k) = some s' ∧ LV D w b (2 * dN D) s'.toInt := by
  have h60 := hD.1
  intro m
  induction m with
  | zero =>
    intro k n s hk hn h
    obtain ⟨n, rfl⟩ : ∃ q, n = q + 1 := ⟨n - 1, by omega⟩
    obtain rfl : k = 2 * dN D := by omega
    refine ⟨s, ?_, h⟩
    unfold Mo_least_6
    rw [gd_0, mo_0 hR, show (2 : Int32) * nI (dN D) = nI (2 * dN D) from pk_mul 2 (dN D), if_pos (by rw [z_le (by omega) (by omega)]; exact Nat.le_refl _)]
  | succ m ih =>
    intro k n s hk hn h
    obtain ⟨n, rfl⟩ : ∃ q, n = q + 1 := ⟨n - 1, by omega⟩
    have hr := en_rng hD (show k < 2 * dN D by omega)
    obtain ⟨z, z1, z2⟩ := least_45 (P := P) hw b hr (Mo_least_6 (nI w) (if b then 0 else 1) P n) s (nI k)
    obtain ⟨s', e1, e2⟩ := ih (k + 1) n (jMin s z) (by omega) (by omega) (h.next z2 hr)
    refine ⟨s', ?_, e2⟩
    unfold Mo_least_6
    rw [gd_0, mo_0 hR, show (2 : Int32) * nI (dN D) = nI (2 * dN D) from pk_mul 2 (dN D), if_neg (nI_ge (show k < 2 * dN D by omega) (by omega)),
      show nI k - nI k / (2 : Int32) * (2 : Int32) = nI (k % 2) from pk_rem (a := k) (d := 2) (by omega) (by decide) (by decide), show nI k / (2 : Int32) = nI (k / 2) from pk_div (a := k) (d := 2) (by omega) (by decide) (by decide)]
    rw [show nI k + 1 = nI (k + 1) from nI_1 _] at z1
    by_cases c : k % 2 = 0
    · rw [if_pos (show nI (k % 2) = 0 by rw [c]; rfl), mo_from hD hR (show k / 2 < dN D by omega), Option.bind_some]
      rw [show en D k = dF D (k / 2) from if_pos c] at z1
      rw [z1]; exact e1
    · rw [if_neg (nI_ne0 (by omega) (by omega)), mo_to hD hR (show k / 2 < dN D by omega), Option.bind_some]
      rw [show en D k = dT D (k / 2) from if_neg c] at z1
      rw [z1]; exact e1
theorem mo_least (hD : WD D) (hR : RD D (P.1 88)) {w : Nat} (hw : w ≤ 4) (b : Bool) : ∃ s, Mo_least (nI w) (if b then 0 else 1) P = some s ∧ LV D w b (2 * dN D) s.toInt := by
  have h60 := hD.1
  have h100 : (100 : Int32).toInt = 100 := by decide
  obtain ⟨s, e1, e2⟩ := least_lp hD hR hw b (2 * dN D) 0 bigN 100 (by omega) (big_gt (by omega)) ⟨by rw [h100]; decide, by rw [h100]; decide, fun i hi => by omega, Or.inl h100⟩
  exact ⟨s, e1, e2⟩
/-- the class's box over the ends -/
def BX (D : DT) (a1 a2 b1 b2 k : Nat) : Prop := a1 ≤ 12 ∧ a2 ≤ 11 ∧ b1 ≤ 12 ∧ b2 ≤ 11 ∧ (∀ h, h < k → ∀ l, l < dN D → dat D h l = true → a1 ≤ h % 12 ∧ h % 12 ≤ a2 ∧ b1 ≤ h / 12 ∧ h / 12 ≤ b2) ∧
  ((∃ h, h < k ∧ ∃ l, l < dN D ∧ dat D h l = true) → (∃ h, h < k ∧ (∃ l, l < dN D ∧ dat D h l = true) ∧ h % 12 = a1) ∧ (∃ h, h < k ∧ (∃ l, l < dN D ∧ dat D h l = true) ∧ h % 12 = a2) ∧ (∃ h, h < k ∧ (∃ l, l < dN D ∧ dat D h l = true) ∧ h / 12 = b1) ∧ ∃ h, h < k ∧ (∃ l, l < dN D ∧ dat D h l = true) ∧ h / 12 = b2) ∧
  ((¬ ∃ h, h < k ∧ ∃ l, l < dN D ∧ dat D h l = true) → a1 = 12 ∧ a2 = 0 ∧ b1 = 12 ∧ b2 = 0)
def mx (a b : Nat) : Nat := if a < b then b else a
theorem jMax_n {a b : Nat} (ha : a < 2147483648) (hb : b < 2147483648) : jMax (nI a) (nI b) = nI (mx a b) := by
  unfold jMax mx
  by_cases c : a < b
  · rw [if_pos ((nI_ltI ha hb).mpr c), if_pos c]
  · rw [if_neg (fun q => c ((nI_ltI ha hb).mp q)), if_neg c]
theorem BX.skip {a1 a2 b1 b2 k : Nat} (h : BX D a1 a2 b1 b2 k) (hk : ¬ ∃ l, l < dN D ∧ dat D k l = true) : BX D a1 a2 b1 b2 (k + 1) := by
  obtain ⟨h1, h2, h3, h4, h5, h6, h7⟩ := h
  have w : ∀ h, h < k + 1 → (∃ l, l < dN D ∧ dat D h l = true) → h < k := fun h hh q => by
    rcases Nat.lt_or_ge h k with z | z
    · exact z
    · exact absurd (show ∃ l, l < dN D ∧ dat D k l = true by rw [show k = h by omega]; exact q) hk
  have u : ∀ {p : Nat → Prop}, (∃ h, h < k ∧ p h) → ∃ h, h < k + 1 ∧ p h := fun ⟨h, a, b⟩ => ⟨h, by omega, b⟩
  refine ⟨h1, h2, h3, h4, fun h hh l hl q => h5 h (w h hh ⟨l, hl, q⟩) l hl q, fun ⟨h, hh, q⟩ => ?_, fun q => h7 (fun ⟨h, hh, r⟩ => q ⟨h, by omega, r⟩)⟩
  obtain ⟨g1, g2, g3, g4⟩ := h6 ⟨h, w h hh q, q⟩
  exact ⟨u g1, u g2, u g3, u g4⟩
theorem BX.next {a1 a2 b1 b2 k : Nat} (h : BX D a1 a2 b1 b2 k) (hk9 : k < 144) (hk : ∃ l, l < dN D ∧ dat D k l = true) : BX D (mn a1 (k % 12)) (mx a2 (k % 12)) (mn b1 (k / 12)) (mx b2 (k / 12)) (k + 1) := by
  obtain ⟨h1, h2, h3, h4, h5, h6, h7⟩ := h
  have m1 : mn a1 (k % 12) ≤ a1 ∧ mn a1 (k % 12) ≤ k % 12 ∧ (mn a1 (k % 12) = a1 ∨ mn a1 (k % 12) = k % 12) := by unfold mn; split <;> omega
  have m2 : a2 ≤ mx a2 (k % 12) ∧ k % 12 ≤ mx a2 (k % 12) ∧ (mx a2 (k % 12) = a2 ∨ mx a2 (k % 12) = k % 12) := by unfold mx; split <;> omega
  have m3 : mn b1 (k / 12) ≤ b1 ∧ mn b1 (k / 12) ≤ k / 12 ∧ (mn b1 (k / 12) = b1 ∨ mn b1 (k / 12) = k / 12) := by unfold mn; split <;> omega
  have m4 : b2 ≤ mx b2 (k / 12) ∧ k / 12 ≤ mx b2 (k / 12) ∧ (mx b2 (k / 12) = b2 ∨ mx b2 (k / 12) = k / 12) := by unfold mx; split <;> omega
  generalize mn a1 (k % 12) = A1 at *
  generalize mx a2 (k % 12) = A2 at *
  generalize mn b1 (k / 12) = B1 at *
  generalize mx b2 (k / 12) = B2 at *
  refine ⟨by omega, by omega, by omega, by omega, fun h hh l hl q => ?_, fun _ => ?_, fun q => absurd ⟨k, by omega, hk⟩ q⟩
  · by_cases e : h = k
    · subst e; omega
    · have := h5 h (by omega) l hl q; omega
  · by_cases c : ∃ h, h < k ∧ ∃ l, l < dN D ∧ dat D h l = true
    · obtain ⟨⟨g1, c1, d1, e1⟩, ⟨g2, c2, d2, e2⟩, ⟨g3, c3, d3, e3⟩, ⟨g4, c4, d4, e4⟩⟩ := h6 c
      refine ⟨?_, ?_, ?_, ?_⟩
      · rcases m1.2.2 with z | z
        · exact ⟨g1, by omega, d1, by omega⟩
        · exact ⟨k, by omega, hk, by omega⟩
      · rcases m2.2.2 with z | z
        · exact ⟨g2, by omega, d2, by omega⟩
        · exact ⟨k, by omega, hk, by omega⟩
      · rcases m3.2.2 with z | z
        · exact ⟨g3, by omega, d3, by omega⟩
        · exact ⟨k, by omega, hk, by omega⟩
      · rcases m4.2.2 with z | z
        · exact ⟨g4, by omega, d4, by omega⟩
        · exact ⟨k, by omega, hk, by omega⟩
    · obtain ⟨z1, z2, z3, z4⟩ := h7 c
      have k1 : k % 12 < 12 := by omega
      have k2 : k / 12 < 12 := by omega
      refine ⟨⟨k, by omega, hk, by omega⟩, ⟨k, by omega, hk, by omega⟩, ⟨k, by omega, hk, by omega⟩, ⟨k, by omega, hk, by omega⟩⟩
theorem box_lp (hD : WD D) {d : Nat} (hC : CD d D P) (v1 : Int32) : ∀ (m k n a1 a2 b1 b2 : Nat), k + m = 144 → m < n → BX D a1 a2 b1 b2 k → ∃ A1 A2 B1 B2, Dr_likeItself_15 d v1 P n (nI a1) (nI a2) (nI b1) (nI b2) (nI k) = Dr_likeItself_87 d v1 (nI A1) (nI A2) (nI B1) (nI B2) P bigN (0 : Int32) ∧ BX D A1 A2 B1 B2 144 := by
  have h60 := hD.1
  intro m
  induction m with
  | zero =>
    intro k n a1 a2 b1 b2 hk hn h
    obtain ⟨n, rfl⟩ : ∃ q, n = q + 1 := ⟨n - 1, by omega⟩
    obtain rfl : k = 144 := by omega
    refine ⟨a1, a2, b1, b2, ?_, h⟩
    unfold Dr_likeItself_15
    rw [if_pos (by decide)]
  | succ m ih =>
    intro k n a1 a2 b1 b2 hk hn h
    obtain ⟨n, rfl⟩ : ∃ q, n = q + 1 := ⟨n - 1, by omega⟩
    have hk9 : k < 144 := by omega
    have bits := hC.2.2.2.2.1 k hk9
    by_cases c : ∃ l, l < dN D ∧ dat D k l = true
    · obtain ⟨A1, A2, B1, B2, e1, e2⟩ := ih (k + 1) n _ _ _ _ (by omega) (by omega) (h.next hk9 c)
      refine ⟨A1, A2, B1, B2, ?_, e2⟩
      obtain ⟨h1, h2, h3, h4, -⟩ := h
      unfold Dr_likeItself_15
      rw [if_neg (show ¬ (144 : Int32) ≤ nI k from (show ¬ nI 144 ≤ nI k from nI_ge hk9 (by decide))), dr_linesAt hk9, Option.bind_some, if_neg (fun q => by
        obtain ⟨l, hl, da⟩ := c
        have := (lgz _).mp q l (by omega)
        rw [bits l (by omega), da] at this
        simp [hl] at this), show nI k - nI k / (12 : Int32) * (12 : Int32) = nI (k % 12) from pk_rem (a := k) (d := 12) (by omega) (by decide) (by decide), show nI k / (12 : Int32) = nI (k / 12) from pk_div (a := k) (d := 12) (by omega) (by decide) (by decide),
        jMin_n (by omega) (by omega), jMin_n (by omega) (by omega), jMax_n (by omega) (by omega), jMax_n (by omega) (by omega), show nI k + 1 = nI (k + 1) from nI_1 _, Option.bind_some, Option.bind_some, Option.bind_some, Option.bind_some]
      exact e1
    · obtain ⟨A1, A2, B1, B2, e1, e2⟩ := ih (k + 1) n a1 a2 b1 b2 (by omega) (by omega) (h.skip c)
      refine ⟨A1, A2, B1, B2, ?_, e2⟩
      unfold Dr_likeItself_15
      rw [if_neg (show ¬ (144 : Int32) ≤ nI k from (show ¬ nI 144 ≤ nI k from nI_ge hk9 (by decide))), dr_linesAt hk9, Option.bind_some, if_pos ((lgz _).mpr (fun l hl => by
        rw [bits l hl]
        by_cases q : l < dN D
        · have : dat D k l = false := ts_nt (fun r => c ⟨l, q, r⟩)
          simp [this]
        · simp [q])), show nI k + 1 = nI (k + 1) from nI_1 _]
      exact e1
end ALK
