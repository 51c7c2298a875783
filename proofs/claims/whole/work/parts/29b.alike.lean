/-! ALIKE: the test of the lines -/
section ALK2
variable {D : DT} {N : NT} {P Q : PH}
def endO (D : DT) (h : Nat) : Prop := ∃ l, l < dN D ∧ dat D h l = true
theorem en_end {i : Nat} (hi : i < 2 * dN D) : endO D (en D i) := by
  refine ⟨i / 2, by omega, ?_⟩
  unfold en
  split
  · exact dat_F D _
  · exact dat_T D _
theorem end_en {h : Nat} (e : endO D h) : ∃ i, i < 2 * dN D ∧ en D i = h := by
  obtain ⟨l, hl, q⟩ := e
  rcases dat_iff.mp q with q | q
  · refine ⟨2 * l, by omega, ?_⟩
    unfold en
    rw [if_pos (by omega), show 2 * l / 2 = l by omega]
    exact q
  · refine ⟨2 * l + 1, by omega, ?_⟩
    unfold en
    rw [if_neg (by omega), show (2 * l + 1) / 2 = l by omega]
    exact q
theorem end_lt (hD : WD D) {h : Nat} (e : endO D h) : h < 144 := by
  obtain ⟨i, hi, rfl⟩ := end_en e
  exact en_rng hD hi
theorem LV.all (hD : WD D) {w : Nat} {b : Bool} {z : Int} (h : LV D w b (2 * dN D) z) {e : Nat} (he : endO D e) : (∀ x, endO D x → z ≤ vl w b x) ∧ ∃ x, endO D x ∧ z = vl w b x := by
  obtain ⟨h1, h2, h3, h4⟩ := h
  have g : ∀ x, endO D x → z ≤ vl w b x := fun x hx => by
    obtain ⟨i, hi, r⟩ := end_en hx
    have := h3 i hi
    rw [r] at this
    exact this
  refine ⟨g, ?_⟩
  rcases h4 with q | ⟨i, hi, q⟩
  · have a := g e he
    have b := (vl_rng (w := w) b (end_lt hD he)).2
    omega
  · exact ⟨_, en_end hi, q⟩
theorem BX.all (hD : WD D) {A1 A2 B1 B2 : Nat} (h : BX D A1 A2 B1 B2 144) {e : Nat} (he : endO D e) : (∀ x, endO D x → A1 ≤ x % 12 ∧ x % 12 ≤ A2 ∧ B1 ≤ x / 12 ∧ x / 12 ≤ B2) ∧ (∃ x, endO D x ∧ x % 12 = A1) ∧ (∃ x, endO D x ∧ x % 12 = A2) ∧ (∃ x, endO D x ∧ x / 12 = B1) ∧ ∃ x, endO D x ∧ x / 12 = B2 := by
  obtain ⟨h1, h2, h3, h4, h5, h6, -⟩ := h
  obtain ⟨⟨x1, a1, c1, d1⟩, ⟨x2, a2, c2, d2⟩, ⟨x3, a3, c3, d3⟩, ⟨x4, a4, c4, d4⟩⟩ := h6 ⟨e, end_lt hD he, he⟩
  exact ⟨fun x ⟨l, hl, q⟩ => h5 x (end_lt hD ⟨l, hl, q⟩) l hl q, ⟨x1, c1, d1⟩, ⟨x2, c2, d2⟩, ⟨x3, c3, d3⟩, x4, c4, d4⟩
theorem vl4 (h : Nat) : vl 4 true h = ((h % 12 : Nat) : Int) ∧ vl 4 false h = ((h / 12 : Nat) : Int) := ⟨rfl, rfl⟩
theorem vl_0 (h : Nat) : vl 0 true h = -((h / 12 : Nat) : Int) ∧ vl 0 false h = ((h % 12 : Nat) : Int) := ⟨rfl, rfl⟩
theorem vl_1 (h : Nat) : vl 1 true h = -((h % 12 : Nat) : Int) ∧ vl 1 false h = -((h / 12 : Nat) : Int) := ⟨rfl, rfl⟩
theorem vl_2 (h : Nat) : vl 2 true h = -((h % 12 : Nat) : Int) ∧ vl 2 false h = ((h / 12 : Nat) : Int) := ⟨rfl, rfl⟩
theorem vl_3 (h : Nat) : vl 3 true h = ((h % 12 : Nat) : Int) ∧ vl 3 false h = -((h / 12 : Nat) : Int) := ⟨rfl, rfl⟩
/-- a least over the ends, of one that grows with f -/
theorem lv_up (hD : WD D) {w : Nat} {b : Bool} {z : Int} (h : LV D w b (2 * dN D) z) {e : Nat} (he : endO D e) {f : Nat → Nat} (hf : ∀ x, vl w b x = ((f x : Nat) : Int)) {A : Nat} (h1 : ∀ x, endO D x → A ≤ f x) (h2 : ∃ x, endO D x ∧ f x = A) : z = A := by
  obtain ⟨g1, x, hx, g2⟩ := h.all hD he
  obtain ⟨y, hy, r⟩ := h2
  have a := g1 y hy
  have c := h1 x hx
  rw [hf] at a g2
  omega
theorem lv_dn (hD : WD D) {w : Nat} {b : Bool} {z : Int} (h : LV D w b (2 * dN D) z) {e : Nat} (he : endO D e) {f : Nat → Nat} (hf : ∀ x, vl w b x = -((f x : Nat) : Int)) {A : Nat} (h1 : ∀ x, endO D x → f x ≤ A) (h2 : ∃ x, endO D x ∧ f x = A) : z = -(A : Int) := by
  obtain ⟨g1, x, hx, g2⟩ := h.all hD he
  obtain ⟨y, hy, r⟩ := h2
  have a := g1 y hy
  have c := h1 x hx
  rw [hf] at a g2
  omega
theorem int3 {a b c : Nat} (ha : a ≤ 12) (hb : b ≤ 12) (hc : c ≤ 12) : ((nI a + nI b) - nI c).toInt = (a : Int) + b - c := by
  rw [nI_add, fb_subI (by rw [nI_toInt (by omega), nI_toInt (by omega)]; omega) (by rw [nI_toInt (by omega), nI_toInt (by omega)]; omega), nI_toInt (by omega), nI_toInt (by omega)]
  omega
theorem ch_ref {w h : Nat} (hw : w < 4) (hh : h < 144) {u v : Int32} (hu : -24 ≤ u.toInt ∧ u.toInt ≤ 24) (hv : -24 ≤ v.toInt ∧ v.toInt ≤ 24) : Mo_changed (nI h) (nI w) u v Q = some (enc (hlA (chX w (h % 12) (h / 12) + u.toInt) (chY w (h % 12) (h / 12) + v.toInt))) := by
  have a1 : h % 12 < 12 := by omega
  have a2 : h / 12 < 12 := by omega
  obtain ⟨z, z1, z2⟩ := mo_chX (P := Q) hw a1 a2
  obtain ⟨y, y1, y2⟩ := mo_chY (P := Q) hw a1 a2
  have rx : -12 < chX w (h % 12) (h / 12) ∧ chX w (h % 12) (h / 12) < 12 := by unfold chX; split; omega; split <;> omega
  have ry : -12 < chY w (h % 12) (h / 12) ∧ chY w (h % 12) (h / 12) < 12 := by unfold chY; split; omega; split <;> omega
  have ez : (z + u).toInt = chX w (h % 12) (h / 12) + u.toInt := by rw [fb_addI (by rw [z2]; omega) (by rw [z2]; omega), z2]
  have ey : (y + v).toInt = chY w (h % 12) (h / 12) + v.toInt := by rw [fb_addI (by rw [y2]; omega) (by rw [y2]; omega), y2]
  rw [← ez, ← ey, ← hole_ref (P := Q)]
  unfold Mo_changed
  rw [show nI h - nI h / (12 : Int32) * (12 : Int32) = nI (h % 12) from pk_rem (a := h) (d := 12) (by omega) (by decide) (by decide), show nI h / (12 : Int32) = nI (h / 12) from pk_div (a := h) (d := 12) (by omega) (by decide) (by decide), z1, Option.bind_some, Option.bind_some, y1, Option.bind_some, Option.bind_some]
theorem ch_cls {w h A1 A2 B1 B2 : Nat} (hw : w < 4) (hh : h < 144) (k1 : A1 ≤ 12) (k2 : A2 ≤ 11) (k3 : B1 ≤ 12) (k4 : B2 ≤ 11) :
    Dr_changed (nI h) (nI w) (nI A1) (nI A2) (nI B1) (nI B2) P = some (enc (hlA (if w = 0 then (A1 : Int) + B2 - (h / 12 : Nat) else if w = 3 then ((h % 12 : Nat) : Int) else (A1 : Int) + A2 - (h % 12 : Nat)) (if w = 0 then (B1 : Int) + (h % 12 : Nat) - A1 else if w = 2 then ((h / 12 : Nat) : Int) else (B1 : Int) + B2 - (h / 12 : Nat)))) := by
  have a1 : h % 12 < 12 := by omega
  have a2 : h / 12 < 12 := by omega
  unfold Dr_changed
  rw [show nI h - nI h / (12 : Int32) * (12 : Int32) = nI (h % 12) from pk_rem (a := h) (d := 12) (by omega) (by decide) (by decide), show nI h / (12 : Int32) = nI (h / 12) from pk_div (a := h) (d := 12) (by omega) (by decide) (by decide), Option.bind_some, Option.bind_some]
  rcases (show w = 0 ∨ w = 1 ∨ w = 2 ∨ w = 3 by omega) with rfl | rfl | rfl | rfl
  · rw [if_pos (by decide), hole_cls, int3 (by omega) (by omega) (by omega), int3 (by omega) (by omega) (by omega)]
    rfl
  · rw [if_neg (by decide), if_pos (by decide), hole_cls, int3 (by omega) (by omega) (by omega), int3 (by omega) (by omega) (by omega)]
    rfl
  · rw [if_neg (by decide), if_neg (by decide), if_pos (by decide), hole_cls, int3 (by omega) (by omega) (by omega), nI_toInt (by omega)]
    rfl
  · rw [if_neg (by decide), if_neg (by decide), if_neg (by decide), hole_cls, int3 (by omega) (by omega) (by omega), nI_toInt (by omega)]
    rfl
theorem ch_both (hD : WD D) {w : Nat} (hw : w < 4) {A1 A2 B1 B2 : Nat} (hB : BX D A1 A2 B1 B2 144) {x4 xw y4 yw : Int32} (h1 : LV D 4 true (2 * dN D) x4.toInt) (h2 : LV D w true (2 * dN D) xw.toInt) (h3 : LV D 4 false (2 * dN D) y4.toInt) (h4 : LV D w false (2 * dN D) yw.toInt) {h : Nat} (he : endO D h) :
    ∃ X Y : Int, Mo_changed (nI h) (nI w) (x4 - xw) (y4 - yw) Q = some (enc (hlA X Y)) ∧ Dr_changed (nI h) (nI w) (nI A1) (nI A2) (nI B1) (nI B2) P = some (enc (hlA X Y)) := by
  have hh := end_lt hD he
  obtain ⟨bx, e1, e2, e3, e4⟩ := hB.all hD he
  obtain ⟨k1, k2, k3, k4, -⟩ := hB
  have p1 := lv_up hD h1 he (fun x => (vl4 x).1) (fun x hx => (bx x hx).1) e1
  have p3 := lv_up hD h3 he (fun x => (vl4 x).2) (fun x hx => (bx x hx).2.2.1) e3
  have ux : (x4 - xw).toInt = x4.toInt - xw.toInt := fb_subI (by have := h2.1; have := h2.2.1; omega) (by have := h2.1; have := h2.2.1; omega)
  have uy : (y4 - yw).toInt = y4.toInt - yw.toInt := fb_subI (by have := h4.1; have := h4.2.1; omega) (by have := h4.1; have := h4.2.1; omega)
  rw [ch_cls hw hh k1 k2 k3 k4]
  rcases (show w = 0 ∨ w = 1 ∨ w = 2 ∨ w = 3 by omega) with rfl | rfl | rfl | rfl
  · have p2 := lv_dn hD h2 he (fun x => (vl_0 x).1) (fun x hx => (bx x hx).2.2.2) e4
    have p4 := lv_up hD h4 he (fun x => (vl_0 x).2) (fun x hx => (bx x hx).1) e1
    refine ⟨_, _, ?_, rfl⟩
    rw [ch_ref hw hh (by omega) (by omega), ux, uy, p1, p2, p3, p4]
    unfold chX chY
    simp only [if_true]
    congr 3 <;> omega
  · have p2 := lv_dn hD h2 he (fun x => (vl_1 x).1) (fun x hx => (bx x hx).2.1) e2
    have p4 := lv_dn hD h4 he (fun x => (vl_1 x).2) (fun x hx => (bx x hx).2.2.2) e4
    refine ⟨_, _, ?_, rfl⟩
    rw [ch_ref hw hh (by omega) (by omega), ux, uy, p1, p2, p3, p4]
    show some (enc (hlA (-((h % 12 : Nat) : Int) + ((A1 : Int) - -(A2 : Int))) (-((h / 12 : Nat) : Int) + ((B1 : Int) - -(B2 : Int))))) = some (enc (hlA ((A1 : Int) + A2 - (h % 12 : Nat)) ((B1 : Int) + B2 - (h / 12 : Nat))))
    congr 3 <;> omega
  · have p2 := lv_dn hD h2 he (fun x => (vl_2 x).1) (fun x hx => (bx x hx).2.1) e2
    have p4 := lv_up hD h4 he (fun x => (vl_2 x).2) (fun x hx => (bx x hx).2.2.1) e3
    refine ⟨_, _, ?_, rfl⟩
    rw [ch_ref hw hh (by omega) (by omega), ux, uy, p1, p2, p3, p4]
    show some (enc (hlA (-((h % 12 : Nat) : Int) + ((A1 : Int) - -(A2 : Int))) (((h / 12 : Nat) : Int) + ((B1 : Int) - (B1 : Int))))) = some (enc (hlA ((A1 : Int) + A2 - (h % 12 : Nat)) ((h / 12 : Nat) : Int)))
    congr 3 <;> omega
  · have p2 := lv_up hD h2 he (fun x => (vl_3 x).1) (fun x hx => (bx x hx).1) e1
    have p4 := lv_dn hD h4 he (fun x => (vl_3 x).2) (fun x hx => (bx x hx).2.2.2) e4
    refine ⟨_, _, ?_, rfl⟩
    rw [ch_ref hw hh (by omega) (by omega), ux, uy, p1, p2, p3, p4]
    show some (enc (hlA (((h % 12 : Nat) : Int) + ((A1 : Int) - (A1 : Int))) (-((h / 12 : Nat) : Int) + ((B1 : Int) - -(B2 : Int))))) = some (enc (hlA ((h % 12 : Nat) : Int) ((B1 : Int) + B2 - (h / 12 : Nat))))
    congr 3 <;> omega
/-- the line between two holes, if they are holes -/
def btw (D : DT) : Option Nat → Option Nat → Option Nat
  | some a, some b => fsp (jn D a b) (dN D)
  | _, _ => none
theorem ln_m1 {d : Nat} : Dr_linesAt d m1 P = some 0 := by
  unfold Dr_linesAt
  rw [if_pos (by decide)]
theorem dr_between (hD : WD D) {d : Nat} (hC : CD d D P) (A B : Option Nat) (hA : ∀ a, A = some a → a < 144) (hB : ∀ b, B = some b → b < 144) : Dr_lineBetween d (enc A) (enc B) P = some (enc (btw D A B)) := by
  have h60 := hD.1
  have z0 : ∀ (c : Prop) [Decidable c] (x : Int64) (f : Option Int32), (∀ i, i < 64 → bL x i = false) → (if c then some (-1 : Int32) else if lg_cmp x 0 = 0 then some (-1 : Int32) else f) = some (enc none) := by
    intro c _ x f hx
    rw [if_pos ((lgz x).mpr hx)]
    split <;> rfl
  have ex : ∀ B : Option Nat, (∀ b, B = some b → b < 144) → ∃ y, Dr_linesAt d (enc B) P = some y := fun B hB => by
    cases B with
    | none => exact ⟨_, ln_m1⟩
    | some b => exact ⟨_, dr_linesAt (hB b rfl)⟩
  unfold Dr_lineBetween
  cases A with
  | none =>
    obtain ⟨y, hy⟩ := ex B hB
    rw [show (enc none : Int32) = m1 from rfl, ln_m1, hy, Option.bind_some, Option.bind_some, Option.bind_some]
    exact z0 _ _ _ (fun i _ => by rw [bL_and, bL_0]; rfl)
  | some a =>
    cases B with
    | none =>
      rw [show (enc none : Int32) = m1 from rfl, ln_m1, show enc (some a) = nI a from rfl, dr_linesAt (hA a rfl), Option.bind_some, Option.bind_some, Option.bind_some]
      exact z0 _ _ _ (fun i _ => by rw [bL_and, bL_0, Bool.and_false])
    | some b =>
      have ha := hA a rfl
      have hb := hB b rfl
      show (Dr_linesAt d (nI a) P).bind _ = some (enc (fsp (jn D a b) (dN D)))
      rw [dr_linesAt ha, Option.bind_some, show enc (some b) = nI b from rfl, dr_linesAt hb, Option.bind_some, Option.bind_some, show enc (some a) = nI a from rfl]
      by_cases c : a = b
      · rw [if_pos (by rw [c]), fsp_no (fun j hj => ts_nt (fun q => by
          have := (hD.to hj).2
          rcases jn_iff.mp q with r | r <;> omega))]
        rfl
      · rw [if_neg (by rw [z_eq (by omega) (by omega)]; exact c)]
        have bits : ∀ j, j < 64 → (bL (P.2 (d + 5) a &&& P.2 (d + 5) b) j = true ↔ j < dN D ∧ jn D a b j = true) := by
          intro j hj
          rw [bL_and, hC.2.2.2.2.1 a ha j hj, hC.2.2.2.2.1 b hb j hj, jn_iff]
          simp only [Bool.and_eq_true, decide_eq_true_eq, dat_iff]
          omega
        by_cases e : ∃ j, j < 64 ∧ bL (P.2 (d + 5) a &&& P.2 (d + 5) b) j = true
        · obtain ⟨i, hi, g1, g2⟩ := low_of e
          obtain ⟨i1, i2⟩ := (bits i hi).mp g1
          rw [if_neg (fun q => by rw [(lgz _).mp q i hi] at g1; cases g1), low_is hi g1 g2, Option.bind_some, fsp_is i1 i2 (fun j hj => ts_nt (fun q => by
            have := (bits j (by omega)).mpr ⟨by omega, q⟩
            rw [g2 j hj] at this; cases this))]
          rfl
        · have hz : ∀ j, j < 64 → bL (P.2 (d + 5) a &&& P.2 (d + 5) b) j = false := fun j hj => ts_nt (fun q => e ⟨j, hj, q⟩)
          rw [if_pos ((lgz _).mpr hz), fsp_no (fun j hj => ts_nt (fun q => by
            have := (bits j (by omega)).mpr ⟨hj, q⟩
            rw [hz j (by omega)] at this; cases this))]
          rfl
end ALK2
