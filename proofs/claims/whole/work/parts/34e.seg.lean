/-! DRAWING: the class's script and the reference's codes, side by side -/
def drB (A : Nat → Nat → Int32) (i e : Nat) : Prop := ∃ k w, i < k ∧ k < e ∧ w < 8 ∧ A 67 k = nI w
def SIM (A : Nat → Nat → Int32) (M : Nat → Int32) (i i' ci ci' : Nat) : Prop := i' = i + 1 ∧ ci' = ci + 1 ∧ ∃ w o t : Nat, w < 11 ∧ A 67 i = nI w ∧ A 68 i = nI o ∧ A 69 i = nI t ∧ M (4 * ci) = nI w ∧ M (4 * ci + 1) = nI (if w = 8 ∨ w = 10 then 12 * t + o else o) ∧ (w < 8 → 1 ≤ o ∧ o ≤ 11 ∧ ∃ b : Nat, A 70 i = nI b ∧ M (4 * ci + 3) = nI b) ∧ (w = 9 → o < 4) ∧ (w = 8 ∨ w = 10 → o < 12 ∧ t < 12)
def BLO (A : Nat → Nat → Int32) (M : Nat → Int32) (R : Nat → Nat → Nat → Nat → Prop) (d i i' ci ci' : Nat) : Prop := ∃ w r cb : Nat, 11 ≤ w ∧ w < 14 ∧ 1 ≤ r ∧ r ≤ 12 ∧ d < 5 ∧ ci' = cb + 1 ∧ A 67 i = nI w ∧ A 69 i = nI i' ∧ ((drB A i i' ∧ A 68 i = nI r) ∨ (¬ drB A i i' ∧ A 68 i = nI 1)) ∧ M (4 * ci) = nI w ∧ M (4 * ci + 1) = nI r ∧ M (4 * cb) = nI 14 ∧ R (i + 1) i' (ci + 1) cb
def SG (A : Nat → Nat → Int32) (M : Nat → Int32) : Nat → Nat → Nat → Nat → Nat → Nat → Prop
  | 0 => fun _ i j ci cj => i = j ∧ ci = cj
  | g + 1 => fun d i j ci cj => (i = j ∧ ci = cj) ∨ ∃ i' ci', (SIM A M i i' ci ci' ∨ BLO A M (SG A M g (d + 1)) d i i' ci ci') ∧ SG A M g d i' j ci' cj
section SEG
variable {A A' : Nat → Nat → Int32} {M M' : Nat → Int32}
theorem BLO.mo {R R' : Nat → Nat → Nat → Nat → Prop} (h : ∀ a b c e, R a b c e → R' a b c e) {d i i' ci ci' : Nat} (b : BLO A M R d i i' ci ci') : BLO A M R' d i i' ci ci' := by
  obtain ⟨w, r, cb, a1, a2, a3, a4, a5, a6, a7, a8, a9, b1, b2, b3, b4⟩ := b
  exact ⟨w, r, cb, a1, a2, a3, a4, a5, a6, a7, a8, a9, b1, b2, b3, h _ _ _ _ b4⟩
theorem SG_rf : ∀ (g d i ci : Nat), SG A M g d i i ci ci
  | 0, _, _, _ => ⟨rfl, rfl⟩
  | _ + 1, _, _, _ => Or.inl ⟨rfl, rfl⟩
theorem SG_le : ∀ (g d i j ci cj : Nat), SG A M g d i j ci cj → i ≤ j ∧ ci ≤ cj
  | 0, _, _, _, _, _, h => ⟨Nat.le_of_eq h.1, Nat.le_of_eq h.2⟩
  | g + 1, d, i, j, ci, cj, h => by
    rcases h with h | ⟨i', ci', h1, h2⟩
    · exact ⟨Nat.le_of_eq h.1, Nat.le_of_eq h.2⟩
    · have e := SG_le g _ _ _ _ _ h2
      rcases h1 with h1 | h1
      · have := h1.1; have := h1.2.1; omega
      · obtain ⟨w, r, cb, a1, a2, a3, a4, a5, a6, a7, a8, a9, b1, b2, b3, b4⟩ := h1
        have := SG_le g _ _ _ _ _ b4
        omega
theorem SG_up : ∀ (g d i j ci cj : Nat), SG A M g d i j ci cj → SG A M (g + 1) d i j ci cj
  | 0, _, _, _, _, _, h => Or.inl h
  | g + 1, d, i, j, ci, cj, h => by
    rcases h with h | ⟨i', ci', h1, h2⟩
    · exact Or.inl h
    · refine Or.inr ⟨i', ci', ?_, SG_up g _ _ _ _ _ h2⟩
      rcases h1 with h1 | h1
      · exact Or.inl h1
      · exact Or.inr (h1.mo (fun a b c e => SG_up g _ a b c e))
theorem SG_mo {g g' d i j ci cj : Nat} (hg : g ≤ g') (h : SG A M g d i j ci cj) : SG A M g' d i j ci cj := by
  obtain ⟨m, rfl⟩ : ∃ m, g' = g + m := ⟨g' - g, by omega⟩
  clear hg
  induction m with
  | zero => exact h
  | succ m ih => exact SG_up _ _ _ _ _ _ ih
theorem SG_app : ∀ (g g' d i j k ci cj ck : Nat), SG A M g d i j ci cj → SG A M g' d j k cj ck → SG A M (g + g') d i k ci ck
  | 0, g', d, i, j, k, ci, cj, ck, h, h' => by
    obtain ⟨e1, e2⟩ := h
    rw [e1, e2]
    exact SG_mo (by omega) h'
  | g + 1, g', d, i, j, k, ci, cj, ck, h, h' => by
    rcases h with ⟨e1, e2⟩ | ⟨i', ci', h1, h2⟩
    · rw [e1, e2]
      exact SG_mo (by omega) h'
    · rw [show g + 1 + g' = (g + g') + 1 by omega]
      refine Or.inr ⟨i', ci', ?_, SG_app g g' _ _ _ _ _ _ _ h2 h'⟩
      rcases h1 with h1 | h1
      · exact Or.inl h1
      · exact Or.inr (h1.mo (fun a b c e z => SG_mo (by omega) z))
theorem drB_cong {i e : Nat} (h : ∀ k, i < k → k < e → A' 67 k = A 67 k) : drB A' i e ↔ drB A i e := ⟨fun ⟨k, w, a, b, c, x⟩ => ⟨k, w, a, b, c, (h k a b) ▸ x⟩, fun ⟨k, w, a, b, c, x⟩ => ⟨k, w, a, b, c, (h k a b).trans x⟩⟩
theorem SG_cong : ∀ (g d i j ci cj : Nat), (∀ r k, 67 ≤ r → r ≤ 70 → i ≤ k → k < j → A' r k = A r k) → (∀ x, 4 * ci ≤ x → x < 4 * cj → M' x = M x) → SG A M g d i j ci cj → SG A' M' g d i j ci cj
  | 0, _, _, _, _, _, _, _, h => h
  | g + 1, d, i, j, ci, cj, hA, hM, h => by
    rcases h with h | ⟨i', ci', h1, h2⟩
    · exact Or.inl h
    · have l2 := SG_le g _ _ _ _ _ h2
      rcases h1 with h1 | h1
      · obtain ⟨e1, e2, w, o, t, a1, a2, a3, a4, a5, a6, a7, a8, a9⟩ := h1
        refine Or.inr ⟨i', ci', Or.inl ⟨e1, e2, w, o, t, a1, ?_, ?_, ?_, ?_, ?_, fun z => ?_, a8, a9⟩, SG_cong g _ _ _ _ _ (fun r k b1 b2 b3 b4 => hA r k b1 b2 (by omega) b4) (fun x b1 b2 => hM x (by omega) b2) h2⟩
        · rw [hA 67 i (by omega) (by omega) (by omega) (by omega)]; exact a2
        · rw [hA 68 i (by omega) (by omega) (by omega) (by omega)]; exact a3
        · rw [hA 69 i (by omega) (by omega) (by omega) (by omega)]; exact a4
        · rw [hM (4 * ci) (by omega) (by omega)]; exact a5
        · rw [hM (4 * ci + 1) (by omega) (by omega)]; exact a6
        · obtain ⟨c1, c2, b, c3, c4⟩ := a7 z
          exact ⟨c1, c2, b, by rw [hA 70 i (by omega) (by omega) (by omega) (by omega)]; exact c3, by rw [hM (4 * ci + 3) (by omega) (by omega)]; exact c4⟩
      · obtain ⟨w, r, cb, a1, a2, a3, a4, a5, a6, a7, a8, a9, b1, b2, b3, b4⟩ := h1
        have l1 := SG_le g _ _ _ _ _ b4
        refine Or.inr ⟨i', ci', Or.inr ⟨w, r, cb, a1, a2, a3, a4, a5, a6, ?_, ?_, ?_, ?_, ?_, ?_, SG_cong g _ _ _ _ _ (fun r k b1 b2 b3 b4 => hA r k b1 b2 (by omega) (by omega)) (fun x b1 b2 => hM x (by omega) (by omega)) b4⟩, SG_cong g _ _ _ _ _ (fun r k b1 b2 b3 b4 => hA r k b1 b2 (by omega) b4) (fun x b1 b2 => hM x (by omega) b2) h2⟩
        · rw [hA 67 i (by omega) (by omega) (by omega) (by omega)]; exact a7
        · rw [hA 69 i (by omega) (by omega) (by omega) (by omega)]; exact a8
        · rw [hA 68 i (by omega) (by omega) (by omega) (by omega), drB_cong (fun k x y => hA 67 k (by omega) (by omega) (by omega) (by omega))]; exact a9
        · rw [hM (4 * ci) (by omega) (by omega)]; exact b1
        · rw [hM (4 * ci + 1) (by omega) (by omega)]; exact b2
        · rw [hM (4 * cb) (by omega) (by omega)]; exact b3
theorem SG_w : ∀ (g d i j ci cj : Nat), SG A M g d i j ci cj → ∀ k, i ≤ k → k < j → ∃ w : Nat, w < 14 ∧ A 67 k = nI w
  | 0, _, _, _, _, _, h => fun k a b => by have := h.1; omega
  | g + 1, d, i, j, ci, cj, h => fun k a b => by
    rcases h with h | ⟨i', ci', h1, h2⟩
    · have := h.1; omega
    · by_cases c : i' ≤ k
      · exact SG_w g _ _ _ _ _ h2 k c b
      · rcases h1 with h1 | h1
        · obtain ⟨e1, e2, w, o, t, a1, a2, -⟩ := h1
          exact ⟨w, by omega, (show k = i by omega) ▸ a2⟩
        · obtain ⟨w, r, cb, a1, a2, a3, a4, a5, a6, a7, a8, a9, b1, b2, b3, b4⟩ := h1
          by_cases z : k = i
          · exact ⟨w, a2, z ▸ a7⟩
          · exact SG_w g _ _ _ _ _ b4 k (by omega) (by omega)
end SEG
