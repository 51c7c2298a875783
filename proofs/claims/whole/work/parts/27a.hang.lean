/-! WHAT HANGS TOGETHER -/
def shr (D : DT) (i j : Nat) : Prop := ∃ x, dat D x i = true ∧ dat D x j = true
def Cl (D : DT) (S : Nat → Bool) (h l : Nat) : Prop := ∀ C : Nat → Prop, (∀ i, i < dN D → S i = true → dat D h i = true → C i) → (∀ i j, C i → i < dN D → j < dN D → S i = true → S j = true → shr D i j → C j) → C l
section CLO
variable {D : DT} {S : Nat → Bool} {h : Nat}
theorem dat_F (D : DT) (l : Nat) : dat D (dF D l) l = true := dat_iff.mpr (Or.inl rfl)
theorem dat_T (D : DT) (l : Nat) : dat D (dT D l) l = true := dat_iff.mpr (Or.inr rfl)
theorem Cl.base {l : Nat} (hl : l < dN D) (hs : S l = true) (ha : dat D h l = true) : Cl D S h l := fun _ b _ => b l hl hs ha
theorem Cl.mem {l : Nat} (hc : Cl D S h l) : l < dN D ∧ S l = true := hc (fun l => l < dN D ∧ S l = true) (fun _ a b _ => ⟨a, b⟩) (fun _ _ _ _ a _ b _ => ⟨a, b⟩)
theorem Cl.step {i j : Nat} (hc : Cl D S h i) (hj : j < dN D) (sj : S j = true) (s : shr D i j) : Cl D S h j := fun C b t => t i j (hc C b t) hc.mem.1 hj hc.mem.2 sj s
theorem shr_or {i j : Nat} (s : shr D i j) : dat D (dF D i) j = true ∨ dat D (dT D i) j = true := by
  obtain ⟨x, a, b⟩ := s
  rcases dat_iff.mp a with q | q
  · rw [q]; exact Or.inl b
  · rw [q]; exact Or.inr b
theorem shr.sym {i j : Nat} (s : shr D i j) : shr D j i := by
  obtain ⟨x, a, b⟩ := s
  exact ⟨x, b, a⟩
theorem Cl.self {l : Nat} (hl : l < dN D) (hs : S l = true) : Cl D S (dF D l) l := Cl.base hl hs (dat_F D l)
/-- from line to line -/
theorem Cl.tr {i j k : Nat} (hi : Cl D S (dF D i) j) (hj : Cl D S (dF D j) k) : Cl D S (dF D i) k :=
  hj (Cl D S (dF D i)) (fun a ha sa da => hi.step ha sa ⟨dF D j, dat_F D j, da⟩) (fun a b ca _ hb _ sb s => ca.step hb sb s)
theorem Cl.sym {i j : Nat} (hi : i < dN D) (si : S i = true) (h : Cl D S (dF D i) j) : Cl D S (dF D j) i :=
  h (fun j => Cl D S (dF D j) i) (fun a ha sa da => (Cl.self ha sa).step hi si ⟨dF D i, da, dat_F D i⟩) (fun a b ca ha hb sa sb s => Cl.tr (j := a) ((Cl.self hb sb).step ha sa s.sym) ca)
theorem ct_in {p : Nat → Bool} {i n : Nat} (hi : i < n) (h0 : p i = false) : fb_ct (fun k => if k = i then true else p k) n = fb_ct p n + 1 := by
  have := fb_ct_upd p true hi
  rw [h0] at this
  simpa using this
end CLO
section TOG
variable {d : Nat} {D : DT} {P : PH} {S : Nat → Bool} {h : Nat} {x : Int64}
theorem tog_lp (hD : WD D) (hC : CD d D P) (hx : ∀ i, i < 64 → bL x i = (decide (i < dN D) && S i)) : ∀ (m k n : Nat) (g f : Int64), k + m = 60 → m < n →
    (∀ i, i < 64 → bL f i = true → bL g i = true) → (∀ i, i < 64 → bL g i = true → Cl D S h i) → (∀ i, i < dN D → S i = true → dat D h i = true → bL g i = true) →
    (∀ i j, i < dN D → j < dN D → bL g i = true → bL f i = false → S j = true → shr D i j → bL g j = true) → fb_ct (fun i => bL g i && !bL f i) 60 = k →
    ∃ y, Dr_together_16 d x P n g f (nI k) = some y ∧ ∀ i, i < 64 → (bL y i = true ↔ Cl D S h i) := by
  have h60 := hD.1
  have fin : ∀ g f : Int64, (∀ i, i < 64 → bL g i = true → Cl D S h i) → (∀ i, i < dN D → S i = true → dat D h i = true → bL g i = true) → (∀ i j, i < dN D → j < dN D → bL g i = true → bL f i = false → S j = true → shr D i j → bL g j = true) → (∀ i, i < 64 → bL f i = false) → ∀ i, i < 64 → (bL g i = true ↔ Cl D S h i) := by
    intro g f I2 I3 I4 hf i hi
    refine ⟨I2 i hi, fun hc => hc (fun l => bL g l = true) I3 (fun a b ca ha hb sa sb s => I4 a b ha hb ca (hf a (by omega)) sb s)⟩
  intro m
  induction m with
  | zero =>
    intro k n g f hk hn I1 I2 I3 I4 I5
    obtain ⟨n, rfl⟩ : ∃ q, n = q + 1 := ⟨n - 1, by omega⟩
    obtain rfl : k = 60 := by omega
    refine ⟨g, ?_, fin g f I2 I3 I4 (fun i hi => ?_)⟩
    · unfold Dr_together_16
      rw [if_pos (by decide)]
    · rcases Nat.lt_or_ge i 60 with c | c
      · have := fb_ct_all.mp I5 i c
        simp only [Bool.and_eq_true, Bool.not_eq_true'] at this
        exact this.2
      · refine ts_nt (fun q => ?_)
        have := (I2 i hi (I1 i hi q)).mem.1
        omega
  | succ m ih =>
    intro k n g f hk hn I1 I2 I3 I4 I5
    obtain ⟨n, rfl⟩ : ∃ q, n = q + 1 := ⟨n - 1, by omega⟩
    have hk6 : k < 60 := by omega
    by_cases hz : ∃ i, i < 64 ∧ bL f i = true
    · obtain ⟨i, hi, h1, h2⟩ := low_of hz
      have ci := I2 i hi (I1 i hi h1)
      obtain ⟨hiD, hiS⟩ := ci.mem
      have hF := (hD.2.1 i hiD).1
      have hT := (hD.to hiD).1
      have bW : ∀ j, j < 64 → (bL (((P.2 (d + 5) (dF D i) ||| P.2 (d + 5) (dT D i)) &&& x) &&& (g ^^^ (-1))) j = true ↔ j < dN D ∧ S j = true ∧ (dat D (dF D i) j = true ∨ dat D (dT D i) j = true) ∧ bL g j = false) := by
        intro j hj
        rw [bL_and, bL_and, bL_or, bL_not _ hj, hC.2.2.2.2.1 _ hF j hj, hC.2.2.2.2.1 _ hT j hj, hx j hj]
        simp only [Bool.and_eq_true, Bool.or_eq_true, decide_eq_true_eq, Bool.not_eq_true']
        constructor
        · rintro ⟨⟨a, b, c⟩, e⟩
          refine ⟨b, c, ?_, e⟩
          rcases a with a | a
          · exact Or.inl a.2
          · exact Or.inr a.2
        · rintro ⟨b, c, a, e⟩
          refine ⟨⟨?_, b, c⟩, e⟩
          rcases a with a | a
          · exact Or.inl ⟨b, a⟩
          · exact Or.inr ⟨b, a⟩
      obtain ⟨W, hW⟩ : ∃ W, W = ((P.2 (d + 5) (dF D i) ||| P.2 (d + 5) (dT D i)) &&& x) &&& (g ^^^ (-1)) := ⟨_, rfl⟩
      rw [← hW] at bW
      have bg : ∀ j, bL (g ||| W) j = (bL g j || bL W j) := fun j => bL_or _ _ _
      have bf : ∀ j, bL ((f &&& (f - 1)) ||| W) j = ((bL f j && !decide (j = i)) || bL W j) := fun j => by rw [bL_or, bL_clear h1 h2]
      have W0 : ∀ j, j < 64 → bL g j = true → bL W j = false := fun j hj q => ts_nt (fun r => by rw [((bW j hj).mp r).2.2.2] at q; cases q)
      have e := ih (k + 1) n (g ||| W) ((f &&& (f - 1)) ||| W) (by omega) (by omega) ?_ ?_ ?_ ?_ ?_
      · obtain ⟨y, e1, e2⟩ := e
        refine ⟨y, ?_, e2⟩
        unfold Dr_together_16
        rw [if_neg (show ¬ (60 : Int32) ≤ nI k from (show ¬ nI 60 ≤ nI k from nI_ge hk6 (by decide))), if_neg (fun q => by rw [(lgz f).mp q i hi] at h1; cases h1), low_is hi h1 h2]
        simp only [Option.bind_some]
        rw [dr_from hD hC hiD]
        simp only [Option.bind_some]
        rw [dr_linesAt hF, dr_to hD hC hiD]
        simp only [Option.bind_some]
        rw [dr_linesAt hT]
        simp only [Option.bind_some]
        rw [← hW, show nI k + 1 = nI (k + 1) from nI_1 _]
        exact e1
      · intro j hj q
        rw [bf] at q
        rw [bg]
        simp only [Bool.or_eq_true, Bool.and_eq_true] at q ⊢
        rcases q with q | q
        · exact Or.inl (I1 j hj q.1)
        · exact Or.inr q
      · intro j hj q
        rw [bg] at q
        simp only [Bool.or_eq_true] at q
        rcases q with q | q
        · exact I2 j hj q
        · obtain ⟨w1, w2, w3, -⟩ := (bW j hj).mp q
          rcases w3 with w | w
          · exact ci.step w1 w2 ⟨_, dat_F D i, w⟩
          · exact ci.step w1 w2 ⟨_, dat_T D i, w⟩
      · intro j hj sj dj
        rw [bg, I3 j hj sj dj]
        rfl
      · intro a b ha hb ga fa sb s
        rw [bg] at ga ⊢
        rw [bf] at fa
        simp only [Bool.or_eq_false_iff, Bool.and_eq_false_iff, Bool.not_eq_false'] at fa
        obtain ⟨f1, f2⟩ := fa
        rw [f2, Bool.or_false] at ga
        by_cases c : a = i
        · subst c
          by_cases gb : bL g b = true
          · rw [gb]; rfl
          · have : bL W b = true := (bW b (by omega)).mpr ⟨hb, sb, shr_or s, ts_nt gb⟩
            rw [this]; exact Bool.or_true _
        · rcases f1 with q | q
          · rw [I4 a b ha hb ga q sb s]; rfl
          · exact absurd (of_decide_eq_true q) c
      · have hp : (bL g i && !bL f i) = false := by rw [h1]; simp
        rw [← I5, ← ct_in (p := fun i => bL g i && !bL f i) (show i < 60 by omega) hp]
        refine fb_ct_cong (fun j hj => ?_)
        rw [bg, bf]
        by_cases c : j = i
        · rw [if_pos c, c, I1 i hi h1, W0 i hi (I1 i hi h1)]
          simp
        · rw [if_neg c]
          cases cW : bL W j
          · simp [c]
          · have : bL g j = false := ((bW j (by omega)).mp cW).2.2.2
            rw [this]
            simp
    · have hf : ∀ i, i < 64 → bL f i = false := fun i hi => ts_nt (fun q => hz ⟨i, hi, q⟩)
      refine ⟨g, ?_, fin g f I2 I3 I4 hf⟩
      unfold Dr_together_16
      rw [if_neg (show ¬ (60 : Int32) ≤ nI k from (show ¬ nI 60 ≤ nI k from nI_ge hk6 (by decide))), if_pos ((lgz f).mpr hf)]
theorem tog (hD : WD D) (hC : CD d D P) (hh : h < 144) (hx : ∀ i, i < 64 → bL x i = (decide (i < dN D) && S i)) : ∃ y, Dr_together d x (nI h) P = some y ∧ ∀ i, i < 64 → (bL y i = true ↔ Cl D S h i) := by
  have h60 := hD.1
  have bg : ∀ i, i < 64 → (bL (P.2 (d + 5) h &&& x) i = true ↔ i < dN D ∧ S i = true ∧ dat D h i = true) := by
    intro i hi
    rw [bL_and, hC.2.2.2.2.1 _ hh i hi, hx i hi]
    simp only [Bool.and_eq_true, decide_eq_true_eq]
    constructor
    · rintro ⟨⟨a, b⟩, -, c⟩
      exact ⟨a, c, b⟩
    · rintro ⟨a, c, b⟩
      exact ⟨⟨a, b⟩, a, c⟩
  obtain ⟨y, e1, e2⟩ := tog_lp (S := S) (h := h) hD hC hx 60 0 bigN (P.2 (d + 5) h &&& x) (P.2 (d + 5) h &&& x) rfl (big_gt (by omega)) (fun i hi q => q)
    (fun i hi q => Cl.base ((bg i hi).mp q).1 ((bg i hi).mp q).2.1 ((bg i hi).mp q).2.2) (fun i hi s q => (bg i (by omega)).mpr ⟨hi, s, q⟩) (fun a b _ _ q r => by rw [q] at r; cases r)
    (fb_ct_zero.mpr (fun i _ => by simp))
  refine ⟨y, ?_, e2⟩
  unfold Dr_together
  rw [dr_linesAt hh]
  simp only [Option.bind_some]
  rw [show (0 : Int32) = nI 0 from rfl]
  exact e1
end TOG
