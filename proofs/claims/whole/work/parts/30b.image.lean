/-! IMAGES: copies -/
section CPY
variable {D : DT} {N : NT} {P : PH}
theorem RD.cp {T T' : Nat → Int32} (hD : WD D) (h : RD D T) (e : ∀ k, k < 512 → T' k = T k) : RD D T' := by
  have h60 := hD.1
  obtain ⟨h1, h2, h3⟩ := h
  refine ⟨by rw [e 0 (by decide)]; exact h1, fun l hl => ?_, fun x hx => by rw [e _ (by omega)]; exact h3 x hx⟩
  rw [e _ (by omega), e _ (by omega), e _ (by omega)]
  exact h2 l hl
theorem RN.cp {T T' : Nat → Int32} (hD : WD D) (hN : WN D N) (h : RN D N T) (e : ∀ k, k < 512 → T' k = T k) : RN D N T' := by
  have h60 := hD.1
  obtain ⟨h1, h2, h3, h4⟩ := h
  refine ⟨fun l hl => by rw [e _ (by omega)]; exact h1 l hl, by rw [e 1 (by decide)]; exact h2, by rw [e 2 (by decide)]; exact h3, fun ht => ?_⟩
  have hM := (hN ht).2.2.1
  rw [e 3 (by decide), e 4 (by decide), e 5 (by decide), e 6 (by decide)]
  obtain ⟨g1, g2, g3, g4, g5⟩ := h4 ht
  exact ⟨g1, g2, g3, g4, fun k hk => by rw [e _ (by omega)]; exact g5 k hk⟩
theorem CD.cp {Q : PH} {d e : Nat} (hD : WD D) (h : CD e D P) (h0 : Q.1 d 0 = P.1 e 0) (h1 : Q.1 d 1 = P.1 e 1) (h2 : ∀ j, j < 60 → Q.1 (d + 1) j = P.1 (e + 1) j) (h3 : ∀ j, j < 60 → Q.1 (d + 2) j = P.1 (e + 2) j) (h4 : ∀ j, j < 60 → Q.1 (d + 3) j = P.1 (e + 3) j)
    (h5 : ∀ j, j < 1152 → Q.1 (d + 4) j = P.1 (e + 4) j) (h6 : ∀ j, j < 144 → Q.2 (d + 5) j = P.2 (e + 5) j) (h7 : ∀ j, j < 4 → Q.2 (d + 6) j = P.2 (e + 6) j) (h8 : ∀ j, j < 144 → Q.1 (d + 7) j = P.1 (e + 7) j) : CD d D Q := by
  have h60 := hD.1
  obtain ⟨a0, a1, a2, a3, a4, a5, a6⟩ := h
  refine ⟨h0.trans a0, h1.trans a1, fun l hl => ?_, fun x hx w hw => ?_, fun x hx => ?_, fun k hk => ?_, fun x hx => ?_⟩
  · rw [h2 l (by omega), h3 l (by omega), h4 l (by omega)]; exact a2 l hl
  · rw [h5 _ (by omega)]; exact a3 x hx w hw
  · rw [h6 x hx]; exact a4 x hx
  · rw [h7 k hk]; exact a5 k hk
  · rw [h8 x hx]; exact a6 x hx
theorem CN.cp {Q : PH} {d e : Nat} (hN : WN D N) (h : CN e D N P) (h0 : Q.2 d 0 = P.2 e 0) (h1 : Q.2 d 1 = P.2 e 1) (h2 : ∀ j, 2 ≤ j → j < 9 → Q.1 d j = P.1 e j) (h3 : ∀ j, j < 120 → Q.1 (d + 1) j = P.1 (e + 1) j) : CN d D N Q := by
  obtain ⟨a0, a1, a2, a3, a4, a5⟩ := h
  refine ⟨by rw [h0]; exact a0, by rw [h1]; exact a1, by rw [h2 2 (by omega) (by omega)]; exact a2, by rw [h2 7 (by omega) (by omega)]; exact a3, by rw [h2 8 (by omega) (by omega)]; exact a4, fun ht => ?_⟩
  have hM := (hN ht).2.2.1
  obtain ⟨g1, g2, g3, g4, g5, g6⟩ := a5 ht
  rw [h2 3 (by omega) (by omega), h2 4 (by omega) (by omega), h2 5 (by omega) (by omega), h2 6 (by omega) (by omega), h2 8 (by omega) (by omega)]
  exact ⟨g1, g2, g3, g4, g5, fun k hk => by rw [h3 k (by omega)]; exact g6 k hk⟩
theorem dr_copy {t v : Nat} (hd : t + 8 ≤ v ∨ v + 8 ≤ t) (hD : WD D) (h : CD v D P) : ∃ Q, Dr_copy t v P = some Q ∧ CD t D Q ∧ ∀ n, n < t ∨ t + 8 ≤ n → Q.1 n = P.1 n ∧ Q.2 n = P.2 n := by
  obtain ⟨P1, h1⟩ : ∃ P1, P1 = sI P t 0 (P.1 v 0) := ⟨_, rfl⟩
  obtain ⟨P2, h2⟩ : ∃ P2, P2 = sI P1 t 1 (P1.1 v 1) := ⟨_, rfl⟩
  obtain ⟨P3, h3⟩ : ∃ P3, P3 = rI P2 (t + 1) (fun j => if j < 60 then P2.1 (v + 1) j else P2.1 (t + 1) j) := ⟨_, rfl⟩
  obtain ⟨P4, h4⟩ : ∃ P4, P4 = rI P3 (t + 2) (fun j => if j < 60 then P3.1 (v + 2) j else P3.1 (t + 2) j) := ⟨_, rfl⟩
  obtain ⟨P5, h5⟩ : ∃ P5, P5 = rI P4 (t + 3) (fun j => if j < 60 then P4.1 (v + 3) j else P4.1 (t + 3) j) := ⟨_, rfl⟩
  obtain ⟨P6, h6⟩ : ∃ P6, P6 = rI P5 (t + 4) (fun j => if j < 1152 then P5.1 (v + 4) j else P5.1 (t + 4) j) := ⟨_, rfl⟩
  obtain ⟨P7, h7⟩ : ∃ P7, P7 = rL P6 (t + 5) (fun j => if j < 144 then P6.2 (v + 5) j else P6.2 (t + 5) j) := ⟨_, rfl⟩
  obtain ⟨P8, h8⟩ : ∃ P8, P8 = rL P7 (t + 6) (fun j => if j < 4 then P7.2 (v + 6) j else P7.2 (t + 6) j) := ⟨_, rfl⟩
  obtain ⟨P9, h9⟩ : ∃ P9, P9 = rI P8 (t + 7) (fun j => if j < 144 then P8.1 (v + 7) j else P8.1 (t + 7) j) := ⟨_, rfl⟩
  have i1 : ∀ m, m ≠ t → P1.1 m = P.1 m := fun m hm => by rw [h1]; exact rowI_o _ _ _ hm
  have i2 : ∀ m, m ≠ t → P2.1 m = P.1 m := fun m hm => by rw [h2, rowI_o _ _ _ hm]; exact i1 m hm
  have i3 : ∀ m, m ≠ t + 1 → P3.1 m = P2.1 m := fun m hm => by rw [h3]; exact rI_o _ _ hm
  have i4 : ∀ m, m ≠ t + 2 → P4.1 m = P3.1 m := fun m hm => by rw [h4]; exact rI_o _ _ hm
  have i5 : ∀ m, m ≠ t + 3 → P5.1 m = P4.1 m := fun m hm => by rw [h5]; exact rI_o _ _ hm
  have i6 : ∀ m, m ≠ t + 4 → P6.1 m = P5.1 m := fun m hm => by rw [h6]; exact rI_o _ _ hm
  have i7 : P7.1 = P6.1 := by rw [h7]; rfl
  have i8 : P8.1 = P7.1 := by rw [h8]; rfl
  have i9 : ∀ m, m ≠ t + 7 → P9.1 m = P8.1 m := fun m hm => by rw [h9]; exact rI_o _ _ hm
  have l6 : P6.2 = P.2 := by rw [h6, h5, h4, h3, h2, h1]; rfl
  have l7 : ∀ m, m ≠ t + 5 → P7.2 m = P.2 m := fun m hm => by rw [h7, rL_o _ _ hm, l6]
  have l8 : ∀ m, m ≠ t + 6 → P8.2 m = P7.2 m := fun m hm => by rw [h8]; exact rL_o _ _ hm
  have l9 : P9.2 = P8.2 := by rw [h9]; rfl
  have rt : P9.1 t = P2.1 t := by rw [i9 t (by omega), i8, i7, i6 t (by omega), i5 t (by omega), i4 t (by omega), i3 t (by omega)]
  refine ⟨P9, ?_, h.cp hD ?_ ?_ (fun j hj => ?_) (fun j hj => ?_) (fun j hj => ?_) (fun j hj => ?_) (fun j hj => ?_) (fun j hj => ?_) (fun j hj => ?_), fun n hn => ⟨?_, ?_⟩⟩
  · unfold Dr_copy
    rw [Option.bind_some, ← h1, Option.bind_some, ← h2, Option.bind_some, ← h3, Option.bind_some, ← h4, Option.bind_some, ← h5, Option.bind_some, ← h6, Option.bind_some, ← h7, Option.bind_some, ← h8, Option.bind_some, ← h9]
  · rw [rt, h2, rowI_s, pk_un (by decide), h1, rowI_s, pk_us]
  · rw [rt, h2, rowI_s, pk_us, i1 v (by omega)]
  · rw [i9 _ (by omega), i8, i7, i6 _ (by omega), i5 _ (by omega), i4 _ (by omega), h3, rI_s]
    show (if j < 60 then P2.1 (v + 1) j else P2.1 (t + 1) j) = _
    rw [if_pos hj, i2 _ (by omega)]
  · rw [i9 _ (by omega), i8, i7, i6 _ (by omega), i5 _ (by omega), h4, rI_s]
    show (if j < 60 then P3.1 (v + 2) j else P3.1 (t + 2) j) = _
    rw [if_pos hj, i3 _ (by omega), i2 _ (by omega)]
  · rw [i9 _ (by omega), i8, i7, i6 _ (by omega), h5, rI_s]
    show (if j < 60 then P4.1 (v + 3) j else P4.1 (t + 3) j) = _
    rw [if_pos hj, i4 _ (by omega), i3 _ (by omega), i2 _ (by omega)]
  · rw [i9 _ (by omega), i8, i7, h6, rI_s]
    show (if j < 1152 then P5.1 (v + 4) j else P5.1 (t + 4) j) = _
    rw [if_pos hj, i5 _ (by omega), i4 _ (by omega), i3 _ (by omega), i2 _ (by omega)]
  · rw [l9, l8 _ (by omega), h7, rL_s]
    show (if j < 144 then P6.2 (v + 5) j else P6.2 (t + 5) j) = _
    rw [if_pos hj, l6]
  · rw [l9, h8, rL_s]
    show (if j < 4 then P7.2 (v + 6) j else P7.2 (t + 6) j) = _
    rw [if_pos hj, l7 _ (by omega)]
  · rw [h9, rI_s]
    show (if j < 144 then P8.1 (v + 7) j else P8.1 (t + 7) j) = _
    rw [if_pos hj, i8, i7, i6 _ (by omega), i5 _ (by omega), i4 _ (by omega), i3 _ (by omega), i2 _ (by omega)]
  · rw [i9 _ (by omega), i8, i7, i6 _ (by omega), i5 _ (by omega), i4 _ (by omega), i3 _ (by omega), i2 _ (by omega)]
  · rw [l9, l8 _ (by omega), l7 _ (by omega)]
theorem ne_copy {t v : Nat} (hd : t + 2 ≤ v ∨ v + 2 ≤ t) (hN : WN D N) (h : CN v D N P) : ∃ Q, Ne_copy t v P = some Q ∧ CN t D N Q ∧ onlyN t P Q := by
  obtain ⟨P1, h1⟩ : ∃ P1, P1 = sL P t 0 (P.2 v 0) := ⟨_, rfl⟩
  obtain ⟨P2, h2⟩ : ∃ P2, P2 = sL P1 t 1 (P1.2 v 1) := ⟨_, rfl⟩
  obtain ⟨P3, h3⟩ : ∃ P3, P3 = sI P2 t 2 (P2.1 v 2) := ⟨_, rfl⟩
  obtain ⟨P4, h4⟩ : ∃ P4, P4 = sI P3 t 3 (P3.1 v 3) := ⟨_, rfl⟩
  obtain ⟨P5, h5⟩ : ∃ P5, P5 = sI P4 t 4 (P4.1 v 4) := ⟨_, rfl⟩
  obtain ⟨P6, h6⟩ : ∃ P6, P6 = sI P5 t 5 (P5.1 v 5) := ⟨_, rfl⟩
  obtain ⟨P7, h7⟩ : ∃ P7, P7 = sI P6 t 6 (P6.1 v 6) := ⟨_, rfl⟩
  obtain ⟨P8, h8⟩ : ∃ P8, P8 = sI P7 t 7 (P7.1 v 7) := ⟨_, rfl⟩
  obtain ⟨P9, h9⟩ : ∃ P9, P9 = sI P8 t 8 (P8.1 v 8) := ⟨_, rfl⟩
  obtain ⟨Q, hQ⟩ : ∃ Q, Q = rI P9 (t + 1) (fun j => if j < 120 then P9.1 (v + 1) j else P9.1 (t + 1) j) := ⟨_, rfl⟩
  have i2 : P2.1 = P.1 := by rw [h2, h1]; rfl
  have i3 : ∀ m, m ≠ t → P3.1 m = P.1 m := fun m hm => by rw [h3, rowI_o _ _ _ hm, i2]
  have i4 : ∀ m, m ≠ t → P4.1 m = P.1 m := fun m hm => by rw [h4, rowI_o _ _ _ hm, i3 m hm]
  have i5 : ∀ m, m ≠ t → P5.1 m = P.1 m := fun m hm => by rw [h5, rowI_o _ _ _ hm, i4 m hm]
  have i6 : ∀ m, m ≠ t → P6.1 m = P.1 m := fun m hm => by rw [h6, rowI_o _ _ _ hm, i5 m hm]
  have i7 : ∀ m, m ≠ t → P7.1 m = P.1 m := fun m hm => by rw [h7, rowI_o _ _ _ hm, i6 m hm]
  have i8 : ∀ m, m ≠ t → P8.1 m = P.1 m := fun m hm => by rw [h8, rowI_o _ _ _ hm, i7 m hm]
  have i9 : ∀ m, m ≠ t → P9.1 m = P.1 m := fun m hm => by rw [h9, rowI_o _ _ _ hm, i8 m hm]
  have iQ : ∀ m, m ≠ t + 1 → Q.1 m = P9.1 m := fun m hm => by rw [hQ]; exact rI_o _ _ hm
  have r9 : P9.1 t = upd (upd (upd (upd (upd (upd (upd (P.1 t) 2 (P.1 v 2)) 3 (P.1 v 3)) 4 (P.1 v 4)) 5 (P.1 v 5)) 6 (P.1 v 6)) 7 (P.1 v 7)) 8 (P.1 v 8) := by
    rw [h9, rowI_s, i8 v (by omega), h8, rowI_s, i7 v (by omega), h7, rowI_s, i6 v (by omega), h6, rowI_s, i5 v (by omega), h5, rowI_s, i4 v (by omega), h4, rowI_s, i3 v (by omega), h3, rowI_s, i2]
  have l2 : Q.2 = P2.2 := by rw [hQ, h9, h8, h7, h6, h5, h4, h3]; rfl
  have l1 : ∀ m, m ≠ t → P1.2 m = P.2 m := fun m hm => by rw [h1]; exact rowL_o _ _ _ hm
  refine ⟨Q, ?_, h.cp hN ?_ ?_ (fun j a b => ?_) (fun j hj => ?_), fun n a b => ?_, fun n a => ?_⟩
  · unfold Ne_copy
    rw [Option.bind_some, ← h1, Option.bind_some, ← h2]
    have g2 : gdP (P2.1 v 2 = 0 ∨ P2.1 v 2 = 1) = (fun (o : Option PH) => o) := funext (fun o => if_pos (by rw [i2, h.2.2.1]; cases xT N; exact Or.inl rfl; exact Or.inr rfl))
    rw [g2]
    show (some (sI P2 t 2 (P2.1 v 2))).bind _ = _
    rw [Option.bind_some, ← h3, Option.bind_some, ← h4, Option.bind_some, ← h5, Option.bind_some, ← h6, Option.bind_some, ← h7, Option.bind_some, ← h8]
    have g8 : gdP (P8.1 v 8 = 0 ∨ P8.1 v 8 = 1) = (fun (o : Option PH) => o) := funext (fun o => if_pos (by rw [i8 v (by omega)]; exact h.2.2.2.2.1))
    rw [g8]
    show (some (sI P8 t 8 (P8.1 v 8))).bind _ = _
    rw [Option.bind_some, ← h9, Option.bind_some, ← hQ]
  · rw [l2, h2, rowL_s, pk_uLn (by decide), h1, rowL_s, pk_uLs]
  · rw [l2, h2, rowL_s, pk_uLs, l1 v (by omega)]
  · rw [iQ t (by omega), r9]
    rcases (show j = 2 ∨ j = 3 ∨ j = 4 ∨ j = 5 ∨ j = 6 ∨ j = 7 ∨ j = 8 by omega) with rfl | rfl | rfl | rfl | rfl | rfl | rfl <;> simp [upd]
  · rw [hQ, rI_s]
    show (if j < 120 then P9.1 (v + 1) j else P9.1 (t + 1) j) = _
    rw [if_pos hj, i9 _ (by omega)]
  · rw [iQ n b, i9 n a]
  · rw [l2, h2, rowL_o _ _ _ a, l1 n a]
theorem image_38 {i : Nat} (hi : i < 3) : ∀ (m k n : Nat) (P : PH), k + m = 512 → m < n → (∀ j, j < k → P.1 90 (512 * i + j) = P.1 88 j) → ∃ Q, Mo_image_38 (nI i) n (nI k) P = some Q ∧ Q.2 = P.2 ∧ (∀ a, a ≠ 90 → Q.1 a = P.1 a) ∧ (∀ a, (a < 512 * i ∨ 512 * i + 512 ≤ a) → Q.1 90 a = P.1 90 a) ∧ ∀ j, j < 512 → Q.1 90 (512 * i + j) = P.1 88 j := by
  intro m
  induction m with
  | zero =>
    intro k n P hk hn h
    obtain ⟨n, rfl⟩ : ∃ q, n = q + 1 := ⟨n - 1, by omega⟩
    obtain rfl : k = 512 := by omega
    refine ⟨P, ?_, rfl, fun _ _ => rfl, fun _ _ => rfl, h⟩
    unfold Mo_image_38
    rw [if_pos (by decide)]
  | succ m ih =>
    intro k n P hk hn h
    obtain ⟨n, rfl⟩ : ∃ q, n = q + 1 := ⟨n - 1, by omega⟩
    have hk5 : k < 512 := by omega
    obtain ⟨Q, e1, e2, e3, e4, e5⟩ := ih (k + 1) n (sI P 90 (512 * i + k) (P.1 88 k)) (by omega) (by omega) (fun j hj => by
      rw [rowI_s, rowI_o _ _ _ (by decide)]
      by_cases q : j = k
      · rw [q, pk_us]
      · rw [pk_un (by omega)]; exact h j (by omega))
    refine ⟨Q, ?_, e2, fun a ha => by rw [e3 a ha, rowI_o _ _ _ ha], fun a ha => by rw [e4 a ha, rowI_s, pk_un (by omega)], fun j hj => by rw [e5 j hj, rowI_o _ _ _ (by decide)]⟩
    unfold Mo_image_38
    rw [if_neg (show ¬ (512 : Int32) ≤ nI k from (show ¬ nI 512 ≤ nI k from nI_ge hk5 (by decide))), show ((512 : Int32) * nI i) + nI k = nI (512 * i + k) from by rw [show (512 : Int32) = nI 512 from rfl, pk_mul, nI_add], z_gd hk5 (by decide), z_gd (show 512 * i + k < 1536 by omega) (by decide), z_cl (show 512 * i + k < 2147483648 by omega), z_cl (show k < 2147483648 by omega), Option.bind_some, show nI k + 1 = nI (k + 1) from nI_1 _]
    exact e1
theorem restore_44 {i : Nat} (hi : i < 3) : ∀ (m k n : Nat) (P : PH), k + m = 512 → m < n → (∀ j, j < k → P.1 88 j = P.1 90 (512 * i + j)) → ∃ Q, Mo_restore_44 (nI i) n (nI k) P = some Q ∧ only88 P Q ∧ ∀ j, j < 512 → Q.1 88 j = P.1 90 (512 * i + j) := by
  intro m
  induction m with
  | zero =>
    intro k n P hk hn h
    obtain ⟨n, rfl⟩ : ∃ q, n = q + 1 := ⟨n - 1, by omega⟩
    obtain rfl : k = 512 := by omega
    refine ⟨P, ?_, only88.rf P, h⟩
    unfold Mo_restore_44
    rw [if_pos (by decide)]
  | succ m ih =>
    intro k n P hk hn h
    obtain ⟨n, rfl⟩ : ∃ q, n = q + 1 := ⟨n - 1, by omega⟩
    have hk5 : k < 512 := by omega
    obtain ⟨Q, e1, e2, e3⟩ := ih (k + 1) n (sI P 88 k (P.1 90 (512 * i + k))) (by omega) (by omega) (fun j hj => by
      rw [rowI_s, rowI_o _ _ _ (by decide)]
      by_cases q : j = k
      · rw [q, pk_us]
      · rw [pk_un q]; exact h j (by omega))
    refine ⟨Q, ?_, ((only88.rf P).s _ _).tr e2, fun j hj => by rw [e3 j hj, rowI_o _ _ _ (by decide)]⟩
    unfold Mo_restore_44
    rw [if_neg (show ¬ (512 : Int32) ≤ nI k from (show ¬ nI 512 ≤ nI k from nI_ge hk5 (by decide))), show ((512 : Int32) * nI i) + nI k = nI (512 * i + k) from by rw [show (512 : Int32) = nI 512 from rfl, pk_mul, nI_add], z_gd (show 512 * i + k < 1536 by omega) (by decide), z_gd hk5 (by decide), z_cl (show k < 2147483648 by omega), z_cl (show 512 * i + k < 2147483648 by omega), Option.bind_some, show nI k + 1 = nI (k + 1) from nI_1 _]
    exact e1
end CPY
