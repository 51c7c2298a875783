/-! THREADS: where one thread can be: the reference -/
theorem ts_true {x : Bool} (h : ¬ x = false) : x = true := by cases x <;> first | rfl | exact absurd rfl h
def zE (s h : Nat) (v : Bool) : Nat := 24 * s + 2 * h + bv v
theorem zE_dec {s h : Nat} {v : Bool} (hh : h < 12) : zE s h v / 24 = s ∧ zE s h v % 24 / 2 = h ∧ zE s h v % 2 = bv v := by
  have := bv_lt v
  unfold zE
  omega
theorem zE_inj {s h s' h' : Nat} {v v' : Bool} (hh : h < 12) (hh' : h' < 12) (e : zE s h v = zE s' h' v') : s = s' ∧ h = h' ∧ v = v' := by
  obtain ⟨a1, a2, a3⟩ := zE_dec (s := s) (v := v) hh
  obtain ⟨b1, b2, b3⟩ := zE_dec (s := s') (v := v') hh'
  rw [e] at a1 a2 a3
  refine ⟨by omega, by omega, ?_⟩
  have : bv v = bv v' := by omega
  cases v <;> cases v' <;> first | rfl | (exact absurd this (by decide))
def BSt (sn : Nat → Bool) (q : Nat → Nat) (R : Nat) (P : PH) : Prop := P.1 1 40 = nI R ∧ (∀ z, z < 98304 → P.1 106 z = nI (if sn z then 1 else 0)) ∧ (∀ j, j < R → P.1 105 j = nI (q j) ∧ q j < 98304 ∧ sn (q j) = true) ∧ (∀ i j, i < R → j < R → q i = q j → i = j) ∧ ∀ z, z < 98304 → sn z = true → ∃ j, j < R ∧ q j = z
def oS3 (P Q : PH) : Prop := (∀ n, n ≠ 1 → n ≠ 103 → n ≠ 105 → n ≠ 106 → Q.1 n = P.1 n) ∧ (∀ k, k ≠ 40 → Q.1 1 k = P.1 1 k) ∧ Q.2 = P.2
theorem oS3.rf (P : PH) : oS3 P P := ⟨fun _ _ _ _ _ => rfl, fun _ _ => rfl, rfl⟩
theorem oS3.tr {P Q R : PH} (h : oS3 P Q) (h2 : oS3 Q R) : oS3 P R := ⟨fun n a b c d => (h2.1 n a b c d).trans (h.1 n a b c d), fun k a => (h2.2.1 k a).trans (h.2.1 k a), h2.2.2.trans h.2.2⟩
theorem oS3.m {P Q : PH} (h : oS3 P Q) : oM P Q := ⟨fun n a b => h.1 n a (by omega) (by omega) (by omega), fun k _ _ c => h.2.1 k c, h.2.2⟩
section ONE
variable {D : DT} {N : NT} {P : PH} {c len H : Nat} {cs : Nat → Nat}
theorem BSt.le {sn : Nat → Bool} {q : Nat → Nat} {R : Nat} (h : BSt sn q R P) : R ≤ 98304 := fb_holes 98304 R q (fun i hi => (h.2.2.1 i hi).2.1) (fun i j hij hj e => by have := h.2.2.2.1 i j (by omega) hj e; omega)
theorem mo_sees {sn : Nat → Bool} {q : Nat → Nat} {R s h : Nat} {v : Bool} (hB : BSt sn q R P) (hs : s < 4096) (hh : h < 12) : ∃ (sn' : Nat → Bool) (q' : Nat → Nat) (R' : Nat) (Q : PH), Mo_sees (nI s) (nI h) (nI (bv v)) P = some Q ∧ BSt sn' q' R' Q ∧ sn' (zE s h v) = true ∧ (∀ y, sn y = true → sn' y = true) ∧ (∀ y, sn' y = true → sn y = true ∨ y = zE s h v) ∧ R ≤ R' ∧ (∀ j, j < R → q' j = q j) ∧ oS3 P Q ∧ Q.1 103 = P.1 103 := by
  have bvv := bv_lt v
  have hz : zE s h v < 98304 := by unfold zE; omega
  have ez : (((24 : Int32) * nI s) + ((2 : Int32) * nI h)) + nI (bv v) = nI (zE s h v) := by
    rw [show (24 : Int32) = nI 24 from rfl, show (2 : Int32) = nI 2 from rfl, pk_mul, pk_mul, nI_add, nI_add]
    rfl
  have hR := hB.le
  obtain ⟨h40, h106, h105, hd, ha⟩ := id hB
  unfold Mo_sees
  rw [ez, Option.bind_some, z_gd hz (by decide), z_cl (by omega), h106 _ hz]
  cases cz : sn (zE s h v)
  · have hR2 : R + 1 ≤ 98304 := fb_holes 98304 (R + 1) (fun i => if i = R then zE s h v else q i) (fun i hi => by
      show (if i = R then zE s h v else q i) < 98304
      by_cases y : i = R
      · rw [if_pos y]; exact hz
      · rw [if_neg y]; exact (h105 i (by omega)).2.1) (fun i j hij hj e => by
      have e : (if i = R then zE s h v else q i) = (if j = R then zE s h v else q j) := e
      rw [if_neg (show ¬ i = R by omega)] at e
      by_cases y : j = R
      · rw [if_pos y] at e
        have := (h105 i (by omega)).2.2
        rw [e, cz] at this
        cases this
      · rw [if_neg y] at e
        have := hd i j (by omega) (by omega) e
        omega)
    obtain ⟨Q, hQ⟩ : ∃ Q, Q = sI (sI (sI P 106 (zE s h v) (nI 1)) 105 R (nI (zE s h v))) 1 40 (nI (R + 1)) := ⟨_, rfl⟩
    refine ⟨fun y => if y = zE s h v then true else sn y, fun j => if j = R then zE s h v else q j, R + 1, Q, ?_, ⟨?_, fun z hz2 => ?_, fun j hj => ?_, fun i j hi hj e => ?_, fun z hz2 hsz => ?_⟩, if_pos rfl, fun y hy => ?_, fun y hy => ?_, Nat.le_succ _, fun j hj => if_neg (by omega), ⟨fun n a b c d => ?_, fun k a => ?_, ?_⟩, ?_⟩
    · rw [if_pos (show nI (if false = true then 1 else 0) = 0 by decide), z_gd hz (by decide), bn1, Option.bind_some, rowI_o _ _ _ (by decide), h40, z_gd (show R < 98304 by omega) (by decide), z_cl (show R < 2147483648 by omega), Option.bind_some, rowI_o _ _ _ (by decide), rowI_o _ _ _ (by decide), h40, show nI R + (1 : Int32) = nI (R + 1) from nI_1 _, Option.bind_some, ← hQ]
    · rw [hQ, rowI_s, pk_us]
    · rw [hQ, rowI_o _ _ _ (by decide), rowI_o _ _ _ (by decide), rowI_s]
      show upd (P.1 106) (zE s h v) (nI 1) z = nI (if (if z = zE s h v then true else sn z) = true then 1 else 0)
      by_cases y : z = zE s h v
      · rw [y, pk_us, if_pos rfl]; rfl
      · rw [pk_un y, if_neg y]; exact h106 z hz2
    · rw [hQ, rowI_o _ _ _ (by decide), rowI_s]
      show upd ((sI P 106 (zE s h v) (nI 1)).1 105) R (nI (zE s h v)) j = nI (if j = R then zE s h v else q j) ∧ (if j = R then zE s h v else q j) < 98304 ∧ (if (if j = R then zE s h v else q j) = zE s h v then true else sn (if j = R then zE s h v else q j)) = true
      by_cases y : j = R
      · rw [if_pos y, y, pk_us, if_pos rfl]
        exact ⟨rfl, hz, rfl⟩
      · rw [if_neg y, pk_un y, rowI_o _ _ _ (by decide)]
        obtain ⟨u1, u2, u3⟩ := h105 j (by omega)
        refine ⟨u1, u2, ?_⟩
        split
        · rfl
        · exact u3
    · have e : (if i = R then zE s h v else q i) = (if j = R then zE s h v else q j) := e
      by_cases yi : i = R
      · by_cases yj : j = R
        · omega
        · rw [if_pos yi, if_neg yj] at e
          have := (h105 j (by omega)).2.2
          rw [← e, cz] at this
          cases this
      · by_cases yj : j = R
        · rw [if_neg yi, if_pos yj] at e
          have := (h105 i (by omega)).2.2
          rw [e, cz] at this
          cases this
        · rw [if_neg yi, if_neg yj] at e
          exact hd i j (by omega) (by omega) e
    · have hsz : (if z = zE s h v then true else sn z) = true := hsz
      by_cases y : z = zE s h v
      · exact ⟨R, by omega, by show (if R = R then zE s h v else q R) = z; rw [if_pos rfl, y]⟩
      · rw [if_neg y] at hsz
        obtain ⟨j, j1, j2⟩ := ha z hz2 hsz
        exact ⟨j, by omega, by show (if j = R then zE s h v else q j) = z; rw [if_neg (by omega), j2]⟩
    · show (if y = zE s h v then true else sn y) = true
      split
      · rfl
      · exact hy
    · have hy : (if y = zE s h v then true else sn y) = true := hy
      by_cases w : y = zE s h v
      · exact Or.inr w
      · rw [if_neg w] at hy; exact Or.inl hy
    · rw [hQ, rowI_o _ _ _ a, rowI_o _ _ _ c, rowI_o _ _ _ d]
    · rw [hQ, rowI_s, pk_un a, rowI_o _ _ _ (by decide), rowI_o _ _ _ (by decide)]
    · rw [hQ]; rfl
    · rw [hQ, rowI_o _ _ _ (by decide), rowI_o _ _ _ (by decide), rowI_o _ _ _ (by decide)]
  · refine ⟨sn, q, R, P, ?_, hB, cz, fun _ y => y, fun _ y => Or.inl y, Nat.le_refl _, fun _ _ => rfl, oS3.rf P, rfl⟩
    rw [if_neg (show ¬ nI (if true = true then 1 else 0) = 0 by decide)]
/-- what is seen can be -/
def okS (D : DT) (c len H : Nat) (cs : Nat → Nat) (sn : Nat → Bool) : Prop := ∀ z, sn z = true → ∃ s h v, h < H ∧ z = zE s h v ∧ Rch D c len (KB D) s (cs h) v
theorem kb_cell (hR : RD D (P.1 88)) {x : Nat} (hx : x < 144) : (P.1 88 ((248 : Int32) + nI x).toNatClampNeg = (1 : Int32)) ↔ dK D x = true := by
  rw [(mo_k hR hx).2]
  cases dK D x <;> decide
theorem mo_kg {T : Type} {x : Nat} (hx : x < 144) : (gdI ((248 : Int32) + nI x) 512 : Option T → Option T) = fun o => o := by
  rw [show (248 : Int32) + nI x = nI (248 + x) from by rw [show (248 : Int32) = nI 248 from rfl, nI_add]]
  exact gdf _ _ (by omega) (by omega)
theorem kb_any (h0 : fb_ct (dK D) 144 = 0) (x : Nat) : KB D x = true := by unfold KB; rw [decide_eq_true h0]; rfl
theorem kb_not (h0 : ¬ fb_ct (dK D) 144 = 0) (x : Nat) : KB D x = dK D x := by unfold KB; rw [decide_eq_false h0]; rfl
def anyI (D : DT) : Int32 := nI (if fb_ct (dK D) 144 = 0 then 1 else 0)
/-! the seeds -/
theorem lo_77 (hL : nL D c ≤ 6) (hR : RD D (P.1 88)) (hG : GIm D c (nL D c) H cs P) (r66 : Int32 → PH → Option PH) (v1 : Int32) {k : Nat} (hk : k < H) {sn : Nat → Bool} {q : Nat → Nat} {R : Nat} (hB : BSt sn q R P) (hO : okS D c len H cs sn) : ∃ (sn' : Nat → Bool) (q' : Nat → Nat) (R' : Nat) (Q : PH), Mo_layOnes_77 r66 v1 (anyI D) (nI k) bigN (nI 0) P = r66 (nI (k + 1)) Q ∧ BSt sn' q' R' Q ∧ okS D c len H cs sn' ∧ (∀ y, sn y = true → sn' y = true) ∧ (KB D (cs k) = true → ∀ v, sn' (zE 0 k v) = true) ∧ oS3 P Q ∧ Q.1 103 = P.1 103 := by
  obtain ⟨g1, g2, g3, g4, g5⟩ := id hG
  have H12 : H ≤ 12 := by have := g1.1; omega
  obtain ⟨hx, i, hi, hda⟩ := g1.2.1 k hk
  obtain ⟨n, hn⟩ : ∃ n, bigN = n + 3 := ⟨1099511627773, rfl⟩
  have k1 : nI k + 1 = nI (k + 1) := nI_1 _
  have yes : KB D (cs k) = true → ∀ (n j : Nat) (P : PH) , j < 2 → RD D (P.1 88) → P.1 103 k = nI (cs k) → Mo_layOnes_77 r66 v1 (anyI D) (nI k) (n + 1) (nI j) P = (Mo_sees (nI 0) (nI k) (nI j) P).bind fun (x111 : PH) => Mo_layOnes_77 r66 v1 (anyI D) (nI k) n (nI (j + 1)) x111 := by
    intro hK n j P hj hR h3
    conv => lhs; unfold Mo_layOnes_77 Mo_layOnes_106
    rw [if_neg (show ¬ (2 : Int32) ≤ nI j from (show ¬ nI 2 ≤ nI j from nI_ge hj (by decide))), show nI j + 1 = nI (j + 1) from nI_1 _]
    unfold anyI
    by_cases c0 : fb_ct (dK D) 144 = 0
    · rw [if_pos c0, if_neg (by decide)]
      rfl
    · rw [kb_not c0] at hK
      rw [if_neg c0, if_pos (by decide), z_gd (by omega) (by decide), z_cl (by omega), h3, mo_kg hx, if_pos ((kb_cell hR hx).mpr hK)]
      rfl
  cases hK : KB D (cs k)
  · refine ⟨sn, q, R, P, ?_, hB, hO, fun _ y => y, fun y => (by cases y), oS3.rf P, rfl⟩
    have c0 : ¬ fb_ct (dK D) 144 = 0 := fun z => by rw [kb_any z] at hK; cases hK
    rw [kb_not c0] at hK
    rw [hn]
    unfold Mo_layOnes_77 anyI
    rw [if_neg (by decide), if_neg c0, if_pos (by decide), z_gd (by omega) (by decide), z_cl (by omega), g4 k hk, mo_kg hx, if_neg (fun z => by rw [(kb_cell hR hx).mp z] at hK; cases hK), k1]
  · have ep : ∀ v, Rch D c len (KB D) 0 (cs k) v := fun v => Rch.base ⟨i, hi, hda⟩ hK
    have add : ∀ (sn sn' : Nat → Bool) (v : Bool), okS D c len H cs sn → (∀ y, sn' y = true → sn y = true ∨ y = zE 0 k v) → okS D c len H cs sn' := fun sn sn' v hO hs z hz => by
      rcases hs z hz with y | y
      · exact hO z y
      · exact ⟨0, k, v, hk, y, ep v⟩
    obtain ⟨sn1, q1, R1, P1, a1, a2, a3, a4, a5, a6, a7, a8, a9⟩ := mo_sees (s := 0) (h := k) (v := false) hB (by decide) (by omega)
    obtain ⟨sn2, q2, R2, P2, b1, b2, b3, b4, b5, b6, b7, b8, b9⟩ := mo_sees (s := 0) (h := k) (v := true) a2 (by decide) (by omega)
    refine ⟨sn2, q2, R2, P2, ?_, b2, add _ _ true (add _ _ false hO a5) b5, fun y z => b4 y (a4 y z), fun _ v => ?_, a8.tr b8, b9.trans a9⟩
    · rw [hn, show n + 3 = (n + 2) + 1 by omega, yes hK (n + 2) 0 P (by decide) hR (g4 k hk)]
      have a1 : Mo_sees (nI 0) (nI k) (nI 0) P = some P1 := a1
      rw [a1, Option.bind_some, show n + 2 = (n + 1) + 1 by omega, yes hK (n + 1) 1 P1 (by decide) (by rw [a8.1 88 (by decide) (by decide) (by decide) (by decide)]; exact hR) (by rw [a9]; exact g4 k hk)]
      have b1 : Mo_sees (nI 0) (nI k) (nI (0 + 1)) P1 = some P2 := b1
      rw [show nI 1 = nI (0 + 1) from rfl, b1, Option.bind_some]
      unfold Mo_layOnes_77
      rw [if_pos (by decide), k1]
    · cases v
      · exact b4 _ a3
      · exact b3
theorem lo_66 (hL : nL D c ≤ 6) (v1 : Int32) : ∀ (m k n : Nat) (P : PH) (sn : Nat → Bool) (q : Nat → Nat) (R : Nat), k + m = H → m < n → RD D (P.1 88) → GIm D c (nL D c) H cs P → BSt sn q R P → okS D c len H cs sn → (∀ h, h < k → KB D (cs h) = true → ∀ v, sn (zE 0 h v) = true) → ∃ (sn' : Nat → Bool) (q' : Nat → Nat) (R' : Nat) (Q : PH), Mo_layOnes_66 v1 (anyI D) n (nI k) P = Mo_layOnes_128 v1 (anyI D) bigN (nI 0) Q ∧ BSt sn' q' R' Q ∧ okS D c len H cs sn' ∧ (∀ h, h < H → KB D (cs h) = true → ∀ v, sn' (zE 0 h v) = true) ∧ oS3 P Q ∧ Q.1 103 = P.1 103 := by
  intro m
  induction m with
  | zero =>
    intro k n P sn q R hk hn hR hG hB hO hS
    obtain ⟨n, rfl⟩ : ∃ q, n = q + 1 := ⟨n - 1, by omega⟩
    obtain rfl : k = H := by omega
    have H12 : k ≤ 12 := by have := hG.1.1; omega
    refine ⟨sn, q, R, P, ?_, hB, hO, hS, oS3.rf P, rfl⟩
    unfold Mo_layOnes_66
    rw [hG.2.1, if_pos (by rw [z_le (by omega) (by omega)]; exact Nat.le_refl _)]
    rfl
  | succ m ih =>
    intro k n P sn q R hk hn hR hG hB hO hS
    obtain ⟨n, rfl⟩ : ∃ q, n = q + 1 := ⟨n - 1, by omega⟩
    have H12 : H ≤ 12 := by have := hG.1.1; omega
    obtain ⟨sn1, q1, R1, P1, a1, a2, a3, a4, a5, a6, a7⟩ := lo_77 (len := len) hL hR hG (Mo_layOnes_66 v1 (anyI D) n) v1 (show k < H by omega) hB hO
    obtain ⟨g1, g2, g3, g4, g5⟩ := hG
    obtain ⟨sn2, q2, R2, Q, b1, b2, b3, b4, b5, b6⟩ := ih (k + 1) n P1 sn1 q1 R1 (by omega) (by omega) (by rw [a6.1 88 (by decide) (by decide) (by decide) (by decide)]; exact hR) ⟨g1, by rw [a6.2.1 39 (by decide)]; exact g2, by rw [a6.2.1 38 (by decide)]; exact g3, fun j hj => by rw [a7]; exact g4 j hj, fun i hi => by rw [a6.1 102 (by decide) (by decide) (by decide) (by decide)]; exact g5 i hi⟩ a2 a3 (fun h hh hK v => by
      by_cases y : h = k
      · rw [y] at hK ⊢; exact a5 hK v
      · exact a4 _ (hS h (by omega) hK v))
    refine ⟨sn2, q2, R2, Q, ?_, b2, b3, b4, a6.tr b5, b6.trans a7⟩
    rw [← b1, ← a1]
    conv => lhs; unfold Mo_layOnes_66
    rw [g2, if_neg (nI_ge (by omega) (by omega))]
    rfl
/-! the queue -/
def cloM (D : DT) (c len H : Nat) (cs : Nat → Nat) (sn : Nat → Bool) (s h : Nat) (v : Bool) (i : Nat) : Prop := dat D (cs h) (mlD D c i) = true → s.testBit (2 * i + bv v) = false → ∃ h', h' < H ∧ cs h' = oth D (mlD D c i) (cs h) ∧ sn (zE (s ||| 2 ^ (2 * i + bv v)) h' (!v)) = true
theorem lo_219 (hD : WD D) (hL : nL D c ≤ 6) (hl : len < 100) (r128 : Int32 → PH → Option PH) {s h k : Nat} {v : Bool} (hh : h < H) (hRc : Rch D c len (KB D) s (cs h) v) : ∀ (m i n : Nat) (P : PH) (sn : Nat → Bool) (q : Nat → Nat) (R : Nat), i + m = nL D c → m < n → RD D (P.1 88) → GIm D c (nL D c) H cs P → BSt sn q R P → okS D c len H cs sn → ∃ (sn' : Nat → Bool) (q' : Nat → Nat) (R' : Nat) (Q : PH), Mo_layOnes_219 r128 (nI len) (anyI D) (nI k) (nI s) (nI h) (nI (bv v)) n (nI i) P = r128 (nI (k + 1)) Q ∧ BSt sn' q' R' Q ∧ okS D c len H cs sn' ∧ (∀ y, sn y = true → sn' y = true) ∧ R ≤ R' ∧ (∀ j, j < R → q' j = q j) ∧ (pcn s < len → ∀ j, i ≤ j → j < nL D c → cloM D c len H cs sn' s h v j) ∧ oS3 P Q ∧ GIm D c (nL D c) H cs Q := by
  have mem := hRc.mem hD
  have p12 : 2 ^ (2 * nL D c) ≤ 2 ^ 12 := Nat.pow_le_pow_right (by decide) (by omega)
  have e12 : (2 : Nat) ^ 12 = 4096 := rfl
  have hs : s < 4096 := by omega
  have bvv := bv_lt v
  have pl : pcn s ≤ 32 := fb_ct_le _ _
  have k1 : nI k + 1 = nI (k + 1) := nI_1 _
  intro m
  induction m with
  | zero =>
    intro i n P sn q R hi hn hR hG hB hO
    obtain ⟨n, rfl⟩ : ∃ q, n = q + 1 := ⟨n - 1, by omega⟩
    have hi : i = nL D c := by omega
    refine ⟨sn, q, R, P, ?_, hB, hO, fun _ y => y, Nat.le_refl _, fun _ _ => rfl, fun _ j a b => by omega, oS3.rf P, hG⟩
    unfold Mo_layOnes_219
    rw [hG.2.2.1, if_pos (by rw [z_le (by omega) (by omega)]; omega), k1]
  | succ m ih =>
    intro i n P sn q R hi hn hR hG hB hO
    obtain ⟨n, rfl⟩ : ∃ q, n = q + 1 := ⟨n - 1, by omega⟩
    have hiL : i < nL D c := by omega
    obtain ⟨g1, g2, g3, g4, g5⟩ := id hG
    have H12 : H ≤ 12 := by have := g1.1; omega
    have i1 : nI i + 1 = nI (i + 1) := nI_1 _
    obtain ⟨m1, m2, m3⟩ := ml_ok hiL
    have hx := (g1.2.1 h hh).1
    have sd : (1 : Int32) <<< ((((2 : Int32) * nI i) + nI (bv v)) &&& 31) = nI (2 ^ (2 * i + bv v)) := by
      rw [show (2 : Int32) = nI 2 from rfl, pk_mul, nI_add, one_sh (by omega)]
    by_cases y : len ≤ pcn s
    · refine ⟨sn, q, R, P, ?_, hB, hO, fun _ z => z, Nat.le_refl _, fun _ _ => rfl, fun z => by omega, oS3.rf P, hG⟩
      unfold Mo_layOnes_219
      rw [g3, if_neg (nI_ge hiL (by omega)), mo_sz hs, Option.bind_some, if_pos (by rw [z_le (by omega) (by omega)]; exact y), k1]
    · have hd : ∀ Z, (if (nI s &&& nI (2 ^ (2 * i + bv v))) = 0 then (Mo_isAt (nI (mlD D c i)) (nI (cs h)) P).bind fun (x271 : Int32) =>
          if x271 = 0 then Mo_layOnes_219 r128 (nI len) (anyI D) (nI k) (nI s) (nI h) (nI (bv v)) n (nI (i + 1)) P
          else (Mo_from (nI (mlD D c i)) P).bind fun (x292 : Int32) => if x292 = nI (cs h) then (Mo_to (nI (mlD D c i)) P).bind fun (x313 : Int32) => Mo_layOnes_330 r128 (Mo_layOnes_219 r128 (nI len) (anyI D) (nI k) (nI s) (nI h) (nI (bv v)) n) (nI len) (anyI D) (nI k) (nI s) (nI h) (nI (bv v)) (nI i) x313 (nI s ||| nI (2 ^ (2 * i + bv v))) P
            else (Mo_from (nI (mlD D c i)) P).bind fun (x327 : Int32) => Mo_layOnes_330 r128 (Mo_layOnes_219 r128 (nI len) (anyI D) (nI k) (nI s) (nI h) (nI (bv v)) n) (nI len) (anyI D) (nI k) (nI s) (nI h) (nI (bv v)) (nI i) x327 (nI s ||| nI (2 ^ (2 * i + bv v))) P
        else Mo_layOnes_219 r128 (nI len) (anyI D) (nI k) (nI s) (nI h) (nI (bv v)) n (nI (i + 1)) P) = Z → Mo_layOnes_219 r128 (nI len) (anyI D) (nI k) (nI s) (nI h) (nI (bv v)) (n + 1) (nI i) P = Z := by
        intro Z hZ
        unfold Mo_layOnes_219
        rw [g3, if_neg (nI_ge hiL (by omega)), mo_sz hs, Option.bind_some, if_neg (by rw [z_le (by omega) (by omega)]; exact y), sd, Option.bind_some, show (gdI (nI i) 6 : Option PH → Option PH) = fun o => o from gdf i 6 (by omega) (by decide), show (gdI (nI h) 12 : Option PH → Option PH) = fun o => o from gdf h 12 (by omega) (by decide), z_cl (show i < 2147483648 by omega), z_cl (show h < 2147483648 by omega), g5 i hiL, g4 h hh, i1]
        exact hZ
      have skip : cloM D c len H cs sn s h v i → ∃ (sn' : Nat → Bool) (q' : Nat → Nat) (R' : Nat) (Q : PH), Mo_layOnes_219 r128 (nI len) (anyI D) (nI k) (nI s) (nI h) (nI (bv v)) n (nI (i + 1)) P = r128 (nI (k + 1)) Q ∧ BSt sn' q' R' Q ∧ okS D c len H cs sn' ∧ (∀ y, sn y = true → sn' y = true) ∧ R ≤ R' ∧ (∀ j, j < R → q' j = q j) ∧ (pcn s < len → ∀ j, i ≤ j → j < nL D c → cloM D c len H cs sn' s h v j) ∧ oS3 P Q ∧ GIm D c (nL D c) H cs Q := fun hc => by
        obtain ⟨sn', q', R', Q, a1, a2, a3, a4, a5, a6, a7, a8, a9⟩ := ih (i + 1) n P sn q R (by omega) (by omega) hR hG hB hO
        refine ⟨sn', q', R', Q, a1, a2, a3, a4, a5, a6, fun hp j j1 j2 => ?_, a8, a9⟩
        by_cases z : j = i
        · rw [z]
          intro u1 u2
          obtain ⟨h', w1, w2, w3⟩ := hc u1 u2
          exact ⟨h', w1, w2, a4 _ w3⟩
        · exact a7 hp j (by omega) j2
      cases cb : s.testBit (2 * i + bv v)
      · have c0 : nI s &&& nI (2 ^ (2 * i + bv v)) = 0 := (and_self0 (by omega)).mpr cb
        have ea := mo_isAt hD hR m1 hx
        cases cd : dat D (cs h) (mlD D c i)
        · obtain ⟨sn', q', R', Q, a⟩ := skip (fun z => by rw [cd] at z; cases z)
          refine ⟨sn', q', R', Q, hd _ ?_, a.2⟩
          rw [if_pos c0, ea, cd, Option.bind_some, if_pos (show (if false = true then (1 : Int32) else 0) = 0 from rfl)]
          exact a.1
        · have ho := oth_oth hD m1 cd
          have hx2 := ho.2.2.1
          have ex : ∃ a, a < H ∧ cs a = oth D (mlD D c i) (cs h) := by
            obtain ⟨⟨a, a1, a2⟩, b, b1, b2⟩ := g1.2.2.2 i hiL
            unfold oth
            by_cases w : dF D (mlD D c i) = cs h
            · rw [if_pos w]; exact ⟨b, b1, b2⟩
            · rw [if_neg w]; exact ⟨a, a1, a2⟩
          obtain ⟨a, H', cs', P1, c1, c2, c3, c4, c5, c6, c7, c8, c9⟩ := mo_cor (x := oth D (mlD D c i) (cs h)) H12 g2 g4 (fun j hj => (g1.2.1 j hj).1) g1.2.2.1 hx2 (Or.inr ex)
          obtain ⟨e1, e2, e3⟩ := c9 ex
          rw [e1] at c2 c5
          have ca : cs a = oth D (mlD D c i) (cs h) := by rw [← e3 a c2.1]; exact c2.2.1
          have hB1 : BSt sn q R P1 := by
            obtain ⟨u1, u2, u3, u4, u5⟩ := hB
            exact ⟨by rw [e2]; exact u1, fun z hz => by rw [c6 106 (by decide) (by decide)]; exact u2 z hz, fun j hj => by rw [c6 105 (by decide) (by decide)]; exact u3 j hj, u4, u5⟩
          have o1 : oS3 P P1 := ⟨fun n a b _ _ => c6 n a b, fun k _ => by rw [e2], c8⟩
          have hnew : s ||| 2 ^ (2 * i + bv v) < 4096 := or_lt (n := 12) hs (Nat.pow_lt_pow_right (by decide) (by omega))
          obtain ⟨sn2, q2, R2, P2, b1, b2, b3, b4, b5, b6, b7, b8, b9⟩ := mo_sees (s := s ||| 2 ^ (2 * i + bv v)) (h := a) (v := !v) hB1 hnew (by have := c2.1; omega)
          have hG2 : GIm D c (nL D c) H cs P2 := ⟨g1, by rw [b8.2.1 39 (by decide), e2]; exact g2, by rw [b8.2.1 38 (by decide), e2]; exact g3, fun j hj => by rw [b9, c5 j hj, e3 j hj], fun j hj => by rw [b8.1 102 (by decide) (by decide) (by decide) (by decide), c6 102 (by decide) (by decide)]; exact g5 j hj⟩
          have hp : pcn s < len := by omega
          have newR : Rch D c len (KB D) (s ||| 2 ^ (2 * i + bv v)) (cs a) (!v) := by
            rw [ca]
            exact hRc.step hp hiL cd cb
          obtain ⟨sn', q', R', Q, f1, f2, f3, f4, f5, f6, f7, f8, f9⟩ := ih (i + 1) n P2 sn2 q2 R2 (by omega) (by omega) (by rw [b8.1 88 (by decide) (by decide) (by decide) (by decide), c6 88 (by decide) (by decide)]; exact hR) hG2 b2 (fun z hz => by
            rcases b5 z hz with w | w
            · exact hO z w
            · exact ⟨_, a, !v, c2.1, w, newR⟩)
          refine ⟨sn', q', R', Q, hd _ ?_, f2, f3, fun y z => f4 y (b4 y z), by omega, fun j hj => by rw [f6 j (by omega), b7 j hj], fun hp j j1 j2 => ?_, (o1.tr b8).tr f8, f9⟩
          · have fin : ∀ x : Int32, x = nI (oth D (mlD D c i) (cs h)) → Mo_layOnes_330 r128 (Mo_layOnes_219 r128 (nI len) (anyI D) (nI k) (nI s) (nI h) (nI (bv v)) n) (nI len) (anyI D) (nI k) (nI s) (nI h) (nI (bv v)) (nI i) x (nI s ||| nI (2 ^ (2 * i + bv v))) P = r128 (nI (k + 1)) Q := by
              intro x hx
              unfold Mo_layOnes_330
              rw [hx, c1, Option.bind_some, fa_or, show (1 : Int32) - nI (bv v) = nI (bv (!v)) from by rw [bv_not]; exact z_sub (a := 1) (by omega), b1, Option.bind_some, i1]
              exact f1
            have f1' := (hD.2.1 _ m1).1
            rw [if_pos c0, ea, cd, Option.bind_some, if_neg (by decide), mo_from hD hR m1, Option.bind_some, mo_to hD hR m1, Option.bind_some, Option.bind_some]
            by_cases w : dF D (mlD D c i) = cs h
            · rw [if_pos (by rw [w])]
              exact fin _ (by unfold oth; rw [if_pos w])
            · rw [if_neg (by rw [z_eq (by omega) (by omega)]; exact w)]
              exact fin _ (by unfold oth; rw [if_neg w])
          · by_cases z : j = i
            · rw [z]
              exact fun _ _ => ⟨a, c2.1, ca, f4 _ b3⟩
            · exact f7 hp j (by omega) j2
      · have c0 : ¬ nI s &&& nI (2 ^ (2 * i + bv v)) = 0 := fun z => by rw [(and_self0 (by omega)).mp z] at cb; cases cb
        obtain ⟨sn', q', R', Q, a⟩ := skip (fun _ z => by rw [cb] at z; cases z)
        refine ⟨sn', q', R', Q, hd _ ?_, a.2⟩
        rw [if_neg c0]
        exact a.1
def isD (q : Nat → Nat) (cs : Nat → Nat) (D : DT) (k s : Nat) : Prop := ∃ j, j < k ∧ q j / 24 = s ∧ KB D (cs (q j % 24 / 2)) = true
theorem lo_128 (hD : WD D) (hL : nL D c ≤ 6) (hl : len < 100) : ∀ (m k n : Nat) (P : PH) (sn : Nat → Bool) (q : Nat → Nat) (R : Nat) (o : Nat → Bool), k + m = 98304 → m < n → RD D (P.1 88) → GIm D c (nL D c) H cs P → BSt sn q R P → okS D c len H cs sn → k ≤ R → (∀ s, s < 4096 → P.1 107 s = nI (if o s then 1 else 0)) → (∀ s, s < 4096 → (o s = true ↔ isD q cs D k s)) → (∀ h, h < H → KB D (cs h) = true → ∀ v, sn (zE 0 h v) = true) → (∀ s h v, h < H → (∃ j, j < k ∧ q j = zE s h v) → pcn s < len → ∀ i, i < nL D c → cloM D c len H cs sn s h v i) → ∃ (o' : Nat → Bool) (Q : PH), Mo_layOnes_128 (nI len) (anyI D) n (nI k) P = some Q ∧ (∀ s, s < 4096 → Q.1 107 s = nI (if o' s then 1 else 0)) ∧ (∀ s, s < 4096 → (o' s = true ↔ One D c len s)) ∧ oM P Q ∧ Q.1 1 38 = P.1 1 38 := by
  intro m
  have fin : ∀ (k : Nat) (P : PH) (sn : Nat → Bool) (q : Nat → Nat) (R : Nat) (o : Nat → Bool), GIm D c (nL D c) H cs P → BSt sn q R P → okS D c len H cs sn → R ≤ k → k ≤ R → (∀ s, s < 4096 → (o s = true ↔ isD q cs D k s)) → (∀ h, h < H → KB D (cs h) = true → ∀ v, sn (zE 0 h v) = true) → (∀ s h v, h < H → (∃ j, j < k ∧ q j = zE s h v) → pcn s < len → ∀ i, i < nL D c → cloM D c len H cs sn s h v i) → ∀ s, s < 4096 → (o s = true ↔ One D c len s) := by
    intro k P sn q R o hG hB hO hRk hkR ho hseed hclo s hs
    have g1 := hG.1
    have H12 : H ≤ 12 := by have := g1.1; omega
    have e : k = R := by omega
    rw [ho s hs]
    constructor
    · rintro ⟨j, j1, j2, j3⟩
      obtain ⟨s', h, v, h1, h2, h3⟩ := hO _ (hB.2.2.1 j (by omega)).2.2
      obtain ⟨d1, d2, d3⟩ := zE_dec (s := s') (v := v) (show h < 12 by omega)
      rw [h2, d1] at j2
      rw [h2, d2] at j3
      rw [← j2]
      exact ⟨cs h, v, h3, j3⟩
    · rintro ⟨x, v, hR, hK⟩
      have p12 : 2 ^ (2 * nL D c) ≤ 2 ^ 12 := Nat.pow_le_pow_right (by decide) (by omega)
      have e12 : (2 : Nat) ^ 12 = 4096 := rfl
      have inq : ∀ s h v, s < 4096 → h < H → sn (zE s h v) = true → ∃ j, j < k ∧ q j = zE s h v := fun s h v hs hh hz => by
        have bvv := bv_lt v
        rw [e]
        exact hB.2.2.2.2 _ (by unfold zE; omega) hz
      have full := hR (fun s x v => s < 2 ^ (2 * nL D c) ∧ ∃ h, h < H ∧ cs h = x ∧ sn (zE s h v) = true) (fun x v he hK => by
        obtain ⟨i, hi, hd⟩ := he
        obtain ⟨⟨a, a1, a2⟩, b, b1, b2⟩ := g1.2.2.2 i hi
        refine ⟨Nat.two_pow_pos _, ?_⟩
        rw [dat_iff] at hd
        rcases hd with hd | hd
        · exact ⟨a, a1, by rw [a2, hd], hseed a a1 (by rw [a2, hd]; exact hK) v⟩
        · exact ⟨b, b1, by rw [b2, hd], hseed b b1 (by rw [b2, hd]; exact hK) v⟩) (fun s x v i hC hp hi hd hbit => by
        obtain ⟨hs, h, h1, h2, h3⟩ := hC
        have bvv := bv_lt v
        rw [← h2] at hd
        obtain ⟨h', u1, u2, u3⟩ := hclo s h v h1 (inq s h v (by omega) h1 h3) hp i hi hd hbit
        exact ⟨or_lt hs (Nat.pow_lt_pow_right (by decide) (by omega)), h', u1, by rw [u2, h2], u3⟩)
      obtain ⟨hs2, h, h1, h2, h3⟩ := full
      obtain ⟨j, j1, j2⟩ := inq s h v hs h1 h3
      obtain ⟨d1, d2, d3⟩ := zE_dec (s := s) (v := v) (show h < 12 by omega)
      exact ⟨j, j1, by rw [j2, d1], by rw [j2, d2, h2]; exact hK⟩
  induction m with
  | zero =>
    intro k n P sn q R o hk hn hR hG hB hO hkR h107 ho hseed hclo
    obtain ⟨n, rfl⟩ : ∃ q, n = q + 1 := ⟨n - 1, by omega⟩
    have hRl := hB.le
    refine ⟨o, P, ?_, h107, fin k P sn q R o hG hB hO (by omega) hkR ho hseed hclo, oM.rf P, rfl⟩
    unfold Mo_layOnes_128
    rw [hB.1, if_pos (by rw [z_le (by omega) (by omega)]; omega)]
  | succ m ih =>
    intro k n P sn q R o hk hn hR hG hB hO hkR h107 ho hseed hclo
    obtain ⟨n, rfl⟩ : ∃ q, n = q + 1 := ⟨n - 1, by omega⟩
    have hRl := hB.le
    by_cases y : R ≤ k
    · refine ⟨o, P, ?_, h107, fin k P sn q R o hG hB hO y hkR ho hseed hclo, oM.rf P, rfl⟩
      unfold Mo_layOnes_128
      rw [hB.1, if_pos (by rw [z_le (by omega) (by omega)]; exact y)]
    · obtain ⟨g1, g2, g3, g4, g5⟩ := id hG
      have H12 : H ≤ 12 := by have := g1.1; omega
      obtain ⟨u1, u2, u3⟩ := hB.2.2.1 k (by omega)
      obtain ⟨s, h, v, h1, h2, h3⟩ := hO _ u3
      have mem := h3.mem hD
      have p12 : 2 ^ (2 * nL D c) ≤ 2 ^ 12 := Nat.pow_le_pow_right (by decide) (by omega)
      have e12 : (2 : Nat) ^ 12 = 4096 := rfl
      have hs : s < 4096 := by omega
      have bvv := bv_lt v
      obtain ⟨d1, d2, d3⟩ := zE_dec (s := s) (v := v) (show h < 12 by omega)
      have hx := (g1.2.1 h h1).1
      have hq9 : zE s h v < 98304 := by rw [← h2]; exact u2
      have z1 : nI (zE s h v) / (24 : Int32) = nI s := by rw [show (24 : Int32) = nI 24 from rfl, pk_div (by omega) (by decide) (by decide), d1]
      have z2 : (nI (zE s h v) - nI (zE s h v) / (24 : Int32) * (24 : Int32)) / (2 : Int32) = nI h := by
        rw [show (24 : Int32) = nI 24 from rfl, show (2 : Int32) = nI 2 from rfl, pk_rem (by omega) (by decide) (by decide), pk_div (by omega) (by decide) (by decide), d2]
      have z3 : nI (zE s h v) - nI (zE s h v) / (2 : Int32) * (2 : Int32) = nI (bv v) := by rw [show (2 : Int32) = nI 2 from rfl, pk_rem (by omega) (by decide) (by decide), d3]
      obtain ⟨P1, hP1⟩ : ∃ P1, P1 = sI P 107 s (nI (if o s || KB D (cs h) then 1 else 0)) := ⟨_, rfl⟩
      have o1 : oM P P1 := by rw [hP1]; exact (oM.rf P).s (by omega) _ _
      have r1 : ∀ n, n ≠ 107 → P1.1 n = P.1 n := fun n a => by rw [hP1, rowI_o _ _ _ a]
      have hG1 : GIm D c (nL D c) H cs P1 := ⟨g1, by rw [r1 1 (by decide)]; exact g2, by rw [r1 1 (by decide)]; exact g3, fun j hj => by rw [r1 103 (by decide)]; exact g4 j hj, fun i hi => by rw [r1 102 (by decide)]; exact g5 i hi⟩
      have hB1 : BSt sn q R P1 := by
        obtain ⟨w1, w2, w3, w4, w5⟩ := hB
        exact ⟨by rw [r1 1 (by decide)]; exact w1, fun z hz => by rw [r1 106 (by decide)]; exact w2 z hz, fun j hj => by rw [r1 105 (by decide)]; exact w3 j hj, w4, w5⟩
      obtain ⟨sn', q', R', P2, b1, b2, b3, b4, b5, b6, b7, b8, b9⟩ := lo_219 hD hL hl (Mo_layOnes_128 (nI len) (anyI D) n) (k := k) h1 h3 (nL D c) 0 bigN P1 sn q R (by omega) (big_gt (by omega)) (by rw [r1 88 (by decide)]; exact hR) hG1 hB1 hO
      have qk : ∀ j, j < k + 1 → q' j = q j := fun j hj => b6 j (by omega)
      obtain ⟨o', Q, c1, c2, c3, c4, c5⟩ := ih (k + 1) n P2 sn' q' R' (fun t => if t = s then o s || KB D (cs h) else o t) (by omega) (by omega) (by rw [b8.1 88 (by decide) (by decide) (by decide) (by decide), r1 88 (by decide)]; exact hR) b9 b2 b3 (by omega) (fun t ht => by
        rw [b8.1 107 (by decide) (by decide) (by decide) (by decide), hP1, rowI_s]
        show upd (P.1 107) s (nI (if o s || KB D (cs h) then 1 else 0)) t = nI (if (if t = s then o s || KB D (cs h) else o t) = true then 1 else 0)
        by_cases z : t = s
        · rw [if_pos z, z, pk_us]
        · rw [if_neg z, pk_un z]; exact h107 t ht) (fun t ht => by
        show (if t = s then o s || KB D (cs h) else o t) = true ↔ isD q' cs D (k + 1) t
        have step : isD q' cs D (k + 1) t ↔ isD q cs D k t ∨ (t = s ∧ KB D (cs h) = true) := by
          constructor
          · rintro ⟨j, j1, j2, j3⟩
            rw [qk j j1] at j2 j3
            by_cases z : j = k
            · rw [z, h2, d1] at j2
              rw [z, h2, d2] at j3
              exact Or.inr ⟨j2.symm, j3⟩
            · exact Or.inl ⟨j, by omega, j2, j3⟩
          · rintro (⟨j, j1, j2, j3⟩ | ⟨z1, z2⟩)
            · exact ⟨j, by omega, by rw [qk j (by omega)]; exact j2, by rw [qk j (by omega)]; exact j3⟩
            · exact ⟨k, by omega, by rw [qk k (by omega), h2, d1, z1], by rw [qk k (by omega), h2, d2]; exact z2⟩
        rw [step]
        by_cases z : t = s
        · rw [if_pos z, z, Bool.or_eq_true, ho s hs]
          exact ⟨fun w => w.elim Or.inl (fun w => Or.inr ⟨rfl, w⟩), fun w => w.elim Or.inl (fun w => Or.inr w.2)⟩
        · rw [if_neg z, ho t ht]
          exact ⟨Or.inl, fun w => w.elim id (fun w => absurd w.1 z)⟩) (fun h hh hK v => b4 _ (hseed h hh hK v)) (fun s' h' v' hh' hj hp i hi => by
        obtain ⟨j, j1, j2⟩ := hj
        rw [qk j j1] at j2
        by_cases z : j = k
        · rw [z, h2] at j2
          obtain ⟨w1, w2, w3⟩ := zE_inj (by omega) (by omega) j2
          rw [← w1, ← w2, ← w3]
          rw [← w1] at hp
          exact b7 hp i (Nat.zero_le _) hi
        · intro a1 a2
          obtain ⟨h'', x1, x2, x3⟩ := hclo s' h' v' hh' ⟨j, by omega, j2⟩ hp i hi a1 a2
          exact ⟨h'', x1, x2, b4 _ x3⟩)
      refine ⟨o', Q, ?_, c2, c3, (o1.tr b8.m).tr c4, by rw [c5, b8.2.1 38 (by decide), r1 1 (by decide)]⟩
      have go : ∀ w : Int32, w = nI (if o s || KB D (cs h) then 1 else 0) → ((some (sI P 107 s w)).bind fun (P215 : PH) => Mo_layOnes_219 (Mo_layOnes_128 (nI len) (anyI D) n) (nI len) (anyI D) (nI k) (nI s) (nI h) (nI (bv v)) bigN (0 : Int32) P215) = some Q := by
        intro w hw
        rw [Option.bind_some, hw, ← hP1]
        exact b1.trans c1
      unfold Mo_layOnes_128
      rw [hB.1, if_neg (nI_ge (by omega) (by omega)), z_gd (show k < 98304 by omega) (by decide), z_cl (show k < 2147483648 by omega), u1, h2, z1, Option.bind_some, z_gd (show k < 98304 by omega) (by decide)]
      rw [show (nI (zE s h v) - nI s * (24 : Int32)) / (2 : Int32) = nI h from by rw [← z1]; exact z2, Option.bind_some, z_gd (show k < 98304 by omega) (by decide), z3, Option.bind_some, z_gd hs (by decide), z_cl (show s < 2147483648 by omega), h107 s hs]
      have gd4096 : ∀ w : Option PH, gdI (nI s) 4096 w = w := fun w => z_gd hs (by decide)
      cases os : o s
      · rw [os] at go
        rw [if_pos (show nI (if false = true then 1 else 0) = 0 by decide)]
        unfold anyI at go ⊢
        by_cases c0 : fb_ct (dK D) 144 = 0
        · rw [if_pos c0] at go ⊢
          rw [if_neg (by decide), gd4096, bn1]
          exact go _ (by rw [kb_any c0]; rfl)
        · rw [if_neg c0] at go ⊢
          rw [if_pos (by decide), z_gd (show h < 12 by omega) (by decide), z_cl (show h < 2147483648 by omega), g4 h h1, mo_kg hx]
          cases hK : dK D (cs h)
          · rw [if_neg (fun z => by rw [(kb_cell hR hx).mp z] at hK; cases hK), gd4096, bn0]
            exact go _ (by rw [kb_not c0, hK]; rfl)
          · rw [if_pos ((kb_cell hR hx).mpr hK), gd4096, bn1]
            exact go _ (by rw [kb_not c0, hK]; rfl)
      · rw [os] at go
        rw [if_neg (show ¬ nI (if true = true then 1 else 0) = 0 by decide), gd4096, bn1]
        exact go _ rfl
theorem lo_39 (v1 v2 : Int32) : ∀ (m k n : Nat) (P : PH), k + m = 4096 → m < n → (∀ s, s < k → P.1 107 s = nI 0) → ∃ Q, Mo_layOnes_39 v1 v2 n (nI k) P = Mo_layOnes_66 v1 v2 bigN (nI 0) Q ∧ (∀ s, s < 4096 → Q.1 107 s = nI 0) ∧ Q.1 1 40 = nI 0 ∧ (∀ n, n ≠ 1 → n ≠ 107 → Q.1 n = P.1 n) ∧ (∀ k, k ≠ 40 → Q.1 1 k = P.1 1 k) ∧ Q.2 = P.2 := by
  intro m
  induction m with
  | zero =>
    intro k n P hk hn h0
    obtain ⟨n, rfl⟩ : ∃ q, n = q + 1 := ⟨n - 1, by omega⟩
    obtain rfl : k = 4096 := by omega
    refine ⟨sI P 1 40 (nI 0), ?_, fun s hs => by rw [rowI_o _ _ _ (by decide)]; exact h0 s hs, by rw [rowI_s, pk_us], fun n a b => rowI_o _ _ _ a, fun k a => by rw [rowI_s, pk_un a], rfl⟩
    unfold Mo_layOnes_39
    rw [if_pos (by decide), Option.bind_some]
    rfl
  | succ m ih =>
    intro k n P hk hn h0
    obtain ⟨n, rfl⟩ : ∃ q, n = q + 1 := ⟨n - 1, by omega⟩
    have hk9 : k < 4096 := by omega
    obtain ⟨Q, e1, e2, e3, e4, e5, e6⟩ := ih (k + 1) n (sI P 107 k (nI 0)) (by omega) (by omega) (fun s hs => by
      rw [rowI_s]
      by_cases z : s = k
      · rw [z, pk_us]
      · rw [pk_un z]; exact h0 s (by omega))
    refine ⟨Q, ?_, e2, e3, fun n a b => by rw [e4 n a b, rowI_o _ _ _ b], fun k a => by rw [e5 k a, rowI_o _ _ _ (by decide)], e6⟩
    unfold Mo_layOnes_39
    rw [if_neg (show ¬ (4096 : Int32) ≤ nI k from (show ¬ nI 4096 ≤ nI k from nI_ge hk9 (by decide))), z_gd hk9 (by decide), z_cl (by omega), bn0, Option.bind_some, show nI k + 1 = nI (k + 1) from nI_1 _]
    exact e1
theorem lo_15 (v1 v2 : Int32) : ∀ (m k n : Nat) (P : PH), k + m = 98304 → m < n → (∀ s, s < k → P.1 106 s = nI 0) → ∃ Q, Mo_layOnes_15 v1 v2 n (nI k) P = Mo_layOnes_39 v1 v2 bigN (nI 0) Q ∧ (∀ s, s < 98304 → Q.1 106 s = nI 0) ∧ (∀ n, n ≠ 106 → Q.1 n = P.1 n) ∧ Q.2 = P.2 := by
  intro m
  induction m with
  | zero =>
    intro k n P hk hn h0
    obtain ⟨n, rfl⟩ : ∃ q, n = q + 1 := ⟨n - 1, by omega⟩
    obtain rfl : k = 98304 := by omega
    refine ⟨P, ?_, h0, fun _ _ => rfl, rfl⟩
    unfold Mo_layOnes_15
    rw [if_pos (by decide)]
    rfl
  | succ m ih =>
    intro k n P hk hn h0
    obtain ⟨n, rfl⟩ : ∃ q, n = q + 1 := ⟨n - 1, by omega⟩
    have hk9 : k < 98304 := by omega
    obtain ⟨Q, e1, e2, e3, e4⟩ := ih (k + 1) n (sI P 106 k (nI 0)) (by omega) (by omega) (fun s hs => by
      rw [rowI_s]
      by_cases z : s = k
      · rw [z, pk_us]
      · rw [pk_un z]; exact h0 s (by omega))
    refine ⟨Q, ?_, e2, fun n a => by rw [e3 n a, rowI_o _ _ _ a], e4⟩
    unfold Mo_layOnes_15
    rw [if_neg (show ¬ (98304 : Int32) ≤ nI k from (show ¬ nI 98304 ≤ nI k from nI_ge hk9 (by decide))), z_gd hk9 (by decide), z_cl (by omega), bn0, Option.bind_some, show nI k + 1 = nI (k + 1) from nI_1 _]
    exact e1
theorem mo_ones (hD : WD D) (hL : nL D c ≤ 6) (hl : len < 100) (hR : RD D (P.1 88)) (hG : GIm D c (nL D c) H cs P) : ∃ (o : Nat → Bool) (Q : PH), Mo_layOnes (nI len) P = some Q ∧ (∀ s, s < 4096 → Q.1 107 s = nI (if o s then 1 else 0)) ∧ (∀ s, s < 4096 → (o s = true ↔ One D c len s)) ∧ oM P Q ∧ Q.1 1 38 = nI (nL D c) := by
  obtain ⟨g1, g2, g3, g4, g5⟩ := id hG
  obtain ⟨P1, a1, a2, a3, a4⟩ := lo_15 (nI len) (anyI D) 98304 0 bigN P rfl (big_gt (by omega)) (fun s hs => by omega)
  obtain ⟨P2, b1, b2, b3, b4, b5, b6⟩ := lo_39 (nI len) (anyI D) 4096 0 bigN P1 rfl (big_gt (by omega)) (fun s hs => by omega)
  have H12 : H ≤ 12 := by have := g1.1; omega
  have o2 : oM P P2 := ⟨fun n a b => by rw [b4 n a (by omega), a3 n (by omega)], fun k _ _ e => by rw [b5 k e, a3 1 (by decide)], b6.trans a4⟩
  have hG2 : GIm D c (nL D c) H cs P2 := ⟨g1, by rw [b5 39 (by decide), a3 1 (by decide)]; exact g2, by rw [b5 38 (by decide), a3 1 (by decide)]; exact g3, fun j hj => by rw [b4 103 (by decide) (by decide), a3 103 (by decide)]; exact g4 j hj, fun i hi => by rw [b4 102 (by decide) (by decide), a3 102 (by decide)]; exact g5 i hi⟩
  have hB2 : BSt (fun _ => false) (fun _ => 0) 0 P2 := ⟨b3, fun z hz => by rw [b4 106 (by decide) (by decide)]; exact a2 z hz, fun j hj => by omega, fun i j hi => by omega, fun z _ h => by cases h⟩
  have hR2 : RD D (P2.1 88) := by rw [b4 88 (by decide) (by decide), a3 88 (by decide)]; exact hR
  obtain ⟨sn, q, R, P3, c1, c2, c3, c4, c5, c6⟩ := lo_66 (len := len) hL (nI len) H 0 bigN P2 (fun _ => false) (fun _ => 0) 0 (by omega) (big_gt (by omega)) hR2 hG2 hB2 (fun z h => by cases h) (fun h hh => by omega)
  obtain ⟨u1, u2, u3, u4, u5⟩ := hG2
  obtain ⟨o, Q, d1, d2, d3, d4, d5⟩ := lo_128 hD hL hl 98304 0 bigN P3 sn q R (fun _ => false) rfl (big_gt (by omega)) (by rw [c5.1 88 (by decide) (by decide) (by decide) (by decide)]; exact hR2) ⟨u1, by rw [c5.2.1 39 (by decide)]; exact u2, by rw [c5.2.1 38 (by decide)]; exact u3, fun j hj => by rw [c6]; exact u4 j hj, fun i hi => by rw [c5.1 102 (by decide) (by decide) (by decide) (by decide)]; exact u5 i hi⟩ c2 c3 (Nat.zero_le _) (fun s hs => by rw [c5.1 107 (by decide) (by decide) (by decide) (by decide)]; exact b2 s hs) (fun s hs => ⟨fun h => (by cases h), fun ⟨j, hj, _⟩ => (by omega)⟩) c4 (fun s h v hh hj => by
    obtain ⟨j, j1, -⟩ := hj
    omega)
  refine ⟨o, Q, ?_, d2, d3, (o2.tr c5.m).tr d4, by rw [d5, c5.2.1 38 (by decide)]; exact u3⟩
  have go : Mo_layOnes_15 (nI len) (anyI D) bigN (nI 0) P = some Q := by rw [a1, b1, c1, d1]
  unfold Mo_layOnes
  rw [mo_knots hR, Option.bind_some]
  have ctl : fb_ct (dK D) 144 ≤ 144 := fb_ct_le _ _
  unfold anyI at go
  by_cases c0 : fb_ct (dK D) 144 = 0
  · rw [if_pos c0] at go
    rw [if_pos (by rw [c0]; rfl)]
    exact go
  · rw [if_neg c0] at go
    rw [if_neg (nI_ne0 (by omega) (by omega))]
    exact go
end ONE
