/-! THREADS: the lines of an ink, the holes at their ends -/
def qI (D : DT) (c l : Nat) : Bool := decide (dI D l = c)
def mlD (D : DT) (c k : Nat) : Nat := (fsp (fun l => qI D c l && decide (fb_ct (qI D c) l = k)) (dN D)).getD 0
theorem ml_is {D : DT} {c l : Nat} (hl : l < dN D) (q : qI D c l = true) : mlD D c (fb_ct (qI D c) l) = l := by
  unfold mlD
  rw [fsp_is hl (by rw [q, decide_eq_true rfl]; rfl) (fun j hj => ts_nt (fun z => by
    rw [Bool.and_eq_true, decide_eq_true_eq] at z
    have := fb_ct_kth_one z.1 q z.2
    omega))]
  rfl
theorem ml_ok {D : DT} {c k : Nat} (hk : k < fb_ct (qI D c) (dN D)) : mlD D c k < dN D ∧ qI D c (mlD D c k) = true ∧ fb_ct (qI D c) (mlD D c k) = k := by
  obtain ⟨l, a, b, e⟩ := fb_ct_kth hk
  have := ml_is a b
  rw [e] at this
  rw [this]
  exact ⟨a, b, e⟩
theorem ct_next {p : Nat → Bool} {i j : Nat} (h : p i = true) (hj : i < j) : fb_ct p i + 1 ≤ fb_ct p j := by
  have := fb_ct_mono p (show i + 1 ≤ j by omega)
  rw [fb_ct_succ, h, if_pos rfl] at this
  exact this
/-- the ends of the first k lines -/
def CSt (D : DT) (c k H : Nat) (cs : Nat → Nat) : Prop := H ≤ 2 * k ∧ (∀ j, j < H → cs j < 144 ∧ ∃ i, i < k ∧ dat D (cs j) (mlD D c i) = true) ∧ (∀ i j, i < H → j < H → cs i = cs j → i = j) ∧ ∀ i, i < k → (∃ a, a < H ∧ cs a = dF D (mlD D c i)) ∧ ∃ b, b < H ∧ cs b = dT D (mlD D c i)
/-- a hole more, if it isn't there -/
def ADc (H : Nat) (cs : Nat → Nat) (x a H' : Nat) (cs' : Nat → Nat) : Prop := a < H' ∧ cs' a = x ∧ H ≤ H' ∧ H' ≤ H + 1 ∧ (∀ j, j < H → cs' j = cs j) ∧ (∀ j, j < H' → j < H ∨ cs' j = x) ∧ ∀ i j, i < H' → j < H' → cs' i = cs' j → i = j
theorem ADc.same {H : Nat} {cs : Nat → Nat} {x a : Nat} (h1 : a < H) (h2 : cs a = x) (hd : ∀ i j, i < H → j < H → cs i = cs j → i = j) : ADc H cs x a H cs := ⟨h1, h2, Nat.le_refl _, Nat.le_succ _, fun _ _ => rfl, fun j hj => Or.inl hj, hd⟩
theorem ADc.new {H : Nat} {cs : Nat → Nat} {x : Nat} (hn : ∀ j, j < H → cs j ≠ x) (hd : ∀ i j, i < H → j < H → cs i = cs j → i = j) : ADc H cs x H (H + 1) (fun j => if j = H then x else cs j) := by
  refine ⟨Nat.lt_succ_self _, if_pos rfl, Nat.le_succ _, Nat.le_refl _, fun j hj => if_neg (by omega), fun j hj => ?_, fun i j hi hj e => ?_⟩
  · by_cases q : j = H
    · exact Or.inr (if_pos q)
    · exact Or.inl (by omega)
  · by_cases qi : i = H
    · by_cases qj : j = H
      · omega
      · have e : (if i = H then x else cs i) = (if j = H then x else cs j) := e
        rw [if_pos qi, if_neg qj] at e
        exact absurd e.symm (hn j (by omega))
    · by_cases qj : j = H
      · have e : (if i = H then x else cs i) = (if j = H then x else cs j) := e
        rw [if_neg qi, if_pos qj] at e
        exact absurd e (hn i (by omega))
      · have e : (if i = H then x else cs i) = (if j = H then x else cs j) := e
        rw [if_neg qi, if_neg qj] at e
        exact hd i j (by omega) (by omega) e
theorem CSt.step {D : DT} {c k H H1 H2 : Nat} {cs cs1 cs2 : Nat → Nat} {a b : Nat} (hD : WD D) (hk : k < fb_ct (qI D c) (dN D)) (h : CSt D c k H cs) (h1 : ADc H cs (dF D (mlD D c k)) a H1 cs1) (h2 : ADc H1 cs1 (dT D (mlD D c k)) b H2 cs2) : CSt D c (k + 1) H2 cs2 ∧ a < H2 ∧ b < H2 ∧ cs2 a = dF D (mlD D c k) ∧ cs2 b = dT D (mlD D c k) ∧ ∀ j, j < H → cs2 j = cs j := by
  obtain ⟨g1, g2, g3, g4⟩ := h
  obtain ⟨a1, a2, a3, a4, a5, a6, a7⟩ := h1
  obtain ⟨b1, b2, b3, b4, b5, b6, b7⟩ := h2
  obtain ⟨m1, m2, m3⟩ := ml_ok hk
  have f1 := (hD.2.1 _ m1).1
  have f2 := (hD.to m1).1
  have old : ∀ j, j < H → cs2 j = cs j := fun j hj => by rw [b5 j (by omega), a5 j hj]
  refine ⟨⟨by omega, fun j hj => ?_, b7, fun i hi => ?_⟩, by omega, b1, by rw [b5 a a1, a2], b2, old⟩
  · rcases b6 j hj with q | q
    · rcases a6 j q with z | z
      · rw [old j z]
        obtain ⟨u, i, v, w⟩ := g2 j z
        exact ⟨u, i, by omega, w⟩
      · rw [b5 j q, z]
        exact ⟨f1, k, by omega, dat_F D _⟩
    · rw [q]
      exact ⟨f2, k, by omega, dat_T D _⟩
  · by_cases q : i = k
    · rw [q]
      exact ⟨⟨a, by omega, by rw [b5 a a1, a2]⟩, b, b1, b2⟩
    · obtain ⟨⟨u, u1, u2⟩, w, w1, w2⟩ := g4 i (by omega)
      exact ⟨⟨u, by omega, by rw [old u u1]; exact u2⟩, w, by omega, by rw [old w w1]; exact w2⟩
section COR
variable {D : DT} {N : NT} {P : PH} {c : Nat}
/-! the class -/
def oE (P Q : PH) : Prop := (∀ n, n ≠ 82 → n ≠ 85 → Q.1 n = P.1 n) ∧ (∀ k, k ≠ 4 → Q.1 82 k = P.1 82 k) ∧ Q.2 = P.2
theorem sh_end {H : Nat} {cs : Nat → Nat} (hH : H ≤ 11) (h4 : P.1 82 4 = nI H) (h5 : ∀ j, j < H → P.1 85 j = nI (cs j)) (hc : ∀ j, j < H → cs j < 144) (hd : ∀ i j, i < H → j < H → cs i = cs j → i = j) {x : Nat} (hx : x < 144) : ∃ (a H' : Nat) (cs' : Nat → Nat) (Q : PH), Sh_endOf (nI x) P = some (nI a, Q) ∧ ADc H cs x a H' cs' ∧ Q.1 82 4 = nI H' ∧ (∀ j, j < H' → Q.1 85 j = nI (cs' j)) ∧ oE P Q := by
  have skip : ∀ (n k : Nat), k < H → cs k ≠ x → Sh_endOf_2 (nI x) (n + 1) (nI k) P = Sh_endOf_2 (nI x) n (nI (k + 1)) P := by
    intro n k hk hne
    conv => lhs; unfold Sh_endOf_2
    rw [h4, if_neg (nI_ge hk (by omega)), if_neg (show ¬ (12 : Int32) ≤ nI k from (show ¬ nI 12 ≤ nI k from nI_ge (by omega) (by decide))), z_gd (by omega) (by decide), z_cl (by omega), h5 k hk, if_neg (show ¬ nI (cs k) = nI x by rw [z_eq (by have := hc k hk; omega) (by omega)]; exact hne), show nI k + 1 = nI (k + 1) from nI_1 _]
  have walk : ∀ (t : Nat), t ≤ H → (∀ j, j < t → cs j ≠ x) → ∀ (m k n : Nat), k + m = t → Sh_endOf_2 (nI x) (n + m) (nI k) P = Sh_endOf_2 (nI x) n (nI t) P := by
    intro t ht hne m
    induction m with
    | zero => intro k n hk; rw [show k = t by omega]; rfl
    | succ m ih =>
      intro k n hk
      rw [show n + (m + 1) = n + m + 1 by omega, skip (n + m) k (by omega) (hne k (by omega)), ih (k + 1) n (by omega)]
  by_cases ex : ∃ a, a < H ∧ cs a = x
  · obtain ⟨a, a1, a2, a3⟩ := fb_first (p := fun a => cs a = x) ex
    obtain ⟨n, hn⟩ : ∃ n, bigN = (n + 1) + a := ⟨bigN - a - 1, by have : (1000 : Nat) < bigN := big_gt (by omega); omega⟩
    refine ⟨a, H, cs, P, ?_, ADc.same a1 a2 hd, h4, h5, fun _ _ _ => rfl, fun _ _ => rfl, rfl⟩
    unfold Sh_endOf
    rw [hn, show (0 : Int32) = nI 0 from rfl, walk a (by omega) a3 a 0 (n + 1) (by omega)]
    unfold Sh_endOf_2
    rw [h4, if_neg (nI_ge a1 (by omega)), if_neg (show ¬ (12 : Int32) ≤ nI a from (show ¬ nI 12 ≤ nI a from nI_ge (by omega) (by decide))), z_gd (by omega) (by decide), z_cl (by omega), h5 a a1, if_pos (by rw [a2])]
  · have hne : ∀ j, j < H → cs j ≠ x := fun j hj q => ex ⟨j, hj, q⟩
    obtain ⟨n, hn⟩ : ∃ n, bigN = (n + 1) + H := ⟨bigN - H - 1, by have : (1000 : Nat) < bigN := big_gt (by omega); omega⟩
    obtain ⟨Q, hQ⟩ : ∃ Q, Q = sI (sI P 85 H (nI x)) 82 4 (nI (H + 1)) := ⟨_, rfl⟩
    refine ⟨H, H + 1, _, Q, ?_, ADc.new hne hd, by rw [hQ, rowI_s, pk_us], fun j hj => ?_, ⟨fun n a b => by rw [hQ, rowI_o _ _ _ a, rowI_o _ _ _ b], fun k a => by rw [hQ, rowI_s, pk_un a, rowI_o _ _ _ (by decide)], by rw [hQ]; rfl⟩⟩
    · unfold Sh_endOf
      rw [hn, show (0 : Int32) = nI 0 from rfl, walk H (Nat.le_refl _) hne H 0 (n + 1) (by omega)]
      unfold Sh_endOf_2
      rw [h4, if_pos (by rw [z_le (by omega) (by omega)]; exact Nat.le_refl _)]
      unfold Sh_endOf_34
      rw [h4, show (0 : Int32) = nI 0 from rfl, if_neg (show ¬ nI H < nI 0 by rw [z_lt (by omega) (by omega)]; omega), if_neg (show ¬ (12 : Int32) ≤ nI H from (show ¬ nI 12 ≤ nI H from nI_ge (by omega) (by decide))), z_gd (by omega) (by decide), z_cl (by omega), Option.bind_some, rowI_o _ _ _ (by decide), h4, Option.bind_some, show nI H + (1 : Int32) = nI (H + 1) from nI_1 _, ← hQ, show Q.1 82 4 = nI (H + 1) by rw [hQ, rowI_s, pk_us], show nI (H + 1) - (1 : Int32) = nI H from nI_pred H]
    · rw [hQ, rowI_o _ _ _ (by decide), rowI_s]
      show upd (P.1 85) H (nI x) j = nI (if j = H then x else cs j)
      by_cases q : j = H
      · rw [if_pos q, q, pk_us]
      · rw [if_neg q, pk_un q]
        exact h5 j (by omega)
def oSh (P Q : PH) : Prop := (∀ n, n < 82 ∨ 87 < n → Q.1 n = P.1 n) ∧ Q.2 = P.2
theorem oSh.rf (P : PH) : oSh P P := ⟨fun _ _ => rfl, rfl⟩
theorem oSh.tr {P Q R : PH} (h : oSh P Q) (h2 : oSh Q R) : oSh P R := ⟨fun n a => (h2.1 n a).trans (h.1 n a), h2.2.trans h.2⟩
theorem oE.sh {P Q : PH} (h : oE P Q) : oSh P Q := ⟨fun n a => h.1 n (by omega) (by omega), h.2.2⟩
theorem oSh.s {P Q : PH} (h : oSh P Q) {n : Nat} (hn : 82 ≤ n ∧ n ≤ 87) (k : Nat) (v : Int32) : oSh P (sI Q n k v) := ⟨fun m a => by rw [rowI_o _ _ _ (by omega)]; exact h.1 m a, h.2⟩
theorem iR8 {n : Nat} (h : 82 ≤ n ∧ n ≤ 87) (k : Nat) : iR n k = false := by
  rcases (show n = 82 ∨ n = 83 ∨ n = 84 ∨ n = 85 ∨ n = 86 ∨ n = 87 by omega) with rfl | rfl | rfl | rfl | rfl | rfl <;> rfl
theorem oSh.scr {P Q : PH} (h : oSh P Q) : scr P Q := by
  refine ⟨fun n k q => ?_, fun n k _ => by rw [h.2]⟩
  by_cases c : n < 82 ∨ 87 < n
  · rw [h.1 n c]
  · rw [iR8 (by omega)] at q
    cases q
theorem CD.kS {Q : PH} (cd : CD 3 D P) (o : oSh P Q) : CD 3 D Q := cd.keep (o.1 _ (by omega)) (o.1 _ (by omega)) (o.1 _ (by omega)) (o.1 _ (by omega)) (o.1 _ (by omega)) (by rw [o.2]) (by rw [o.2]) (o.1 _ (by omega))
def GIc (D : DT) (c k H : Nat) (cs : Nat → Nat) (P : PH) : Prop := CSt D c k H cs ∧ P.1 82 4 = nI H ∧ P.1 82 7 = nI k ∧ (∀ j, j < H → P.1 85 j = nI (cs j)) ∧ ∀ i, i < k → ∃ a b, a < H ∧ b < H ∧ P.1 86 i = nI a ∧ P.1 87 i = nI b ∧ cs a = dF D (mlD D c i) ∧ cs b = dT D (mlD D c i)
theorem sh_gat (hD : WD D) (hL : fb_ct (qI D c) (dN D) ≤ 6) : ∀ (m k n : Nat) (v3 : Int64) (H : Nat) (cs : Nat → Nat) (P : PH), k + m = fb_ct (qI D c) (dN D) → m < n → CD 3 D P → GIc D c k H cs P → (∀ i, i < 64 → bL v3 i = (decide (i < dN D) && (qI D c i && decide (k ≤ fb_ct (qI D c) i)))) → ∃ (H' : Nat) (cs' : Nat → Nat) (Q : PH), Sh_gather_15 n v3 (nI k) P = some Q ∧ GIc D c (fb_ct (qI D c) (dN D)) H' cs' Q ∧ oSh P Q := by
  have h60 := hD.1
  intro m
  induction m with
  | zero =>
    intro k n v3 H cs P hk hn hC hG hv
    obtain ⟨n, rfl⟩ : ∃ q, n = q + 1 := ⟨n - 1, by omega⟩
    have hk : k = fb_ct (qI D c) (dN D) := by omega
    have z : lg_cmp v3 0 = 0 := (lgz v3).mpr (fun i hi => by
      rw [hv i hi]
      refine ts_nt (fun q => ?_)
      rw [Bool.and_eq_true, Bool.and_eq_true, decide_eq_true_eq, decide_eq_true_eq] at q
      have := ct_next q.2.1 q.1
      omega)
    refine ⟨H, cs, P, ?_, by rw [← hk]; exact hG, oSh.rf P⟩
    unfold Sh_gather_15
    rw [if_pos z, ite_self]
  | succ m ih =>
    intro k n v3 H cs P hk hn hC hG hv
    obtain ⟨n, rfl⟩ : ∃ q, n = q + 1 := ⟨n - 1, by omega⟩
    have hkL : k < fb_ct (qI D c) (dN D) := by omega
    obtain ⟨m1, m2, m3⟩ := ml_ok hkL
    have f1 := (hD.2.1 _ m1).1
    have f2 := (hD.to m1).1
    obtain ⟨g1, g2, g3, g4, g5⟩ := hG
    have b1 : bL v3 (mlD D c k) = true := by rw [hv _ (by omega), m2, decide_eq_true m1, decide_eq_true (show k ≤ fb_ct (qI D c) (mlD D c k) by omega)]; rfl
    have b2 : ∀ j, j < mlD D c k → bL v3 j = false := fun j hj => by
      rw [hv _ (by omega)]
      refine ts_nt (fun q => ?_)
      rw [Bool.and_eq_true, Bool.and_eq_true, decide_eq_true_eq, decide_eq_true_eq] at q
      have := ct_next q.2.1 hj
      omega
    have nz : ¬ lg_cmp v3 0 = 0 := fun z => by
      have := (lgz v3).mp z (mlD D c k) (by omega)
      rw [b1] at this; cases this
    obtain ⟨a, H1, cs1, P1, e1, e2, e3, e4, e5⟩ := sh_end (x := dF D (mlD D c k)) (by have := g1.1; omega) g2 g4 (fun j hj => (g1.2.1 j hj).1) g1.2.2.1 f1
    obtain ⟨P2, hP2⟩ : ∃ P2, P2 = sI P1 86 k (nI a) := ⟨_, rfl⟩
    have o2 : oSh P P2 := by rw [hP2]; exact e5.sh.s (by omega) _ _
    have r82 : P2.1 82 = P1.1 82 := by rw [hP2, rowI_o _ _ _ (by decide)]
    have r85 : P2.1 85 = P1.1 85 := by rw [hP2, rowI_o _ _ _ (by decide)]
    have hc1 : ∀ j, j < H1 → cs1 j < 144 := fun j hj => by
      rcases e2.2.2.2.2.2.1 j hj with q | q
      · rw [e2.2.2.2.2.1 j q]; exact (g1.2.1 j q).1
      · rw [q]; exact f1
    obtain ⟨b, H2, cs2, P3, d1, d2, d3, d4, d5⟩ := sh_end (P := P2) (x := dT D (mlD D c k)) (by have := g1.1; have := e2.2.2.2.1; omega) (by rw [r82]; exact e3) (fun j hj => by rw [r85]; exact e4 j hj) hc1 e2.2.2.2.2.2.2 f2
    obtain ⟨s1, s2, s3, s4, s5, s6⟩ := CSt.step hD hkL g1 e2 d2
    obtain ⟨P4, hP4⟩ : ∃ P4, P4 = sI (sI P3 87 k (nI b)) 82 7 (nI (k + 1)) := ⟨_, rfl⟩
    have o4 : oSh P P4 := by rw [hP4]; exact ((o2.tr d5.sh).s (by omega) _ _).s (by omega) _ _
    have i86 : P4.1 86 = upd (P.1 86) k (nI a) := by rw [hP4, rowI_o _ _ _ (by decide), rowI_o _ _ _ (by decide), d5.1 86 (by decide) (by decide), hP2, rowI_s, e5.1 86 (by decide) (by decide)]
    have i87 : P4.1 87 = upd (P.1 87) k (nI b) := by rw [hP4, rowI_o _ _ _ (by decide), rowI_s, d5.1 87 (by decide) (by decide), hP2, rowI_o _ _ _ (by decide), e5.1 87 (by decide) (by decide)]
    have i7 : P3.1 82 7 = nI k := by rw [d5.2.1 7 (by decide), r82, e5.2.1 7 (by decide)]; exact g3
    obtain ⟨H', cs', Q, q1, q2, q3⟩ := ih (k + 1) n (v3 &&& (v3 - 1)) H2 cs2 P4 (by omega) (by omega) (hC.kS o4) ⟨s1, by rw [hP4, rowI_s, pk_un (by decide), rowI_o _ _ _ (by decide)]; exact d3, by rw [hP4, rowI_s, pk_us], fun j hj => by rw [hP4, rowI_o _ _ _ (by decide), rowI_o _ _ _ (by decide)]; exact d4 j hj, fun i hi => by
      by_cases z : i = k
      · rw [z]
        exact ⟨a, b, s2, s3, by rw [i86, pk_us], by rw [i87, pk_us], s4, s5⟩
      · obtain ⟨u, w, u1, w1, u2, w2, u3, w3⟩ := g5 i (by omega)
        have := e2.2.2.1
        have := d2.2.2.1
        exact ⟨u, w, by omega, by omega, by rw [i86, pk_un z]; exact u2, by rw [i87, pk_un z]; exact w2, by rw [s6 u u1]; exact u3, by rw [s6 w w1]; exact w3⟩⟩ (fun i hi => by
      rw [bL_clear b1 b2, hv i hi]
      cases z : qI D c i
      · simp
      · by_cases y : i < dN D
        · have key : (k ≤ fb_ct (qI D c) i ∧ ¬ i = mlD D c k) ↔ k + 1 ≤ fb_ct (qI D c) i := by
            constructor
            · rintro ⟨x1, x2⟩
              by_cases x3 : fb_ct (qI D c) i = k
              · exact absurd (by rw [← x3]; exact (ml_is y z).symm) x2
              · omega
            · intro x
              exact ⟨by omega, fun x2 => by rw [x2, m3] at x; omega⟩
          by_cases w : k + 1 ≤ fb_ct (qI D c) i
          · have := key.mpr w
            simp [w, this.1, this.2]
          · have w2 : ¬ (k ≤ fb_ct (qI D c) i ∧ ¬ i = mlD D c k) := fun x => w (key.mp x)
            by_cases w3 : k ≤ fb_ct (qI D c) i
            · have w4 : i = mlD D c k := by
                by_cases w5 : i = mlD D c k
                · exact w5
                · exact absurd ⟨w3, w5⟩ w2
              rw [decide_eq_false w, decide_eq_true w4]
              simp
            · simp [w, w3]
        · simp [y])
    refine ⟨H', cs', Q, ?_, q2, o4.tr q3⟩
    unfold Sh_gather_15
    rw [if_neg (show ¬ (6 : Int32) ≤ nI k from (show ¬ nI 6 ≤ nI k from nI_ge (by omega) (by decide))), if_neg nz, low_is (by omega) b1 b2 P, Option.bind_some, dr_from hD hC m1, Option.bind_some, e1, Option.bind_some, z_gd (by omega) (by decide), z_cl (by omega), Option.bind_some, ← hP2, dr_to hD (hC.kS o2) m1, Option.bind_some, d1, Option.bind_some, z_gd (by omega) (by decide), Option.bind_some, rowI_o _ _ _ (by decide), i7, Option.bind_some, show nI k + (1 : Int32) = nI (k + 1) from nI_1 _, ← hP4, Option.bind_some]
    exact q1
/-! the reference -/
def oM (P Q : PH) : Prop := (∀ n, n ≠ 1 → n < 102 ∨ 107 < n → Q.1 n = P.1 n) ∧ (∀ k, k ≠ 38 → k ≠ 39 → k ≠ 40 → Q.1 1 k = P.1 1 k) ∧ Q.2 = P.2
theorem oM.rf (P : PH) : oM P P := ⟨fun _ _ _ => rfl, fun _ _ _ _ => rfl, rfl⟩
theorem oM.tr {P Q R : PH} (h : oM P Q) (h2 : oM Q R) : oM P R := ⟨fun n a b => (h2.1 n a b).trans (h.1 n a b), fun k a b e => (h2.2.1 k a b e).trans (h.2.1 k a b e), h2.2.2.trans h.2.2⟩
theorem oM.s {P Q : PH} (h : oM P Q) {n : Nat} (hn : 102 ≤ n ∧ n ≤ 107) (k : Nat) (v : Int32) : oM P (sI Q n k v) := ⟨fun m a b => by rw [rowI_o _ _ _ (by omega)]; exact h.1 m a b, fun j a b e => by rw [rowI_o _ _ _ (by omega)]; exact h.2.1 j a b e, h.2.2⟩
theorem oM.s1 {P Q : PH} (h : oM P Q) {k : Nat} (hk : 38 ≤ k ∧ k ≤ 40) (v : Int32) : oM P (sI Q 1 k v) := ⟨fun m a b => by rw [rowI_o _ _ _ a]; exact h.1 m a b, fun j a b e => by rw [rowI_s, pk_un (by omega)]; exact h.2.1 j a b e, h.2.2⟩
theorem iR10 {n : Nat} (h : 102 ≤ n ∧ n ≤ 107) (k : Nat) : iR n k = false := by
  rcases (show n = 102 ∨ n = 103 ∨ n = 104 ∨ n = 105 ∨ n = 106 ∨ n = 107 by omega) with rfl | rfl | rfl | rfl | rfl | rfl <;> rfl
theorem oM.scr {P Q : PH} (h : oM P Q) : scr P Q := by
  refine ⟨fun n k q => ?_, fun n k _ => by rw [h.2.2]⟩
  by_cases e : n = 1
  · subst e
    exact h.2.1 k (fun z => by rw [z] at q; cases q) (fun z => by rw [z] at q; cases q) (fun z => by rw [z] at q; cases q)
  · by_cases c : n < 102 ∨ 107 < n
    · rw [h.1 n e c]
    · rw [iR10 (by omega)] at q
      cases q
theorem mo_cor {H : Nat} {cs : Nat → Nat} (hH : H ≤ 12) (h4 : P.1 1 39 = nI H) (h5 : ∀ j, j < H → P.1 103 j = nI (cs j)) (hc : ∀ j, j < H → cs j < 144) (hd : ∀ i j, i < H → j < H → cs i = cs j → i = j) {x : Nat} (hx : x < 144) (room : H ≤ 11 ∨ ∃ a, a < H ∧ cs a = x) : ∃ (a H' : Nat) (cs' : Nat → Nat) (Q : PH), Mo_corner (nI x) P = some (nI a, Q) ∧ ADc H cs x a H' cs' ∧ (H' = H ∨ H ≤ 11) ∧ Q.1 1 39 = nI H' ∧ (∀ j, j < H' → Q.1 103 j = nI (cs' j)) ∧ (∀ n, n ≠ 1 → n ≠ 103 → Q.1 n = P.1 n) ∧ (∀ k, k ≠ 39 → Q.1 1 k = P.1 1 k) ∧ Q.2 = P.2 ∧ ((∃ a, a < H ∧ cs a = x) → H' = H ∧ Q.1 1 = P.1 1 ∧ ∀ j, j < H → cs' j = cs j) := by
  have skip : ∀ (n k : Nat), k < H → cs k ≠ x → Mo_corner_2 (nI x) (n + 1) (nI k) P = Mo_corner_2 (nI x) n (nI (k + 1)) P := by
    intro n k hk hne
    conv => lhs; unfold Mo_corner_2
    rw [h4, if_neg (nI_ge hk (by omega)), z_gd (by omega) (by decide), z_cl (by omega), h5 k hk, if_neg (show ¬ nI (cs k) = nI x by rw [z_eq (by have := hc k hk; omega) (by omega)]; exact hne), show nI k + 1 = nI (k + 1) from nI_1 _]
  have walk : ∀ (t : Nat), t ≤ H → (∀ j, j < t → cs j ≠ x) → ∀ (m k n : Nat), k + m = t → Mo_corner_2 (nI x) (n + m) (nI k) P = Mo_corner_2 (nI x) n (nI t) P := by
    intro t ht hne m
    induction m with
    | zero => intro k n hk; rw [show k = t by omega]; rfl
    | succ m ih =>
      intro k n hk
      rw [show n + (m + 1) = n + m + 1 by omega, skip (n + m) k (by omega) (hne k (by omega)), ih (k + 1) n (by omega)]
  by_cases ex : ∃ a, a < H ∧ cs a = x
  · obtain ⟨a, a1, a2, a3⟩ := fb_first (p := fun a => cs a = x) ex
    obtain ⟨n, hn⟩ : ∃ n, bigN = (n + 1) + a := ⟨bigN - a - 1, by have : (1000 : Nat) < bigN := big_gt (by omega); omega⟩
    refine ⟨a, H, cs, sI P 103 a (nI x), ?_, ADc.same a1 a2 hd, Or.inl rfl, by rw [rowI_o _ _ _ (by decide)]; exact h4, fun j hj => ?_, fun n a b => rowI_o _ _ _ b, fun k _ => by rw [rowI_o _ _ _ (by decide)], rfl, fun _ => ⟨rfl, by rw [rowI_o _ _ _ (by decide)], fun _ _ => rfl⟩⟩
    · unfold Mo_corner
      rw [hn, show (0 : Int32) = nI 0 from rfl, walk a (by omega) a3 a 0 (n + 1) (by omega)]
      unfold Mo_corner_2 Mo_corner_26
      rw [h4, if_neg (nI_ge a1 (by omega)), z_gd (by omega) (by decide), z_cl (by omega), h5 a a1, if_pos (by rw [a2]), z_gd (by omega) (by decide), Option.bind_some, rowI_o _ _ _ (by decide), h4, if_neg (show ¬ nI a = nI H by rw [z_eq (by omega) (by omega)]; omega)]
    · rw [rowI_s]
      by_cases q : j = a
      · rw [q, pk_us, a2]
      · rw [pk_un q]; exact h5 j hj
  · have hne : ∀ j, j < H → cs j ≠ x := fun j hj q => ex ⟨j, hj, q⟩
    have hH2 : H ≤ 11 := room.resolve_right ex
    obtain ⟨n, hn⟩ : ∃ n, bigN = (n + 1) + H := ⟨bigN - H - 1, by have : (1000 : Nat) < bigN := big_gt (by omega); omega⟩
    obtain ⟨Q, hQ⟩ : ∃ Q, Q = sI (sI P 103 H (nI x)) 1 39 (nI (H + 1)) := ⟨_, rfl⟩
    refine ⟨H, H + 1, _, Q, ?_, ADc.new hne hd, Or.inr hH2, by rw [hQ, rowI_s, pk_us], fun j hj => ?_, fun n a b => by rw [hQ, rowI_o _ _ _ a, rowI_o _ _ _ b], fun k a => by rw [hQ, rowI_s, pk_un a, rowI_o _ _ _ (by decide)], by rw [hQ]; rfl, fun q => absurd q ex⟩
    · unfold Mo_corner
      rw [hn, show (0 : Int32) = nI 0 from rfl, walk H (Nat.le_refl _) hne H 0 (n + 1) (by omega)]
      unfold Mo_corner_2 Mo_corner_26
      rw [h4, if_pos (by rw [z_le (by omega) (by omega)]; exact Nat.le_refl _), z_gd (by omega) (by decide), z_cl (by omega), Option.bind_some, rowI_o _ _ _ (by decide), h4, if_pos rfl, show nI H + (1 : Int32) = nI (H + 1) from nI_1 _, Option.bind_some, ← hQ]
    · rw [hQ, rowI_o _ _ _ (by decide), rowI_s]
      show upd (P.1 103) H (nI x) j = nI (if j = H then x else cs j)
      by_cases q : j = H
      · rw [if_pos q, q, pk_us]
      · rw [if_neg q, pk_un q]
        exact h5 j (by omega)
def GIm (D : DT) (c k H : Nat) (cs : Nat → Nat) (P : PH) : Prop := CSt D c k H cs ∧ P.1 1 39 = nI H ∧ P.1 1 38 = nI k ∧ (∀ j, j < H → P.1 103 j = nI (cs j)) ∧ ∀ i, i < k → P.1 102 i = nI (mlD D c i)
theorem mo_lines (hD : WD D) (hc : c < 4) (v2 : Int32) {t : Nat} (ht : t ≤ dN D) (h6 : fb_ct (qI D c) t ≤ 6) : ∀ (m l n : Nat) (H : Nat) (cs : Nat → Nat) (P : PH), l + m = t → RD D (P.1 88) → GIm D c (fb_ct (qI D c) l) H cs P → ∃ (H' : Nat) (cs' : Nat → Nat) (Q : PH), Mo_threads_49 (nI c) v2 (n + m) (nI l) P = Mo_threads_49 (nI c) v2 n (nI t) Q ∧ GIm D c (fb_ct (qI D c) t) H' cs' Q ∧ oM P Q := by
  have h60 := hD.1
  intro m
  induction m with
  | zero =>
    intro l n H cs P hl hR hG
    rw [show l = t by omega] at hG ⊢
    exact ⟨H, cs, P, rfl, hG, oM.rf P⟩
  | succ m ih =>
    intro l n H cs P hl hR hG
    have hlD : l < dN D := by omega
    have a := (hD.2.1 l hlD).2.2.1
    have l1 : nI l + 1 = nI (l + 1) := nI_1 _
    have hd : ∀ Z, (if nI (dI D l) = nI c then (if (P.1 1 38) = (6 : Int32) then some ((-2 : Int32), P) else gdI (P.1 1 38) 6 <| (some (sI P 102 (P.1 1 38).toNatClampNeg (nI l))).bind fun (P92 : PH) => (some (sI P92 1 38 ((P92.1 1 38) + (1 : Int32)))).bind fun (P100 : PH) =>
          (Mo_from (nI l) P100).bind fun (x106 : Int32) => (Mo_corner x106 P100).bind fun (x109 : Int32 × PH) => (Mo_to (nI l) x109.2).bind fun (x116 : Int32) => (Mo_corner x116 x109.2).bind fun (x119 : Int32 × PH) => Mo_threads_49 (nI c) v2 (n + m) (nI (l + 1)) x119.2)
        else Mo_threads_49 (nI c) v2 (n + m) (nI (l + 1)) P) = Z → Mo_threads_49 (nI c) v2 (n + (m + 1)) (nI l) P = Z := by
      intro Z hZ
      rw [show n + (m + 1) = n + m + 1 by omega]
      unfold Mo_threads_49
      rw [gd_0, mo_0 hR, if_neg (nI_ge hlD (by omega)), mo_ink hD hR hlD, Option.bind_some, l1]
      exact hZ
    cases q : qI D c l
    · have q2 : ¬ dI D l = c := of_decide_eq_false q
      have e : fb_ct (qI D c) (l + 1) = fb_ct (qI D c) l := by rw [fb_ct_succ, q]; rfl
      obtain ⟨H', cs', Q, f1, f2, f3⟩ := ih (l + 1) n H cs P (by omega) hR (by rw [e]; exact hG)
      refine ⟨H', cs', Q, hd _ ?_, f2, f3⟩
      rw [if_neg (by rw [z_eq (by omega) (by omega)]; exact q2)]
      exact f1
    · have q2 : dI D l = c := of_decide_eq_true q
      have e : fb_ct (qI D c) (l + 1) = fb_ct (qI D c) l + 1 := by rw [fb_ct_succ, q]; rfl
      have kl := ct_next q (show l < t by omega)
      have kL := ct_next q hlD
      have em := ml_is hlD q
      obtain ⟨g1, g2, g3, g4, g5⟩ := hG
      generalize hk : fb_ct (qI D c) l = k at *
      have f1 := (hD.2.1 l hlD).1
      have f2 := (hD.to hlD).1
      obtain ⟨P1, hP1⟩ : ∃ P1, P1 = sI (sI P 102 k (nI l)) 1 38 (nI (k + 1)) := ⟨_, rfl⟩
      have o1 : oM P P1 := by rw [hP1]; exact ((oM.rf P).s (by omega) _ _).s1 (by omega) _
      have r88 : P1.1 88 = P.1 88 := o1.1 88 (by decide) (by omega)
      obtain ⟨a1, H1, cs1, P2, d1, d2, dn, d3, d4, d5, d6, d7, -⟩ := mo_cor (P := P1) (x := dF D l) (H := H) (cs := cs) (by have := g1.1; omega) (by rw [hP1, rowI_s, pk_un (by decide), rowI_o _ _ _ (by decide)]; exact g2) (fun j hj => by rw [hP1, rowI_o _ _ _ (by decide), rowI_o _ _ _ (by decide)]; exact g4 j hj) (fun j hj => (g1.2.1 j hj).1) g1.2.2.1 f1 (Or.inl (by have := g1.1; omega))
      have o2 : oM P P2 := o1.tr ⟨fun n a b => d5 n a (by omega), fun k a b e => d6 k b, d7⟩
      have hc1 : ∀ j, j < H1 → cs1 j < 144 := fun j hj => by
        rcases d2.2.2.2.2.2.1 j hj with z | z
        · rw [d2.2.2.2.2.1 j z]; exact (g1.2.1 j z).1
        · rw [z]; exact f1
      obtain ⟨a2, H2, cs2, P3, b1, b2, bn, b3, b4, b5, b6, b7, -⟩ := mo_cor (P := P2) (x := dT D l) (H := H1) (cs := cs1) (by have := g1.1; have := d2.2.2.2.1; omega) d3 d4 hc1 d2.2.2.2.2.2.2 f2 (Or.inl (by have := g1.1; have := d2.2.2.2.1; omega))
      have o3 : oM P P3 := o2.tr ⟨fun n a b => b5 n a (by omega), fun k a b e => b6 k b, b7⟩
      have s := CSt.step (k := k) hD (by omega) g1 (by rw [em]; exact d2) (by rw [em]; exact b2)
      have i102 : P3.1 102 = upd (P.1 102) k (nI l) := by rw [b5 102 (by decide) (by decide), d5 102 (by decide) (by decide), hP1, rowI_o _ _ _ (by decide), rowI_s]
      obtain ⟨H', cs', Q, q1, q3, q4⟩ := ih (l + 1) n H2 cs2 P3 (by omega) (by rw [o3.1 88 (by decide) (by omega)]; exact hR) (by
        rw [e]
        refine ⟨s.1, b3, ?_, b4, fun i hi => ?_⟩
        · rw [b6 38 (by decide), d6 38 (by decide), hP1, rowI_s, pk_us]
        · rw [i102]
          by_cases z : i = k
          · rw [z, pk_us, em]
          · rw [pk_un z]; exact g5 i (by omega))
      refine ⟨H', cs', Q, hd _ ?_, q3, o3.tr q4⟩
      rw [if_pos (by rw [q2]), g3, if_neg (show ¬ nI k = (6 : Int32) from (show ¬ nI k = nI 6 by rw [z_eq (by omega) (by omega)]; omega)), z_gd (by omega) (by decide), z_cl (by omega), Option.bind_some, rowI_o _ _ _ (by decide), g3, Option.bind_some, show nI k + (1 : Int32) = nI (k + 1) from nI_1 _, ← hP1, mo_from hD (by rw [r88]; exact hR) hlD, Option.bind_some, d1, Option.bind_some, mo_to hD (by rw [o2.1 88 (by decide) (by omega)]; exact hR) hlD, Option.bind_some, b1, Option.bind_some]
      exact q1
end COR
