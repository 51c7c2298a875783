/-! THREADS: where one thread can be: the class -/
def bv (v : Bool) : Nat := if v then 1 else 0
theorem bv_lt (v : Bool) : bv v < 2 := by cases v <;> decide
theorem bv_not (v : Bool) : bv (!v) = 1 - bv v := by cases v <;> rfl
theorem bv_cases {b : Nat} (h : b < 2) : ∃ v, bv v = b := by
  rcases (show b = 0 ∨ b = 1 by omega) with rfl | rfl
  · exact ⟨false, rfl⟩
  · exact ⟨true, rfl⟩
def nL (D : DT) (c : Nat) : Nat := fb_ct (qI D c) (dN D)
def endp (D : DT) (c x : Nat) : Prop := ∃ i, i < nL D c ∧ dat D x (mlD D c i) = true
def Rch (D : DT) (c len : Nat) (K : Nat → Bool) (s x : Nat) (v : Bool) : Prop := ∀ C : Nat → Nat → Bool → Prop, (∀ x v, endp D c x → K x = true → C 0 x v) → (∀ s x v i, C s x v → pcn s < len → i < nL D c → dat D x (mlD D c i) = true → s.testBit (2 * i + bv v) = false → C (s ||| 2 ^ (2 * i + bv v)) (oth D (mlD D c i) x) (!v)) → C s x v
def KB (D : DT) (x : Nat) : Bool := decide (fb_ct (dK D) 144 = 0) || dK D x
def One (D : DT) (c len s : Nat) : Prop := ∃ x v, Rch D c len (KB D) s x v ∧ KB D x = true
section RCH
variable {D : DT} {N : NT} {P : PH} {c len H : Nat} {K : Nat → Bool} {cs : Nat → Nat}
theorem Rch.base {x : Nat} {v : Bool} (h : endp D c x) (k : K x = true) : Rch D c len K 0 x v := fun _ b _ => b x v h k
theorem Rch.step {s x i : Nat} {v : Bool} (h : Rch D c len K s x v) (h1 : pcn s < len) (h2 : i < nL D c) (h3 : dat D x (mlD D c i) = true) (h4 : s.testBit (2 * i + bv v) = false) : Rch D c len K (s ||| 2 ^ (2 * i + bv v)) (oth D (mlD D c i) x) (!v) := fun C b t => t s x v i (h C b t) h1 h2 h3 h4
theorem Rch.mem (hD : WD D) {s x : Nat} {v : Bool} (h : Rch D c len K s x v) : s < 2 ^ (2 * nL D c) ∧ endp D c x :=
  h (fun s x _ => s < 2 ^ (2 * nL D c) ∧ endp D c x) (fun x _ a _ => ⟨Nat.two_pow_pos _, a⟩) (fun s x v i a _ h2 h3 _ => by
    have := bv_lt v
    exact ⟨or_lt a.1 (Nat.pow_lt_pow_right (by decide) (by omega)), i, h2, (oth_oth hD (ml_ok h2).1 h3).2.1⟩)
/-! which ends are knotted -/
theorem dr_isKnot (hC : CD 3 D P) {x : Nat} (hx : x < 144) : Dr_isKnot 3 (nI x) P = some (if dK D x then 1 else 0) := by
  unfold Dr_isKnot
  rw [if_neg (nI_pos (by omega)), if_neg (show ¬ (144 : Int32) ≤ nI x from (show ¬ nI 144 ≤ nI x from nI_ge hx (by decide))), z_gd hx (by decide), z_cl (by omega), hC.2.2.2.2.2.2 x hx]
  cases dK D x
  · rw [if_pos (by decide)]; exact gd0
  · rw [if_neg (by decide)]; exact gd1
theorem sh_kn (hC : CD 3 D P) (hH : H ≤ 12) (h4 : P.1 82 4 = nI H) (h5 : ∀ j, j < H → P.1 85 j = nI (cs j)) (hc : ∀ j, j < H → cs j < 144) : ∀ (m k n r : Nat), k + m = H → m < n → r < 2 ^ (2 * k) → (∀ h b, h < k → b < 2 → r.testBit (2 * h + b) = KB D (cs h)) → ∃ r', Sh_knottedEnds_4 P n (nI r) (nI k) = some (nI r') ∧ r' < 2 ^ (2 * H) ∧ ∀ h b, h < H → b < 2 → r'.testBit (2 * h + b) = KB D (cs h) := by
  intro m
  induction m with
  | zero =>
    intro k n r hk hn hr hb
    obtain ⟨n, rfl⟩ : ∃ q, n = q + 1 := ⟨n - 1, by omega⟩
    obtain rfl : k = H := by omega
    refine ⟨r, ?_, hr, hb⟩
    unfold Sh_knottedEnds_4
    rw [h4, if_pos (by rw [z_le (by omega) (by omega)]; exact Nat.le_refl _)]
  | succ m ih =>
    intro k n r hk hn hr hb
    obtain ⟨n, rfl⟩ : ∃ q, n = q + 1 := ⟨n - 1, by omega⟩
    have hkH : k < H := by omega
    have k1 : nI k + 1 = nI (k + 1) := nI_1 _
    have e2 : (2 : Nat) ^ (2 * (k + 1)) = 4 * 2 ^ (2 * k) := by rw [show 2 * (k + 1) = 2 * k + 2 by omega, Nat.pow_add]; omega
    have yes : KB D (cs k) = true → ∃ r', Sh_knottedEnds_44 (Sh_knottedEnds_4 P n) (nI r) (nI k) P = some (nI r') ∧ r' < 2 ^ (2 * H) ∧ ∀ h b, h < H → b < 2 → r'.testBit (2 * h + b) = KB D (cs h) := by
      intro hK
      have p24 : 2 ^ (2 * k) ≤ 2 ^ 22 := Nat.pow_le_pow_right (by decide) (by omega)
      have e22 : (2 : Nat) ^ 22 = 4194304 := rfl
      have sh : (3 : Int32) <<< (((2 : Int32) * nI k) &&& 31) = nI (3 * 2 ^ (2 * k)) := by
        rw [show (2 : Int32) = nI 2 from rfl, pk_mul]
        exact pk_shlN (n := 3) (nI (2 * k) &&& 31) (2 * k) (s_l (2 * k) (by omega)) (by omega)
      have eo : nI r ||| nI (3 * 2 ^ (2 * k)) = nI (2 ^ (2 * k) * 3 + r) := by
        rw [fa_or, Nat.or_comm, Nat.mul_comm 3, ← Nat.two_pow_add_eq_or_of_lt hr 3]
      obtain ⟨r', f1, f2, f3⟩ := ih (k + 1) n (2 ^ (2 * k) * 3 + r) (by omega) (by omega) (by rw [e2]; omega) (fun h b hh hb2 => by
        rw [Nat.testBit_two_pow_mul_add _ hr]
        by_cases q : h = k
        · rw [if_neg (by omega), show 2 * h + b - 2 * k = b by omega, q, hK]
          rcases (show b = 0 ∨ b = 1 by omega) with rfl | rfl <;> decide
        · rw [if_pos (by omega)]
          exact hb h b (by omega) hb2)
      refine ⟨r', ?_, f2, f3⟩
      unfold Sh_knottedEnds_44
      rw [sh, eo, Option.bind_some, k1]
      exact f1
    unfold Sh_knottedEnds_4
    rw [h4, if_neg (nI_ge hkH (by omega)), if_neg (show ¬ (12 : Int32) ≤ nI k from (show ¬ nI 12 ≤ nI k from nI_ge (by omega) (by decide))), hC.2.1]
    have ctl : fb_ct (dK D) 144 ≤ 144 := fb_ct_le _ _
    by_cases c0 : fb_ct (dK D) 144 = 0
    · rw [if_pos (by rw [c0]; rfl)]
      exact yes (by unfold KB; rw [decide_eq_true c0]; rfl)
    · rw [if_neg (nI_ne0 (by omega) (by omega)), z_gd (by omega) (by decide), z_cl (by omega), h5 k hkH, dr_isKnot hC (hc k hkH), Option.bind_some]
      cases cK : dK D (cs k)
      · rw [if_pos (by decide), k1]
        refine ih (k + 1) n r (by omega) (by omega) (by rw [e2]; omega) (fun h b hh hb2 => ?_)
        by_cases q : h = k
        · rw [q, tb_out hr (by omega)]
          unfold KB
          rw [decide_eq_false c0, cK]
          rfl
        · exact hb h b (by omega) hb2
      · rw [if_neg (by decide)]
        exact yes (by unfold KB; rw [cK, Bool.or_true])
/-! one stitch on -/
def goR (r : Nat → Nat) (s t a b m : Nat) : Nat := if s.testBit t = false ∧ (r s).testBit (2 * a + t % 2) = true ∧ m = s ||| 2 ^ t then r m ||| 2 ^ (2 * b + 1 - t % 2) else r m
def R83 (r : Nat → Nat) (P : PH) : Prop := ∀ s, s < 4096 → P.1 83 s = nI (r s) ∧ r s < 2 ^ 24
def o83 (P Q : PH) : Prop := (∀ n, n ≠ 83 → Q.1 n = P.1 n) ∧ Q.2 = P.2
theorem o83.rf (P : PH) : o83 P P := ⟨fun _ _ => rfl, rfl⟩
theorem o83.tr {P Q R : PH} (h : o83 P Q) (h2 : o83 Q R) : o83 P R := ⟨fun n a => (h2.1 n a).trans (h.1 n a), h2.2.trans h.2⟩
theorem o83.sh {P Q : PH} (h : o83 P Q) : oSh P Q := ⟨fun n a => h.1 n (by omega), h.2⟩
theorem goR_off {r : Nat → Nat} {s t a b m : Nat} (h : m ≤ s) : goR r s t a b m = r m := by
  unfold goR
  by_cases q : s.testBit t = false ∧ (r s).testBit (2 * a + t % 2) = true ∧ m = s ||| 2 ^ t
  · exfalso
    have l : s ≤ s ||| 2 ^ t := Nat.left_le_or
    have e : s ||| 2 ^ t = s := by omega
    rw [or_self.mp e] at q
    cases q.1
  · rw [if_neg q]
theorem goR_ext {r : Nat → Nat} {s t a b m j : Nat} (h : (r m).testBit j = true) : (goR r s t a b m).testBit j = true := by
  unfold goR
  split
  · rw [fb_bit_set, h]; rfl
  · exact h
theorem goR_new {r : Nat → Nat} {s t a b : Nat} (h1 : s.testBit t = false) (h2 : (r s).testBit (2 * a + t % 2) = true) : (goR r s t a b (s ||| 2 ^ t)).testBit (2 * b + 1 - t % 2) = true := by
  unfold goR
  rw [if_pos ⟨h1, h2, rfl⟩, fb_bit_set, decide_eq_true rfl, Bool.or_true]
theorem sh_goOn {r : Nat → Nat} {s t a b : Nat} (hs : s < 4096) (ht : t < 12) (ha : a < 12) (hb : b < 12) (hr : R83 r P) : ∃ Q, Sh_goOn (nI s) (nI t) (nI a) (nI b) P = some Q ∧ R83 (goR r s t a b) Q ∧ o83 P Q := by
  have p12 : 2 ^ t < 2 ^ 12 := Nat.pow_lt_pow_right (by decide) ht
  have hm : s ||| 2 ^ t < 4096 := or_lt (n := 12) hs p12
  have e1 : nI t &&& (1 : Int32) = nI (t % 2) := fa_mask t 1
  have e2 : nI s ||| ((1 : Int32) <<< (nI t &&& 31)) = nI (s ||| 2 ^ t) := by rw [one_sh (by omega), fa_or]
  have e3 : ((2 : Int32) * nI a) + nI (t % 2) = nI (2 * a + t % 2) := by rw [show (2 : Int32) = nI 2 from rfl, pk_mul, nI_add]
  have e4 : (((2 : Int32) * nI b) + (1 : Int32)) - nI (t % 2) = nI (2 * b + 1 - t % 2) := by
    rw [show (2 : Int32) = nI 2 from rfl, show (1 : Int32) = nI 1 from rfl, pk_mul, nI_add]
    exact z_sub (by omega)
  obtain ⟨r1, r2⟩ := hr s hs
  obtain ⟨m1, m2⟩ := hr _ hm
  unfold Sh_goOn
  rw [e1, Option.bind_some, e2, Option.bind_some]
  cases c1 : s.testBit t
  · have ne : ¬ s ||| 2 ^ t = s := fun q => by rw [or_self.mp q] at c1; cases c1
    rw [if_neg (by rw [z_eq (by omega) (by omega)]; exact ne)]
    unfold Sh_reachedBy
    rw [if_neg (nI_pos (by omega)), if_neg (show ¬ (4096 : Int32) ≤ nI s from (show ¬ nI 4096 ≤ nI s from nI_ge hs (by decide))), z_gd hs (by decide), z_cl (by omega), r1, Option.bind_some, e3]
    cases c2 : (r s).testBit (2 * a + t % 2)
    · rw [if_pos ((sh_bit (by omega) (by omega)).mpr c2)]
      refine ⟨P, rfl, fun m hm => ?_, o83.rf P⟩
      unfold goR
      rw [if_neg (fun q => by rw [c2] at q; cases q.2.1)]
      exact hr m hm
    · rw [if_neg (fun q => by rw [(sh_bit (by omega) (by omega)).mp q] at c2; cases c2), if_neg (nI_pos (by omega)), if_neg (show ¬ (4096 : Int32) ≤ nI (s ||| 2 ^ t) from (show ¬ nI 4096 ≤ nI (s ||| 2 ^ t) from nI_ge hm (by decide))), z_gd hm (by decide), z_gd hm (by decide), z_cl (by omega), m1, e4, one_sh (by omega), fa_or, Option.bind_some]
      refine ⟨_, rfl, fun m hm2 => ?_, fun n a => rowI_o _ _ _ a, rfl⟩
      unfold goR
      rw [rowI_s]
      by_cases q : m = s ||| 2 ^ t
      · rw [if_pos ⟨c1, c2, q⟩, q, pk_us]
        exact ⟨rfl, or_lt m2 (Nat.pow_lt_pow_right (by decide) (by omega))⟩
      · rw [if_neg (fun z => q z.2.2), pk_un q]
        exact hr m hm2
  · rw [if_pos (by rw [or_self.mpr c1])]
    refine ⟨P, rfl, fun m hm => ?_, o83.rf P⟩
    unfold goR
    rw [if_neg (fun q => by rw [c1] at q; cases q.1)]
    exact hr m hm
def sndR (D : DT) (c len H : Nat) (cs : Nat → Nat) (r : Nat → Nat) : Prop := ∀ s h v, h < H → (r s).testBit (2 * h + bv v) = true → Rch D c len (KB D) s (cs h) v
theorem goR_snd (hD : WD D) {r : Nat → Nat} {s i a b : Nat} {f : Bool} (hS : sndR D c len H cs r) (hp : pcn s < len) (hi : i < nL D c) (hc : ∀ i j, i < H → j < H → cs i = cs j → i = j) (ha : a < H) (hb : b < H) (hda : dat D (cs a) (mlD D c i) = true) (hab : oth D (mlD D c i) (cs a) = cs b) : sndR D c len H cs (goR r s (2 * i + bv f) a b) := by
  intro m h v hh hv
  have bf := bv_lt f
  have e : (2 * i + bv f) % 2 = bv f := by omega
  unfold goR at hv
  rw [e] at hv
  by_cases q : s.testBit (2 * i + bv f) = false ∧ (r s).testBit (2 * a + bv f) = true ∧ m = s ||| 2 ^ (2 * i + bv f)
  · rw [if_pos q, fb_bit_set, Bool.or_eq_true, decide_eq_true_eq] at hv
    rcases hv with hv | hv
    · exact hS m h v hh hv
    · have bvv := bv_lt v
      have e1 : h = b := by omega
      have e2 : bv v = 1 - bv f := by omega
      have e3 : v = !f := by cases v <;> cases f <;> first | rfl | (exfalso; exact absurd e2 (by decide))
      have := (hS s a f ha q.2.1).step hp hi hda q.1
      rw [hab] at this
      rw [q.2.2, e1, e3]
      exact this
  · rw [if_neg q] at hv
    exact hS m h v hh hv
/-! the class's loops -/
def clA (D : DT) (c H : Nat) (cs : Nat → Nat) (r : Nat → Nat) (s i : Nat) : Prop := ∀ h v, h < H → dat D (cs h) (mlD D c i) = true → s.testBit (2 * i + bv v) = false → (r s).testBit (2 * h + bv v) = true → ∃ h', h' < H ∧ cs h' = oth D (mlD D c i) (cs h) ∧ (r (s ||| 2 ^ (2 * i + bv v))).testBit (2 * h' + bv (!v)) = true
theorem clA.ext {r r' : Nat → Nat} {s i : Nat} (h : clA D c H cs r s i) (he : ∀ m j, (r m).testBit j = true → (r' m).testBit j = true) (hs : r' s = r s) : clA D c H cs r' s i := by
  intro x v a1 a2 a3 a4
  rw [hs] at a4
  obtain ⟨h', b1, b2, b3⟩ := h x v a1 a2 a3 a4
  exact ⟨h', b1, b2, he _ _ b3⟩
theorem sh_54 (hD : WD D) (hL : nL D c ≤ 6) (r18 : Int32 → PH → Option PH) (v1 v2 : Int32) {s : Nat} (hs : s < 4096) (hp : pcn s < len) : ∀ (m k n : Nat) (r : Nat → Nat) (P : PH), k + m = nL D c → m < n → GIc D c (nL D c) H cs P → R83 r P → sndR D c len H cs r → ∃ (r' : Nat → Nat) (Q : PH), Sh_spread_54 r18 v1 v2 (nI s) n (nI k) P = r18 (nI (s + 1)) Q ∧ R83 r' Q ∧ sndR D c len H cs r' ∧ (∀ m j, (r m).testBit j = true → (r' m).testBit j = true) ∧ (∀ m, m ≤ s → r' m = r m) ∧ (∀ i, k ≤ i → i < nL D c → clA D c H cs r' s i) ∧ o83 P Q := by
  intro m
  induction m with
  | zero =>
    intro k n r P hk hn hG hR hS
    obtain ⟨n, rfl⟩ : ∃ q, n = q + 1 := ⟨n - 1, by omega⟩
    have hk : k = nL D c := by omega
    refine ⟨r, P, ?_, hR, hS, fun _ _ q => q, fun _ _ => rfl, fun i a b => by omega, o83.rf P⟩
    unfold Sh_spread_54
    rw [hG.2.2.1, if_pos (by rw [z_le (by omega) (by omega)]; omega), show nI s + 1 = nI (s + 1) from nI_1 _]
  | succ m ih =>
    intro k n r P hk hn hG hR hS
    obtain ⟨n, rfl⟩ : ∃ q, n = q + 1 := ⟨n - 1, by omega⟩
    have hkL : k < nL D c := by omega
    obtain ⟨g1, g2, g3, g4, g5⟩ := hG
    obtain ⟨a, b, a1, b1, a2, b2, a3, b3⟩ := g5 k hkL
    have H12 : H ≤ 12 := by have := g1.1; omega
    obtain ⟨m1, m2, m3⟩ := ml_ok hkL
    have to := hD.to m1
    have oa : oth D (mlD D c k) (cs a) = cs b := by rw [a3, b3]; unfold oth; rw [if_pos rfl]
    have ob : oth D (mlD D c k) (cs b) = cs a := by rw [a3, b3]; unfold oth; rw [if_neg (fun q => to.2 q.symm)]
    have da : dat D (cs a) (mlD D c k) = true := by rw [a3]; exact dat_F D _
    have db : dat D (cs b) (mlD D c k) = true := by rw [b3]; exact dat_T D _
    have t0 : (2 : Int32) * nI k = nI (2 * k) := by rw [show (2 : Int32) = nI 2 from rfl, pk_mul]
    have t1 : (2 : Int32) * nI k + (1 : Int32) = nI (2 * k + 1) := by rw [t0]; exact nI_1 _
    have hdis := g1.2.2.1
    obtain ⟨P1, e1, e2, e3⟩ := sh_goOn (t := 2 * k) (a := a) (b := b) hs (by omega) (by omega) (by omega) hR
    have S1 := goR_snd (f := false) hD hS hp hkL hdis a1 b1 da oa
    obtain ⟨P2, f1, f2, f3⟩ := sh_goOn (t := 2 * k) (a := b) (b := a) hs (by omega) (by omega) (by omega) e2
    have S2 := goR_snd (f := false) hD S1 hp hkL hdis b1 a1 db ob
    obtain ⟨P3, h1, h2, h3⟩ := sh_goOn (t := 2 * k + 1) (a := a) (b := b) hs (by omega) (by omega) (by omega) f2
    have S3 := goR_snd (f := true) hD S2 hp hkL hdis a1 b1 da oa
    obtain ⟨P4, i1, i2, i3⟩ := sh_goOn (t := 2 * k + 1) (a := b) (b := a) hs (by omega) (by omega) (by omega) h2
    have S4 := goR_snd (f := true) hD S3 hp hkL hdis b1 a1 db ob
    have S4 : sndR D c len H cs (goR (goR (goR (goR r s (2 * k) a b) s (2 * k) b a) s (2 * k + 1) a b) s (2 * k + 1) b a) := S4
    have o4 := ((e3.tr f3).tr h3).tr i3
    obtain ⟨r1, hr1⟩ : ∃ r1, r1 = goR r s (2 * k) a b := ⟨_, rfl⟩
    obtain ⟨r2, hr2⟩ : ∃ r2, r2 = goR r1 s (2 * k) b a := ⟨_, rfl⟩
    obtain ⟨r3, hr3⟩ : ∃ r3, r3 = goR r2 s (2 * k + 1) a b := ⟨_, rfl⟩
    obtain ⟨r4, hr4⟩ : ∃ r4, r4 = goR r3 s (2 * k + 1) b a := ⟨_, rfl⟩
    have x1 : ∀ m j, (r m).testBit j = true → (r1 m).testBit j = true := fun m j q => by rw [hr1]; exact goR_ext q
    have x2 : ∀ m j, (r1 m).testBit j = true → (r2 m).testBit j = true := fun m j q => by rw [hr2]; exact goR_ext q
    have x3 : ∀ m j, (r2 m).testBit j = true → (r3 m).testBit j = true := fun m j q => by rw [hr3]; exact goR_ext q
    have x4 : ∀ m j, (r3 m).testBit j = true → (r4 m).testBit j = true := fun m j q => by rw [hr4]; exact goR_ext q
    have y1 : ∀ m, m ≤ s → r1 m = r m := fun m q => by rw [hr1]; exact goR_off q
    have y2 : ∀ m, m ≤ s → r2 m = r m := fun m q => by rw [hr2]; exact (goR_off q).trans (y1 m q)
    have y3 : ∀ m, m ≤ s → r3 m = r m := fun m q => by rw [hr3]; exact (goR_off q).trans (y2 m q)
    have y4 : ∀ m, m ≤ s → r4 m = r m := fun m q => by rw [hr4]; exact (goR_off q).trans (y3 m q)
    rw [← hr1, ← hr2, ← hr3, ← hr4] at i2 S4
    have cl : clA D c H cs r4 s k := by
      intro h v q1 q2 q3 q4
      rw [y4 s (Nat.le_refl _)] at q4
      have hab : h = a ∨ h = b := by
        rw [dat_iff] at q2
        rcases q2 with z | z
        · exact Or.inl (hdis h a q1 a1 (by rw [a3, z]))
        · exact Or.inr (hdis h b q1 b1 (by rw [b3, z]))
      cases v
      · have q3 : s.testBit (2 * k) = false := q3
        have e0 : 2 * k % 2 = 0 := by omega
        rcases hab with z | z
        · rw [z] at q4 ⊢
          refine ⟨b, b1, oa.symm, x4 _ _ (x3 _ _ (x2 _ _ ?_))⟩
          have := goR_new (b := b) q3 (by rw [e0]; exact q4)
          rw [← hr1, e0] at this
          exact this
        · rw [z] at q4 ⊢
          refine ⟨a, a1, ob.symm, x4 _ _ (x3 _ _ ?_)⟩
          have := goR_new (r := r1) (b := a) q3 (by rw [e0, y1 s (Nat.le_refl _)]; exact q4)
          rw [← hr2, e0] at this
          exact this
      · have q3 : s.testBit (2 * k + 1) = false := q3
        have e0 : (2 * k + 1) % 2 = 1 := by omega
        rcases hab with z | z
        · rw [z] at q4 ⊢
          refine ⟨b, b1, oa.symm, x4 _ _ ?_⟩
          have := goR_new (r := r2) (b := b) q3 (by rw [e0, y2 s (Nat.le_refl _)]; exact q4)
          rw [← hr3, e0, show 2 * b + 1 - 1 = 2 * b + 0 by omega] at this
          exact this
        · rw [z] at q4 ⊢
          refine ⟨a, a1, ob.symm, ?_⟩
          have := goR_new (r := r3) (b := a) q3 (by rw [e0, y3 s (Nat.le_refl _)]; exact q4)
          rw [← hr4, e0, show 2 * a + 1 - 1 = 2 * a + 0 by omega] at this
          exact this
    have rows : ∀ (Q : PH), o83 P Q → GIc D c (nL D c) H cs Q := fun Q o => ⟨g1, by rw [o.1 82 (by decide)]; exact g2, by rw [o.1 82 (by decide)]; exact g3, fun j hj => by rw [o.1 85 (by decide)]; exact g4 j hj, fun i hi => by rw [o.1 86 (by decide), o.1 87 (by decide)]; exact g5 i hi⟩
    obtain ⟨r', Q, q1, q2, q3, q4, q5, q6, q7⟩ := ih (k + 1) n r4 P4 (by omega) (by omega) (rows P4 o4) i2 S4
    refine ⟨r', Q, ?_, q2, q3, fun m j z => q4 m j (x4 _ _ (x3 _ _ (x2 _ _ (x1 _ _ z)))), fun m z => (q5 m z).trans (y4 m z), fun i z1 z2 => ?_, o4.tr q7⟩
    · have k86 : ∀ Q, o83 P Q → Q.1 86 k = nI a ∧ Q.1 87 k = nI b := fun Q o => ⟨by rw [o.1 86 (by decide)]; exact a2, by rw [o.1 87 (by decide)]; exact b2⟩
      have o1 := e3
      have o2 := e3.tr f3
      have o3 := (e3.tr f3).tr h3
      unfold Sh_spread_54
      rw [g3, if_neg (nI_ge hkL (by omega)), if_neg (show ¬ (6 : Int32) ≤ nI k from (show ¬ nI 6 ≤ nI k from nI_ge (by omega) (by decide))), z_gd (by omega) (by decide), z_gd (by omega) (by decide), z_cl (by omega), a2, b2, t1, t0, e1, Option.bind_some, z_gd (by omega) (by decide), z_gd (by omega) (by decide), (k86 P1 o1).1, (k86 P1 o1).2, f1, Option.bind_some, z_gd (by omega) (by decide), z_gd (by omega) (by decide), (k86 P2 o2).1, (k86 P2 o2).2, h1, Option.bind_some, z_gd (by omega) (by decide), z_gd (by omega) (by decide), (k86 P3 o3).1, (k86 P3 o3).2, i1, Option.bind_some, show nI k + 1 = nI (k + 1) from nI_1 _]
      exact q1
    · by_cases z : i = k
      · rw [z]
        exact cl.ext q4 (q5 s (Nat.le_refl _))
      · exact q6 i (by omega) z2
theorem sh_18 (hD : WD D) (hL : nL D c ≤ 6) (hl : len < 100) {all : Nat} (ha : all < 4096) : ∀ (m s n : Nat) (r : Nat → Nat) (P : PH), s + m = all → m < n → GIc D c (nL D c) H cs P → R83 r P → sndR D c len H cs r → (∀ t, t < s → pcn t < len → ∀ i, i < nL D c → clA D c H cs r t i) → ∃ (r' : Nat → Nat) (Q : PH), Sh_spread_18 (nI all) (nI len) n (nI s) P = some Q ∧ R83 r' Q ∧ sndR D c len H cs r' ∧ (∀ m j, (r m).testBit j = true → (r' m).testBit j = true) ∧ (∀ t, t < all → pcn t < len → ∀ i, i < nL D c → clA D c H cs r' t i) ∧ o83 P Q := by
  intro m
  induction m with
  | zero =>
    intro s n r P hk hn hG hR hS hA
    obtain ⟨n, rfl⟩ : ∃ q, n = q + 1 := ⟨n - 1, by omega⟩
    obtain rfl : s = all := by omega
    refine ⟨r, P, ?_, hR, hS, fun _ _ q => q, hA, o83.rf P⟩
    unfold Sh_spread_18
    rw [if_pos (by rw [z_le (by omega) (by omega)]; exact Nat.le_refl _)]
  | succ m ih =>
    intro s n r P hk hn hG hR hS hA
    obtain ⟨n, rfl⟩ : ∃ q, n = q + 1 := ⟨n - 1, by omega⟩
    have hs : s < 4096 := by omega
    obtain ⟨r1, r2⟩ := hR s hs
    have s1 : nI s + 1 = nI (s + 1) := nI_1 _
    have pl : pcn s ≤ 32 := fb_ct_le _ _
    have skip : (pcn s < len → ∀ i, i < nL D c → clA D c H cs r s i) → ∃ (r' : Nat → Nat) (Q : PH), Sh_spread_18 (nI all) (nI len) n (nI (s + 1)) P = some Q ∧ R83 r' Q ∧ sndR D c len H cs r' ∧ (∀ m j, (r m).testBit j = true → (r' m).testBit j = true) ∧ (∀ t, t < all → pcn t < len → ∀ i, i < nL D c → clA D c H cs r' t i) ∧ o83 P Q := fun z => ih (s + 1) n r P (by omega) (by omega) hG hR hS (fun t ht => by
      by_cases q : t = s
      · rw [q]; exact z
      · exact hA t (by omega))
    unfold Sh_spread_18
    rw [if_neg (nI_ge (by omega) (by omega)), if_neg (show ¬ (4096 : Int32) ≤ nI s from (show ¬ nI 4096 ≤ nI s from nI_ge hs (by decide))), z_gd hs (by decide), z_cl (by omega), r1, s1, bs_sz hs]
    by_cases z : r s = 0
    · rw [if_pos (by rw [z]; rfl)]
      exact skip (fun _ i hi h v q1 q2 q3 q4 => by rw [z, Nat.zero_testBit] at q4; cases q4)
    · rw [if_neg (nI_ne0 (by omega) (by omega)), Option.bind_some]
      by_cases y : len ≤ pcn s
      · rw [if_pos (by rw [z_le (by omega) (by omega)]; exact y)]
        exact skip (fun q => by omega)
      · rw [if_neg (by rw [z_le (by omega) (by omega)]; exact y)]
        obtain ⟨r', Q1, a1, a2, a3, a4, a5, a6, a7⟩ := sh_54 hD hL (Sh_spread_18 (nI all) (nI len) n) (nI all) (nI len) hs (by omega) (nL D c) 0 bigN r P (by omega) (big_gt (by omega)) hG hR hS
        obtain ⟨g1, g2, g3, g4, g5⟩ := hG
        obtain ⟨r'', Q, b1, b2, b3, b4, b5, b6⟩ := ih (s + 1) n r' Q1 (by omega) (by omega) ⟨g1, by rw [a7.1 82 (by decide)]; exact g2, by rw [a7.1 82 (by decide)]; exact g3, fun j hj => by rw [a7.1 85 (by decide)]; exact g4 j hj, fun i hi => by rw [a7.1 86 (by decide), a7.1 87 (by decide)]; exact g5 i hi⟩ a2 a3 (fun t ht hp i hi => by
          by_cases q : t = s
          · rw [q]; exact a6 i (Nat.zero_le _) hi
          · exact (hA t (by omega) hp i hi).ext a4 (a5 t (by omega)))
        refine ⟨r'', Q, ?_, b2, b3, fun m j q => b4 m j (a4 m j q), b5, a7.tr b6⟩
        rw [show (0 : Int32) = nI 0 from rfl, a1]
        exact b1
theorem sh_spread (hD : WD D) (hL : nL D c ≤ 6) (hl : len < 100) (hG : GIc D c (nL D c) H cs P) {kn : Nat} (hk : kn < 2 ^ (2 * H)) (hkb : ∀ h b, h < H → b < 2 → kn.testBit (2 * h + b) = KB D (cs h)) : ∃ (r : Nat → Nat) (Q : PH), Sh_spread (nI (2 ^ (2 * nL D c) - 1)) (nI len) (nI kn) P = some Q ∧ R83 r Q ∧ (∀ s, s < 2 ^ (2 * nL D c) → (nI (r s) &&& nI kn = 0 ↔ ¬ One D c len s)) ∧ o83 P Q := by
  obtain ⟨g1, g2, g3, g4, g5⟩ := id hG
  have H12 : H ≤ 12 := by have := g1.1; omega
  have p12 : 2 ^ (2 * nL D c) ≤ 2 ^ 12 := Nat.pow_le_pow_right (by decide) (by omega)
  have p24 : 2 ^ (2 * H) ≤ 2 ^ 24 := Nat.pow_le_pow_right (by decide) (by omega)
  have e24 : (2 : Nat) ^ 24 = 16777216 := rfl
  have e12 : (2 : Nat) ^ 12 = 4096 := rfl
  have pp : 0 < 2 ^ (2 * nL D c) := Nat.two_pow_pos _
  obtain ⟨P1, hP1⟩ : ∃ P1, P1 = sI (rI P 83 (fun _ => (0 : Int32))) 83 0 (nI kn) := ⟨_, rfl⟩
  have o1 : o83 P P1 := ⟨fun n a => by
    rw [hP1, rowI_o _ _ _ a]
    show (if n = 83 then (fun _ => (0 : Int32)) else P.1 n) = P.1 n
    rw [if_neg a], by rw [hP1]; rfl⟩
  have hR : R83 (fun s => if s = 0 then kn else 0) P1 := fun s hs => by
    rw [hP1, rowI_s]
    show upd ((rI P 83 (fun _ => (0 : Int32))).1 83) 0 (nI kn) s = nI (if s = 0 then kn else 0) ∧ (if s = 0 then kn else 0) < 2 ^ 24
    by_cases q : s = 0
    · rw [if_pos q, q, pk_us]
      exact ⟨rfl, by omega⟩
    · rw [if_neg q, pk_un q]
      refine ⟨?_, by omega⟩
      show (if (83 : Nat) = 83 then (fun _ => (0 : Int32)) else P.1 83) s = nI 0
      rw [if_pos rfl]
      rfl
  have hS : sndR D c len H cs (fun s => if s = 0 then kn else 0) := fun s h v hh hv => by
    by_cases q : s = 0
    · rw [q]
      have hv : (if s = 0 then kn else 0).testBit (2 * h + bv v) = true := hv
      rw [if_pos q, hkb h _ hh (bv_lt v)] at hv
      obtain ⟨i, i1, i2⟩ := (g1.2.1 h hh).2
      exact Rch.base ⟨i, i1, i2⟩ hv
    · have hv : (if s = 0 then kn else 0).testBit (2 * h + bv v) = true := hv
      rw [if_neg q, Nat.zero_testBit] at hv
      cases hv
  obtain ⟨r, Q, f1, f2, f3, f4, f5, f6⟩ := sh_18 hD hL hl (all := 2 ^ (2 * nL D c) - 1) (by omega) (2 ^ (2 * nL D c) - 1) 0 bigN _ P1 (by omega) (big_gt (by omega)) ⟨g1, by rw [o1.1 82 (by decide)]; exact g2, by rw [o1.1 82 (by decide)]; exact g3, fun j hj => by rw [o1.1 85 (by decide)]; exact g4 j hj, fun i hi => by rw [o1.1 86 (by decide), o1.1 87 (by decide)]; exact g5 i hi⟩ hR hS (fun t ht => by omega)
  refine ⟨r, Q, ?_, f2, fun s hs => ?_, o1.tr f6⟩
  · unfold Sh_spread
    rw [Option.bind_some, show (gdI (0 : Int32) 4096 : Option PH → Option PH) = fun o => o from gdf 0 4096 (by decide) (by decide), Option.bind_some, show (0 : Int32).toNatClampNeg = 0 from rfl, ← hP1]
    exact f1
  · have hb : ∀ h v, h < H → KB D (cs h) = true → (r 0).testBit (2 * h + bv v) = true := fun h v hh hK => f4 0 _ (by
      show (if (0 : Nat) = 0 then kn else 0).testBit (2 * h + bv v) = true
      rw [if_pos rfl, hkb h _ hh (bv_lt v)]
      exact hK)
    have full : ∀ s x v, Rch D c len (KB D) s x v → s < 2 ^ (2 * nL D c) ∧ ∃ h, h < H ∧ cs h = x ∧ (r s).testBit (2 * h + bv v) = true := fun s x v hR => hR (fun s x v => s < 2 ^ (2 * nL D c) ∧ ∃ h, h < H ∧ cs h = x ∧ (r s).testBit (2 * h + bv v) = true) (fun x v he hK => by
      obtain ⟨i, hi, hd⟩ := he
      obtain ⟨⟨a, a1, a2⟩, b, b1, b2⟩ := g1.2.2.2 i hi
      refine ⟨pp, ?_⟩
      rw [dat_iff] at hd
      rcases hd with hd | hd
      · exact ⟨a, a1, by rw [a2, hd], hb a v a1 (by rw [a2, hd]; exact hK)⟩
      · exact ⟨b, b1, by rw [b2, hd], hb b v b1 (by rw [b2, hd]; exact hK)⟩) (fun s x v i hC hp hi hd hbit => by
      obtain ⟨hs, h, h1, h2, h3⟩ := hC
      have bvv := bv_lt v
      have sall : s < 2 ^ (2 * nL D c) - 1 := by
        by_cases q : s = 2 ^ (2 * nL D c) - 1
        · rw [q, Nat.testBit_two_pow_sub_one, decide_eq_true (show 2 * i + bv v < 2 * nL D c by omega)] at hbit
          cases hbit
        · omega
      rw [← h2] at hd
      obtain ⟨h', u1, u2, u3⟩ := f5 s sall hp i hi h v h1 hd hbit h3
      exact ⟨or_lt hs (Nat.pow_lt_pow_right (by decide) (by omega)), h', u1, by rw [u2, h2], u3⟩)
    have rs := (f2 s (by omega)).2
    rw [fa_and, show (0 : Int32) = nI 0 from rfl, nI_eq (Nat.lt_of_le_of_lt Nat.and_le_left (by omega)) (by omega)]
    constructor
    · rintro z ⟨x, v, hR, hK⟩
      obtain ⟨-, h, h1, h2, h3⟩ := full s x v hR
      have : (r s &&& kn).testBit (2 * h + bv v) = true := by
        rw [Nat.testBit_and, h3, hkb h _ h1 (bv_lt v), h2, hK]
        rfl
      rw [z, Nat.zero_testBit] at this
      cases this
    · intro z
      apply Nat.eq_of_testBit_eq
      intro j
      rw [Nat.zero_testBit]
      refine ts_nt (fun q => z ?_)
      rw [Nat.testBit_and, Bool.and_eq_true] at q
      have hj := tb_lt hk q.2
      obtain ⟨v, hv⟩ := bv_cases (show j % 2 < 2 by omega)
      have ej : j = 2 * (j / 2) + bv v := by rw [hv]; omega
      rw [ej] at q
      refine ⟨cs (j / 2), v, f3 s (j / 2) v (by omega) q.1, ?_⟩
      rw [← hkb (j / 2) (bv v) (by omega) (bv_lt v)]
      exact q.2
end RCH
