/-! SETS AS BITS OF INTS -/
theorem bt_nI (a : Nat) {i : Nat} (hi : i < 32) : bt (nI a) i = a.testBit i := by
  show (BitVec.ofNat 32 a).getLsbD i = _
  rw [BitVec.getLsbD_ofNat]
  simp [hi]
theorem tb_out {a n j : Nat} (h : a < 2 ^ n) (hj : n ≤ j) : a.testBit j = false := tb_big h j hj
theorem tb_lt {a n j : Nat} (h : a < 2 ^ n) (hj : a.testBit j = true) : j < n := by
  by_cases c : j < n
  · exact c
  · rw [tb_out h (by omega)] at hj; cases hj
theorem tb_4095 (j : Nat) : (4095 : Nat).testBit j = decide (j < 12) := by
  rw [show (4095 : Nat) = 2 ^ 12 - 1 from rfl, Nat.testBit_two_pow_sub_one]
def dif (a b : Nat) : Nat := a &&& (4095 ^^^ b)
theorem dif_b {a b : Nat} (ha : a < 4096) (j : Nat) : (dif a b).testBit j = (a.testBit j && !b.testBit j) := by
  unfold dif
  rw [Nat.testBit_and, Nat.testBit_xor, tb_4095]
  cases c : a.testBit j
  · rfl
  · rw [decide_eq_true (tb_lt (n := 12) ha c)]
    cases b.testBit j <;> rfl
theorem dif_lt {a b : Nat} (ha : a < 4096) : dif a b < 4096 := Nat.lt_of_le_of_lt Nat.and_le_left ha
theorem dif_nI {a b : Nat} (ha : a < 4096) : nI a &&& (nI b ^^^ (-1 : Int32)) = nI (dif a b) := by
  refine b_ext (fun i hi => ?_)
  rw [b_and, b_xor, bt_nI a hi, bt_nI b hi, b_m1 i hi, bt_nI _ hi, dif_b ha]
  cases a.testBit i <;> cases b.testBit i <;> rfl
theorem or_lt {a b n : Nat} (ha : a < 2 ^ n) (hb : b < 2 ^ n) : a ||| b < 2 ^ n := Nat.or_lt_two_pow ha hb
theorem one_sh {k : Nat} (hk : k < 31) : (1 : Int32) <<< (nI k &&& 31) = nI (2 ^ k) := by
  have h2 : 2 ^ k < 2 ^ 31 := Nat.pow_lt_pow_right (by decide) hk
  have := pk_shlN (n := 1) (nI k &&& 31) k (s_l k (by omega)) (by omega)
  rw [Nat.one_mul] at this
  exact this
theorem sh_bit {r k : Nat} (hr : r < 2 ^ 31) (hk : k < 32) : ((nI r >>> (nI k &&& 31)) &&& 1) = 0 ↔ r.testBit k = false := by
  rw [pk_shrN hr _ k (s_l k hk), show nI (r / 2 ^ k) &&& (1 : Int32) = nI (r / 2 ^ k % 2 ^ 1) from fa_mask _ 1, show (0 : Int32) = nI 0 from rfl, nI_eq (by omega) (by omega)]
  have h5 : (r / 2 ^ k).testBit 0 = r.testBit k := by rw [Nat.testBit_div_two_pow, Nat.zero_add]
  rw [Nat.testBit_zero] at h5
  rw [← h5]
  generalize r / 2 ^ k = m
  rw [Nat.pow_one]
  constructor
  · intro h; exact decide_eq_false (by omega)
  · intro h; have := of_decide_eq_false h; omega
theorem or_self {a k : Nat} : a ||| 2 ^ k = a ↔ a.testBit k = true := by
  constructor
  · intro h
    rw [← h, fb_bit_set, decide_eq_true rfl, Bool.or_true]
  · intro h
    apply Nat.eq_of_testBit_eq
    intro j
    rw [fb_bit_set]
    by_cases c : j = k
    · rw [c, h]; rfl
    · rw [decide_eq_false c, Bool.or_false]
theorem and_self0 {a k : Nat} (hk : k < 31) : nI a &&& nI (2 ^ k) = 0 ↔ a.testBit k = false := fa_bit hk
/-- part of -/
def Sb (a b : Nat) : Prop := ∀ j, a.testBit j = true → b.testBit j = true
theorem Sb.and {a b : Nat} (h : Sb a b) : a &&& b = a := by
  apply Nat.eq_of_testBit_eq
  intro j
  rw [Nat.testBit_and]
  cases c : a.testBit j
  · rfl
  · rw [h j c]; rfl
theorem Sb.le {a b : Nat} (h : Sb a b) : a ≤ b := by
  have := Nat.and_le_right (n := a) (m := b)
  rw [h.and] at this
  exact this
theorem Sb.rf (a : Nat) : Sb a a := fun _ h => h
theorem Sb.z (b : Nat) : Sb 0 b := fun j h => by rw [Nat.zero_testBit] at h; cases h
theorem and2 (x y : Nat) : x &&& y = 2 * (x / 2 &&& y / 2) + (if x % 2 = 1 ∧ y % 2 = 1 then 1 else 0) := by
  have hb : ∀ (u b : Nat), b < 2 → (2 * u + b) / 2 = u ∧ (2 * u + b) % 2 = b := fun u b h => by omega
  apply Nat.eq_of_testBit_eq
  intro j
  have hlt : (if x % 2 = 1 ∧ y % 2 = 1 then 1 else 0) < 2 := by split <;> omega
  cases j with
  | zero =>
    rw [Nat.testBit_and, Nat.testBit_zero, Nat.testBit_zero, Nat.testBit_zero, (hb _ _ hlt).2]
    by_cases c : x % 2 = 1
    · by_cases d : y % 2 = 1
      · simp [c, d]
      · simp [c, d]
    · simp [c]
  | succ j => rw [Nat.testBit_and, Nat.testBit_succ, Nat.testBit_succ, Nat.testBit_succ, (hb _ _ hlt).1, Nat.testBit_and]
theorem Sb.half {a b : Nat} (h : Sb a b) : Sb (a / 2) (b / 2) ∧ a % 2 ≤ b % 2 := by
  refine ⟨fun j q => ?_, ?_⟩
  · rw [← Nat.testBit_succ] at q ⊢
    exact h _ q
  · by_cases c : a % 2 = 1
    · have := h 0 (by rw [Nat.testBit_zero]; exact decide_eq_true c)
      rw [Nat.testBit_zero] at this
      have := of_decide_eq_true this
      omega
    · omega
/-- the next part of a set, downwards: none lies between -/
theorem sub_next : ∀ (n S p q : Nat), S < 2 ^ n → Sb p S → Sb q S → q < p → q ≤ (p - 1) &&& S := by
  intro n
  induction n with
  | zero =>
    intro S p q hS hp hq h
    have := hp.le
    have : (2 : Nat) ^ 0 = 1 := rfl
    omega
  | succ n ih =>
    intro S p q hS hp hq h
    obtain ⟨p1, p2⟩ := hp.half
    obtain ⟨q1, q2⟩ := hq.half
    have e : (2 : Nat) ^ (n + 1) = 2 * 2 ^ n := by rw [Nat.pow_succ]; omega
    rw [and2 (p - 1) S]
    by_cases c : p % 2 = 1
    · have e1 : (p - 1) / 2 = p / 2 := by omega
      rw [e1, p1.and]
      have : ¬ ((p - 1) % 2 = 1 ∧ S % 2 = 1) := fun z => by omega
      rw [if_neg this]
      omega
    · have e1 : (p - 1) / 2 = p / 2 - 1 := by omega
      have e2 : (p - 1) % 2 = 1 := by omega
      rw [e1]
      have i1 := ih (S / 2) (p / 2) (q / 2) (by omega) p1 q1 (by omega)
      by_cases d : S % 2 = 1
      · rw [if_pos ⟨e2, d⟩]
        omega
      · rw [if_neg (fun z => d z.2)]
        omega
theorem sub_and (p S : Nat) : Sb (p &&& S) S := fun j h => by
  rw [Nat.testBit_and, Bool.and_eq_true] at h
  exact h.2
/-- the lowest bit -/
theorem low_ex {n : Nat} (h : n ≠ 0) : ∃ i, n.testBit i = true ∧ ∀ j, j < i → n.testBit j = false := by
  have ex : ∃ k, n.testBit k = true := by
    by_cases c : ∃ k, n.testBit k = true
    · exact c
    · exfalso
      refine h (Nat.eq_of_testBit_eq (fun j => ?_))
      rw [Nat.zero_testBit]
      exact ts_nt (fun q => c ⟨j, q⟩)
  obtain ⟨k, hk⟩ := ex
  obtain ⟨i, h1, h2, h3⟩ := fb_first (p := fun k => n.testBit k = true) (n := k + 1) ⟨k, by omega, hk⟩
  exact ⟨i, h2, fun j hj => ts_nt (h3 j hj)⟩
theorem clr_low {n i : Nat} (h1 : n.testBit i = true) (h2 : ∀ j, j < i → n.testBit j = false) (j : Nat) : (n &&& (n - 1)).testBit j = (n.testBit j && !decide (j = i)) := by
  rw [Nat.testBit_and, pred_bits h1 h2]
  by_cases c : j < i
  · rw [h2 j c]; rfl
  · rw [if_neg c]
    by_cases d : j = i
    · rw [if_pos d, d]; simp
    · rw [if_neg d]; simp [d]
theorem neg_nI {n : Nat} (h : 0 < n) (h2 : n < 2 ^ 32) : -(nI n) = nI (2 ^ 32 - n) := by
  apply Int32.toBitVec_inj.mp
  rw [Int32.toBitVec_neg]
  show -(BitVec.ofNat 32 n) = BitVec.ofNat 32 (2 ^ 32 - n)
  apply BitVec.eq_of_toNat_eq
  rw [BitVec.toNat_neg, BitVec.toNat_ofNat, BitVec.toNat_ofNat, Nat.mod_eq_of_lt h2]
theorem low_nI {n i : Nat} (hn : n < 2 ^ 32) (h1 : n.testBit i = true) (h2 : ∀ j, j < i → n.testBit j = false) : nI n &&& -(nI n) = nI (2 ^ i) := by
  have hi : i < 32 := tb_lt hn h1
  have h0 : 0 < n := by
    rcases Nat.eq_zero_or_pos n with q | q
    · rw [q, Nat.zero_testBit] at h1; cases h1
    · exact q
  rw [neg_nI h0 hn, fa_and]
  congr 1
  apply Nat.eq_of_testBit_eq
  intro j
  have h3 := pred_bits h1 h2 j
  rw [Nat.testBit_and, show 2 ^ 32 - n = 2 ^ 32 - ((n - 1) + 1) by omega, Nat.testBit_two_pow_sub_succ (by omega), h3, Nat.testBit_two_pow]
  by_cases c : j < i
  · rw [h2 j c, Bool.false_and]
    exact (decide_eq_false (show ¬ i = j by omega)).symm
  · rw [if_neg c]
    by_cases d : j = i
    · rw [if_pos d, d, h1, decide_eq_true hi]
      simp
    · have d2 : ¬ i = j := fun q => d q.symm
      rw [if_neg d]
      cases n.testBit j <;> simp [d2]
/-- how many -/
def pcn (n : Nat) : Nat := fb_ct n.testBit 32
theorem pcn_clr {n i : Nat} (hn : n < 2 ^ 32) (h1 : n.testBit i = true) (h2 : ∀ j, j < i → n.testBit j = false) : pcn (n &&& (n - 1)) + 1 = pcn n := by
  have hi : i < 32 := tb_lt hn h1
  have e := fb_ct_upd n.testBit false hi
  rw [h1] at e
  unfold pcn
  rw [fb_ct_cong (q := fun k => if k = i then false else n.testBit k) (fun k hk => by
    rw [clr_low h1 h2]
    by_cases c : k = i
    · simp [c]
    · simp [c])]
  simpa using e
theorem pcn_0 {n : Nat} (hn : n < 2 ^ 32) (h : pcn n = 0) : n = 0 := by
  apply Nat.eq_of_testBit_eq
  intro j
  rw [Nat.zero_testBit]
  by_cases c : j < 32
  · exact fb_ct_zero.mp h j c
  · exact tb_out hn (by omega)
theorem mo_size (P : PH) : ∀ (q n f acc : Nat), pcn n = q → n < 2 ^ 31 → q < f → Mo_size_4 P f (nI acc) (nI n) = some (nI (acc + q)) := by
  intro q
  induction q with
  | zero =>
    intro n f acc hq hn hf
    obtain ⟨f, rfl⟩ : ∃ q, f = q + 1 := ⟨f - 1, by omega⟩
    have : n = 0 := pcn_0 (by omega) hq
    subst this
    unfold Mo_size_4
    rw [if_pos (by decide)]
    rfl
  | succ q ih =>
    intro n f acc hq hn hf
    obtain ⟨f, rfl⟩ : ∃ q, f = q + 1 := ⟨f - 1, by omega⟩
    have h0 : n ≠ 0 := fun z => by
      rw [z] at hq
      have : pcn 0 = 0 := fb_ct_zero.mpr (fun k _ => Nat.zero_testBit k)
      omega
    obtain ⟨i, h1, h2⟩ := low_ex h0
    have pc1 := pcn_clr (by omega) h1 h2
    have := ih (n &&& (n - 1)) f (acc + 1) (by omega) (Nat.lt_of_le_of_lt Nat.and_le_left hn) (by omega)
    unfold Mo_size_4
    rw [if_neg (nI_ne0 (by omega) (by omega)), show nI n - (1 : Int32) = nI (n - 1) from z_sub (b := 1) (by omega), fa_and, Option.bind_some, show nI acc + 1 = nI (acc + 1) from nI_1 _, this, show acc + 1 + q = acc + (q + 1) by omega]
theorem mo_sz {n : Nat} (hn : n < 4096) (P : PH) : Mo_size (nI n) P = some (nI (pcn n)) := by
  have l : pcn n ≤ 32 := fb_ct_le _ _
  have := mo_size P (pcn n) n bigN 0 rfl (by omega) (big_gt (by omega))
  rw [Nat.zero_add] at this
  exact this
theorem bs_sz {n : Nat} (hn : n < 4096) (P : PH) : Ji_bitCount (nI n) P = some (nI (pcn n)) := pop32 (by omega) P
