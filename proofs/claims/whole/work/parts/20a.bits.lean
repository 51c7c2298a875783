/-! LONGS AS ROWS OF BITS: the bits, how many, the lowest. -/
def bL (x : Int64) (i : Nat) : Bool := x.toBitVec.getLsbD i
theorem tb_big {n i : Nat} (h : n < 2 ^ i) : ∀ j, i ≤ j → n.testBit j = false := fun _ hj => Nat.testBit_lt_two_pow (Nat.lt_of_lt_of_le h (Nat.pow_le_pow_right (by decide) hj))
theorem bL_lN {n : Nat} (h : n < 2 ^ 64) (i : Nat) : bL (lN n) i = n.testBit i := by
  unfold bL
  rw [wb_tb, BitVec.getLsbD_ofNat]
  by_cases hi : i < 64
  · simp [hi]
  · rw [tb_big h i (by omega)]
    simp
theorem bL_ext {x y : Int64} (h : ∀ i, i < 64 → bL x i = bL y i) : x = y := by
  apply wb_inj
  apply BitVec.eq_of_getLsbD_eq
  intro i hi
  exact h i hi
theorem bL_big {x : Int64} {i : Nat} (h : 64 ≤ i) : bL x i = false := BitVec.getLsbD_of_ge _ _ h
theorem bL_and (x y : Int64) (i : Nat) : bL (x &&& y) i = (bL x i && bL y i) := by
  unfold bL; rw [Int64.toBitVec_and, BitVec.getLsbD_and]
theorem bL_or (x y : Int64) (i : Nat) : bL (x ||| y) i = (bL x i || bL y i) := by
  unfold bL; rw [Int64.toBitVec_or, BitVec.getLsbD_or]
theorem bL_xor (x y : Int64) (i : Nat) : bL (x ^^^ y) i = (bL x i ^^ bL y i) := by
  unfold bL; rw [Int64.toBitVec_xor, BitVec.getLsbD_xor]
theorem bL_0 (i : Nat) : bL 0 i = false := by
  show bL (lN 0) i = false
  rw [bL_lN (by decide)]
  exact Nat.zero_testBit i
theorem bL_m1 {i : Nat} (h : i < 64) : bL (-1) i = true := by
  unfold bL
  rw [show (-1 : Int64).toBitVec = BitVec.allOnes 64 by decide, BitVec.getLsbD_allOnes]
  exact decide_eq_true h
theorem bL_not (x : Int64) {i : Nat} (h : i < 64) : bL (x ^^^ (-1)) i = !bL x i := by
  rw [bL_xor, bL_m1 h]
  cases bL x i <;> rfl
theorem bL_sh {k : Nat} (hk : k < 64) (i : Nat) : bL ((1 : Int64) <<< ((nI k).toInt64 &&& 63)) i = decide (i = k) := by
  have h1 : (1 : Int64) <<< ((nI k).toInt64 &&& 63) = lN (1 * 2 ^ k) := wb_shl 1 hk
  rw [h1, bL_lN (by rw [Nat.one_mul]; exact Nat.pow_lt_pow_right (by decide) hk), Nat.one_mul, Nat.testBit_two_pow]
  exact decide_eq_decide.mpr ⟨fun h => h.symm, fun h => h.symm⟩
theorem lg0 (x y : Int64) : lg_cmp x y = 0 ↔ x = y := by
  unfold lg_cmp
  by_cases h1 : x > y
  · rw [if_pos h1]
    constructor
    · intro h; exact absurd h (by decide)
    · intro h
      subst h
      rw [gt_iff_lt, Int64.lt_iff_toInt_lt] at h1
      omega
  · rw [if_neg h1]
    by_cases h2 : x = y
    · rw [if_pos h2]; exact ⟨fun _ => h2, fun _ => rfl⟩
    · rw [if_neg h2]
      exact ⟨fun h => absurd h (by decide), fun h => absurd h h2⟩
theorem lgz (x : Int64) : lg_cmp x 0 = 0 ↔ ∀ i, i < 64 → bL x i = false := by
  rw [lg0]
  constructor
  · intro h i _
    rw [h, bL_0]
  · intro h
    exact bL_ext (fun i hi => by rw [h i hi, bL_0])
theorem lg_bit (x : Int64) {k : Nat} (hk : k < 64) : lg_cmp ((x >>> ((nI k).toInt64 &&& 63)) &&& 1) 0 = 0 ↔ bL x k = false := by
  rw [lg0]
  have e1 : (x >>> ((nI k).toInt64 &&& 63)).toBitVec = x.toBitVec.sshiftRight k := by
    rw [wb_c k hk, Int64.toBitVec_shiftRight, wb_tb, wb_sm k hk, BitVec.sshiftRight_eq', BitVec.toNat_ofNat, Nat.mod_eq_of_lt (by omega)]
  have e2 : ∀ i, i < 64 → bL ((x >>> ((nI k).toInt64 &&& 63)) &&& 1) i = (decide (i = 0) && bL x k) := by
    intro i hi
    rw [bL_and]
    have h1 : bL 1 i = decide (i = 0) := by
      show bL (lN 1) i = _
      rw [bL_lN (by decide)]
      cases i with
      | zero => rfl
      | succ i => rw [Nat.testBit_succ]; simp
    rw [h1]
    cases i with
    | zero =>
      have : bL (x >>> ((nI k).toInt64 &&& 63)) 0 = bL x k := by
        unfold bL
        rw [e1, BitVec.getLsbD_sshiftRight]
        simp [hk]
      rw [this]
      cases bL x k <;> rfl
    | succ i => simp
  constructor
  · intro h
    have := e2 0 (by decide)
    rw [h, bL_0] at this
    simpa using this.symm
  · intro h
    exact bL_ext (fun i hi => by rw [e2 i hi, h, bL_0]; simp)
/-! the lowest bit -/
theorem low_form {n i : Nat} (h1 : n.testBit i = true) (h2 : ∀ j, j < i → n.testBit j = false) : n = 2 ^ i * (n / 2 ^ i) ∧ (n / 2 ^ i) % 2 = 1 := by
  have h3 : n % 2 ^ i = 0 := by
    apply Nat.eq_of_testBit_eq
    intro j
    rw [Nat.testBit_mod_two_pow, Nat.zero_testBit]
    by_cases hj : j < i
    · rw [h2 j hj]; simp
    · simp [hj]
  have h4 := Nat.div_add_mod n (2 ^ i)
  have h5 : (n / 2 ^ i).testBit 0 = true := by
    rw [Nat.testBit_div_two_pow, Nat.zero_add]; exact h1
  rw [Nat.testBit_zero] at h5
  exact ⟨by omega, by simpa using h5⟩
theorem pred_bits {n i : Nat} (h1 : n.testBit i = true) (h2 : ∀ j, j < i → n.testBit j = false) (j : Nat) : (n - 1).testBit j = if j < i then true else if j = i then false else n.testBit j := by
  obtain ⟨e1, e2⟩ := low_form h1 h2
  have hp : 0 < 2 ^ i := Nat.pow_pos (by decide)
  have e3 : n - 1 = 2 ^ i * (n / 2 ^ i - 1) + (2 ^ i - 1) := by
    generalize n / 2 ^ i = m at e1 e2
    obtain ⟨k, rfl⟩ : ∃ k, m = k + 1 := ⟨m - 1, by omega⟩
    rw [Nat.mul_add, Nat.mul_one] at e1
    rw [Nat.add_sub_cancel]
    omega
  rw [e3, Nat.testBit_two_pow_mul_add _ (by omega)]
  by_cases hj : j < i
  · rw [if_pos hj, if_pos hj, Nat.testBit_two_pow_sub_one]; simp [hj]
  · rw [if_neg hj, if_neg hj]
    by_cases hji : j = i
    · rw [if_pos hji, hji, Nat.sub_self, Nat.testBit_zero]
      clear e1 e3
      generalize n / 2 ^ i = m at e2
      exact decide_eq_false (by omega)
    · rw [if_neg hji]
      obtain ⟨d, rfl⟩ : ∃ d, j = i + (d + 1) := ⟨j - i - 1, by omega⟩
      have h6 : (n / 2 ^ i - 1).testBit (d + 1) = (n / 2 ^ i).testBit (d + 1) := by
        rw [Nat.testBit_succ, Nat.testBit_succ]
        congr 1
        clear e1 e3
        generalize n / 2 ^ i = m at e2
        omega
      rw [show i + (d + 1) - i = d + 1 by omega, h6, Nat.testBit_div_two_pow, Nat.add_comm]
theorem neg_lN {n : Nat} (h : 0 < n) (h2 : n < 2 ^ 64) : -(lN n) = lN (2 ^ 64 - n) := by
  apply wb_inj
  rw [Int64.toBitVec_neg, wb_tb, wb_tb]
  apply BitVec.eq_of_toNat_eq
  rw [BitVec.toNat_neg, BitVec.toNat_ofNat, BitVec.toNat_ofNat, Nat.mod_eq_of_lt h2]
section LOW
variable {x : Int64} {i : Nat}
theorem bL_dec (h1 : bL x i = true) (h2 : ∀ j, j < i → bL x j = false) (j : Nat) : bL (x - 1) j = if j < i then true else if j = i then false else bL x j := by
  obtain ⟨n, hn, rfl⟩ := wb_of x
  rw [bL_lN hn] at h1
  have hn0 : 0 < n := by
    rcases Nat.eq_zero_or_pos n with h | h
    · rw [h, Nat.zero_testBit] at h1; cases h1
    · exact h
  have e : lN n - 1 = lN (n - 1) := lN_sub (b := 1) hn0
  rw [e, bL_lN (by omega), bL_lN hn]
  exact pred_bits h1 (fun j hj => by rw [← bL_lN hn]; exact h2 j hj) j
theorem bL_neg (h1 : bL x i = true) (h2 : ∀ j, j < i → bL x j = false) {j : Nat} (hj : j < 64) : bL (-x) j = if j < i then false else if j = i then true else !bL x j := by
  obtain ⟨n, hn, rfl⟩ := wb_of x
  rw [bL_lN hn] at h1
  have hn0 : 0 < n := by
    rcases Nat.eq_zero_or_pos n with h | h
    · rw [h, Nat.zero_testBit] at h1; cases h1
    · exact h
  have h3 := pred_bits h1 (fun j hj => by rw [← bL_lN hn]; exact h2 j hj) j
  rw [neg_lN hn0 hn, bL_lN (by omega), bL_lN hn, show 2 ^ 64 - n = 2 ^ 64 - ((n - 1) + 1) by omega, Nat.testBit_two_pow_sub_succ (by omega), h3]
  by_cases c1 : j < i
  · simp [c1]
  · by_cases c2 : j = i
    · simp [c2]; omega
    · simp [c1, c2, hj]
theorem bL_clear (h1 : bL x i = true) (h2 : ∀ j, j < i → bL x j = false) (j : Nat) : bL (x &&& (x - 1)) j = (bL x j && !decide (j = i)) := by
  rw [bL_and, bL_dec h1 h2]
  by_cases c1 : j < i
  · rw [h2 j c1]; rfl
  · rw [if_neg c1]
    by_cases c2 : j = i
    · simp [c2]
    · simp [c2]
theorem bL_low (h1 : bL x i = true) (h2 : ∀ j, j < i → bL x j = false) {j : Nat} (hj : j < 64) : bL (x &&& -x) j = decide (j = i) := by
  rw [bL_and, bL_neg h1 h2 hj]
  by_cases c1 : j < i
  · have : j ≠ i := by omega
    simp [c1, this]
  · rw [if_neg c1]
    by_cases c2 : j = i
    · rw [if_pos c2, c2, h1]; simp
    · rw [if_neg c2]
      cases bL x j <;> simp [c2]
theorem bL_ones {k : Nat} (hk : k < 64) (i : Nat) : bL (((1 : Int64) <<< ((nI k).toInt64 &&& 63)) - 1) i = decide (i < k) := by
  have h1 : (1 : Int64) <<< ((nI k).toInt64 &&& 63) = lN (1 * 2 ^ k) := wb_shl 1 hk
  have hp : 0 < 2 ^ k := Nat.pow_pos (by decide)
  have hb : 2 ^ k < 2 ^ 64 := Nat.pow_lt_pow_right (by decide) hk
  have h2 : lN (2 ^ k) - 1 = lN (2 ^ k - 1) := lN_sub (b := 1) hp
  rw [h1, Nat.one_mul, h2, bL_lN (by omega), Nat.testBit_two_pow_sub_one]
theorem bL_lower (h1 : bL x i = true) (h2 : ∀ j, j < i → bL x j = false) (hi : i < 64) (j : Nat) : bL ((x &&& -x) - 1) j = decide (j < i) := by
  have e : x &&& -x = (1 : Int64) <<< ((nI i).toInt64 &&& 63) := bL_ext (fun j hj => by rw [bL_low h1 h2 hj, bL_sh hi])
  rw [e]
  exact bL_ones hi j
end LOW
/-! how many bits: 8 bytes, each by itself -/
def rp (c : Nat) : Nat → Nat
  | 0 => 0
  | k + 1 => c + 256 * rp c k
def q1 (k n : Nat) : Nat := n - ((n / 2) &&& rp 85 k)
def q2 (k n : Nat) : Nat := (n &&& rp 51 k) + ((n / 4) &&& rp 51 k)
def q3 (k n : Nat) : Nat := (n + n / 16) &&& rp 15 k
def qb1 (b : Nat) : Nat := b - ((b / 2) &&& 85)
def qb2 (b : Nat) : Nat := (b &&& 51) + ((b / 4) &&& 51)
def qb3 (b : Nat) : Nat := (b + b / 16) &&& 15
theorem and_sp {x y c d : Nat} (hx : x < 256) (hc : c < 256) : (x + 256 * y) &&& (c + 256 * d) = (x &&& c) + 256 * (y &&& d) := by
  have hxc : x &&& c < 2 ^ 8 := Nat.and_lt_two_pow x hc
  have key : ∀ a b : Nat, b + 256 * a = 2 ^ 8 * a + b := fun a b => by omega
  apply Nat.eq_of_testBit_eq
  intro j
  rw [Nat.testBit_and, key, key, key, Nat.testBit_two_pow_mul_add _ (show x < 2 ^ 8 from hx), Nat.testBit_two_pow_mul_add _ (show c < 2 ^ 8 from hc), Nat.testBit_two_pow_mul_add _ hxc]
  by_cases hj : j < 8
  · rw [if_pos hj, if_pos hj, if_pos hj, Nat.testBit_and]
  · rw [if_neg hj, if_neg hj, if_neg hj, Nat.testBit_and]
theorem q1_b : ∀ b, b < 256 → ∀ r, r < 2 → (b / 2 + 128 * r) &&& 85 = (b / 2) &&& 85 ∧ (b / 2) &&& 85 ≤ b := by decide +kernel
theorem q2_b : ∀ b, b < 256 → ∀ r, r < 4 → (b / 4 + 64 * r) &&& 51 = (b / 4) &&& 51 := by decide +kernel
theorem q2_lt : ∀ b, b < 256 → qb2 b ≤ 102 ∧ qb2 b % 16 ≤ 6 := by decide +kernel
theorem q1_lt (b : Nat) (h : b < 256) : qb1 b < 256 := by unfold qb1; omega
theorem q3_b : ∀ b, b < 256 → b ≤ 102 → ∀ r, r < 7 → (b + b / 16 + 16 * r) &&& 15 = (b + b / 16) &&& 15 := by decide +kernel
theorem q1_sp {b m : Nat} (k : Nat) (hb : b < 256) : q1 (k + 1) (b + 256 * m) = qb1 b + 256 * q1 k m := by
  unfold q1 qb1
  obtain ⟨e1, e2⟩ := q1_b b hb (m % 2) (by omega)
  have e3 : (b + 256 * m) / 2 = (b / 2 + 128 * (m % 2)) + 256 * (m / 2) := by omega
  rw [e3, show rp 85 (k + 1) = 85 + 256 * rp 85 k from rfl, and_sp (by omega) (by decide), e1]
  have e4 : (m / 2) &&& rp 85 k ≤ m / 2 := Nat.and_le_left
  omega
theorem q2_sp {b m : Nat} (k : Nat) (hb : b < 256) : q2 (k + 1) (b + 256 * m) = qb2 b + 256 * q2 k m := by
  unfold q2 qb2
  have e1 := q2_b b hb (m % 4) (by omega)
  have e3 : (b + 256 * m) / 4 = (b / 4 + 64 * (m % 4)) + 256 * (m / 4) := by omega
  rw [e3, show rp 51 (k + 1) = 51 + 256 * rp 51 k from rfl, and_sp hb (by decide), and_sp (by omega) (by decide), e1]
  omega
theorem q3_sp {b m : Nat} (k : Nat) (hb : b ≤ 102) (hm : m % 16 ≤ 6) : q3 (k + 1) (b + 256 * m) = qb3 b + 256 * q3 k m := by
  unfold q3 qb3
  have e1 := q3_b b (by omega) hb (m % 16) (by omega)
  have e3 : b + 256 * m + (b + 256 * m) / 16 = (b + b / 16 + 16 * (m % 16)) + 256 * (m + m / 16) := by omega
  rw [e3, show rp 15 (k + 1) = 15 + 256 * rp 15 k from rfl, and_sp (by omega) (by decide), e1]
def qF (k n : Nat) : Nat := q3 k (q2 k (q1 k n))
theorem q2_low : ∀ (k n : Nat), q2 k n % 16 ≤ 6
  | 0, n => by unfold q2; simp [rp]
  | k + 1, n => by
    have e : n = n % 256 + 256 * (n / 256) := by omega
    rw [e, q2_sp k (by omega)]
    have := (q2_lt (n % 256) (by omega)).2
    omega
theorem qF_sp (k n : Nat) : qF (k + 1) n = qb3 (qb2 (qb1 (n % 256))) + 256 * qF k (n / 256) := by
  have e : n = n % 256 + 256 * (n / 256) := by omega
  unfold qF
  rw [show q1 (k + 1) n = q1 (k + 1) (n % 256 + 256 * (n / 256)) by rw [← e], q1_sp k (by omega), q2_sp k (q1_lt _ (by omega)), q3_sp k (q2_lt _ (q1_lt _ (by omega))).1 (q2_low _ _)]
def pb (b : Nat) : Nat := fb_ct b.testBit 8
theorem pb_q : ∀ b, b < 256 → qb3 (qb2 (qb1 b)) = pb b ∧ pb b ≤ 8 := by decide +kernel
theorem ct_sp (n k : Nat) : fb_ct n.testBit (8 + k) = pb (n % 256) + fb_ct (n / 256).testBit k := by
  rw [fb_ct_split]
  congr 1
  · unfold pb
    exact fb_ct_cong (fun j hj => by rw [show (256 : Nat) = 2 ^ 8 from rfl, Nat.testBit_mod_two_pow]; simp [hj])
  · exact fb_ct_cong (fun j _ => by rw [show (256 : Nat) = 2 ^ 8 from rfl, Nat.testBit_div_two_pow, Nat.add_comm])
theorem ct_lt (n k : Nat) : fb_ct n.testBit k ≤ k := fb_ct_le _ _
theorem bytes8 (n : Nat) : ∃ c0 c1 c2 c3 c4 c5 c6 c7 : Nat, c0 ≤ 8 ∧ c1 ≤ 8 ∧ c2 ≤ 8 ∧ c3 ≤ 8 ∧ c4 ≤ 8 ∧ c5 ≤ 8 ∧ c6 ≤ 8 ∧ c7 ≤ 8 ∧ qF 8 n = c0 + 256 * (c1 + 256 * (c2 + 256 * (c3 + 256 * (c4 + 256 * (c5 + 256 * (c6 + 256 * c7)))))) ∧ fb_ct n.testBit 64 = c0 + (c1 + (c2 + (c3 + (c4 + (c5 + (c6 + c7)))))) := by
  have P : ∀ m : Nat, qb3 (qb2 (qb1 (m % 256))) = pb (m % 256) ∧ pb (m % 256) ≤ 8 := fun m => pb_q _ (by omega)
  refine ⟨_, _, _, _, _, _, _, _, (P n).2, (P (n / 256)).2, (P (n / 256 / 256)).2, (P (n / 256 / 256 / 256)).2, (P (n / 256 / 256 / 256 / 256)).2, (P (n / 256 / 256 / 256 / 256 / 256)).2, (P (n / 256 / 256 / 256 / 256 / 256 / 256)).2, (P (n / 256 / 256 / 256 / 256 / 256 / 256 / 256)).2, ?_, ?_⟩
  · rw [qF_sp, qF_sp, qF_sp, qF_sp, qF_sp, qF_sp, qF_sp, qF_sp, (P _).1, (P _).1, (P _).1, (P _).1, (P _).1, (P _).1, (P _).1, (P _).1]
    have : ∀ m, qF 0 m = 0 := fun m => by unfold qF q3 q2 q1; simp [rp]
    rw [this, Nat.mul_zero, Nat.add_zero]
  · rw [show (64 : Nat) = 8 + (8 + (8 + (8 + (8 + (8 + (8 + (8 + 0))))))) from rfl, ct_sp, ct_sp, ct_sp, ct_sp, ct_sp, ct_sp, ct_sp, ct_sp]
    rfl
theorem bytes4 (n : Nat) : ∃ c0 c1 c2 c3 : Nat, c0 ≤ 8 ∧ c1 ≤ 8 ∧ c2 ≤ 8 ∧ c3 ≤ 8 ∧ qF 4 n = c0 + 256 * (c1 + 256 * (c2 + 256 * c3)) ∧ fb_ct n.testBit 32 = c0 + (c1 + (c2 + c3)) := by
  have P : ∀ m : Nat, qb3 (qb2 (qb1 (m % 256))) = pb (m % 256) ∧ pb (m % 256) ≤ 8 := fun m => pb_q _ (by omega)
  refine ⟨_, _, _, _, (P n).2, (P (n / 256)).2, (P (n / 256 / 256)).2, (P (n / 256 / 256 / 256)).2, ?_, ?_⟩
  · rw [qF_sp, qF_sp, qF_sp, qF_sp, (P _).1, (P _).1, (P _).1, (P _).1]
    have : ∀ m, qF 0 m = 0 := fun m => by unfold qF q3 q2 q1; simp [rp]
    rw [this, Nat.mul_zero, Nat.add_zero]
  · rw [show (32 : Nat) = 8 + (8 + (8 + (8 + 0))) from rfl, ct_sp, ct_sp, ct_sp, ct_sp]
    rfl
theorem s8_1 {c0 c1 c2 c3 c4 c5 c6 c7 : Nat} (h0 : c0 ≤ 8) (h1 : c1 ≤ 8) (h2 : c2 ≤ 8) (h3 : c3 ≤ 8) (h4 : c4 ≤ 8) (h5 : c5 ≤ 8) (h6 : c6 ≤ 8) (h7 : c7 ≤ 8) : c0 + 256 * (c1 + 256 * (c2 + 256 * (c3 + 256 * (c4 + 256 * (c5 + 256 * (c6 + 256 * c7)))))) < 1152921504606846976 := by
  have k6 : c6 + 256 * c7 ≤ 2056 := by omega
  have k5 : c5 + 256 * (c6 + 256 * c7) ≤ 526344 := by clear h0 h1 h2 h3 h4 h6 h7; generalize c6 + 256 * c7 = u at *; omega
  have k4 : c4 + 256 * (c5 + 256 * (c6 + 256 * c7)) ≤ 134744072 := by clear h0 h1 h2 h3 h5 h6 h7 k6; generalize c5 + 256 * (c6 + 256 * c7) = u at *; omega
  have k3 : c3 + 256 * (c4 + 256 * (c5 + 256 * (c6 + 256 * c7))) ≤ 34494482440 := by clear h0 h1 h2 h4 h5 h6 h7 k6 k5; generalize c4 + 256 * (c5 + 256 * (c6 + 256 * c7)) = u at *; omega
  have k2 : c2 + 256 * (c3 + 256 * (c4 + 256 * (c5 + 256 * (c6 + 256 * c7)))) ≤ 8830587504648 := by clear h0 h1 h3 h4 h5 h6 h7 k6 k5 k4; generalize c3 + 256 * (c4 + 256 * (c5 + 256 * (c6 + 256 * c7))) = u at *; omega
  have k1 : c1 + 256 * (c2 + 256 * (c3 + 256 * (c4 + 256 * (c5 + 256 * (c6 + 256 * c7))))) ≤ 2260630401189896 := by clear h0 h2 h3 h4 h5 h6 h7 k6 k5 k4 k3; generalize c2 + 256 * (c3 + 256 * (c4 + 256 * (c5 + 256 * (c6 + 256 * c7)))) = u at *; omega
  clear h1 h2 h3 h4 h5 h6 h7 k6 k5 k4 k3 k2
  generalize c1 + 256 * (c2 + 256 * (c3 + 256 * (c4 + 256 * (c5 + 256 * (c6 + 256 * c7))))) = u at *
  omega
theorem s8_d {c u : Nat} (h : c ≤ 8) : (c + 256 * u) / 256 = u := by omega
theorem s8_2 (c0 c1 c2 c3 c4 c5 c6 c7 : Nat) : c0 + 256 * (c1 + 256 * (c2 + 256 * (c3 + 256 * (c4 + 256 * (c5 + 256 * (c6 + 256 * c7)))))) + (c1 + 256 * (c2 + 256 * (c3 + 256 * (c4 + 256 * (c5 + 256 * (c6 + 256 * c7)))))) = ((c0 + c1) + 256 * (c1 + c2)) + 65536 * ((c2 + c3) + 256 * (c3 + c4) + 65536 * ((c4 + c5) + 256 * (c5 + c6) + 65536 * ((c6 + c7) + 256 * c7))) := by omega
theorem s8_3 {a u : Nat} (h : a < 65536) : (a + 65536 * u) / 65536 = u := by omega
theorem s8_4 (a b c d : Nat) : a + 65536 * (b + 65536 * (c + 65536 * d)) + (b + 65536 * (c + 65536 * d)) = (a + b + 65536 * (b + c)) + 4294967296 * (c + d + 65536 * d) := by omega
theorem s8_5 {A B : Nat} (h : A < 4294967296) : (A + 4294967296 * B) / 4294967296 = B := by omega
theorem s8_6 {s x y t z w : Nat} (h : s + t < 128) : (s + 256 * x + 65536 * y + 4294967296 * (t + 256 * z + 65536 * w) + (t + 256 * z + 65536 * w)) % 128 = s + t := by omega
theorem s8_7 {c0 c1 c2 c3 c4 : Nat} (h0 : c0 ≤ 8) (h1 : c1 ≤ 8) (h2 : c2 ≤ 8) (h3 : c3 ≤ 8) (h4 : c4 ≤ 8) : c0 + c1 + 256 * (c1 + c2) < 8192 ∧ c2 + c3 + 256 * (c3 + c4) < 8192 := by omega
theorem sum8 {c0 c1 c2 c3 c4 c5 c6 c7 e : Nat} (h0 : c0 ≤ 8) (h1 : c1 ≤ 8) (h2 : c2 ≤ 8) (h3 : c3 ≤ 8) (h4 : c4 ≤ 8) (h5 : c5 ≤ 8) (h6 : c6 ≤ 8) (h7 : c7 ≤ 8) (he : e = c0 + 256 * (c1 + 256 * (c2 + 256 * (c3 + 256 * (c4 + 256 * (c5 + 256 * (c6 + 256 * c7))))))) :
    e < 2 ^ 60 ∧ e + e / 2 ^ 8 < 2 ^ 61 ∧ (e + e / 2 ^ 8) + (e + e / 2 ^ 8) / 2 ^ 16 < 2 ^ 62 ∧ ((e + e / 2 ^ 8) + (e + e / 2 ^ 8) / 2 ^ 16 + ((e + e / 2 ^ 8) + (e + e / 2 ^ 8) / 2 ^ 16) / 2 ^ 32) % 2 ^ 7 = c0 + (c1 + (c2 + (c3 + (c4 + (c5 + (c6 + c7)))))) := by
  have b1 := s8_1 h0 h1 h2 h3 h4 h5 h6 h7
  rw [← he] at b1
  obtain ⟨f, hf⟩ : ∃ f, f = e + e / 256 := ⟨_, rfl⟩
  have b2 : f < 2305843009213693952 := by clear he; omega
  obtain ⟨g, hg⟩ : ∃ g, g = f + f / 65536 := ⟨_, rfl⟩
  have b3 : g < 4611686018427387904 := by clear he hf; omega
  have q1 := s8_7 h0 h1 h2 h3 h4
  have q2 := s8_7 h4 h5 h6 h7 (Nat.zero_le 8)
  have a2 : f = ((c0 + c1) + 256 * (c1 + c2)) + 65536 * ((c2 + c3) + 256 * (c3 + c4) + 65536 * ((c4 + c5) + 256 * (c5 + c6) + 65536 * ((c6 + c7) + 256 * c7))) := by
    rw [hf, he, s8_d h0, s8_2]
  have a4 : g = ((c0 + c1 + 256 * (c1 + c2)) + (c2 + c3 + 256 * (c3 + c4)) + 65536 * ((c2 + c3 + 256 * (c3 + c4)) + (c4 + c5 + 256 * (c5 + c6)))) + 4294967296 * ((c4 + c5 + 256 * (c5 + c6)) + (c6 + c7 + 256 * c7) + 65536 * (c6 + c7 + 256 * c7)) := by
    rw [hg, a2, s8_3 (Nat.lt_trans q1.1 (by decide)), s8_4]
  have a6 : g / 4294967296 = (c4 + c5 + 256 * (c5 + c6)) + (c6 + c7 + 256 * c7) + 65536 * (c6 + c7 + 256 * c7) := by
    rw [a4]
    refine s8_5 ?_
    obtain ⟨q3, q4⟩ := q1
    obtain ⟨q5, -⟩ := q2
    clear a2 a4 hf hg he b1 b2 b3 h0 h1 h2 h3 h4 h5 h6 h7
    generalize c0 + c1 + 256 * (c1 + c2) = u1 at *
    generalize c2 + c3 + 256 * (c3 + c4) = u2 at *
    generalize c4 + c5 + 256 * (c5 + c6) = u3 at *
    omega
  rw [show (2 : Nat) ^ 60 = 1152921504606846976 from rfl, show (2 : Nat) ^ 61 = 2305843009213693952 from rfl, show (2 : Nat) ^ 62 = 4611686018427387904 from rfl, show (2 : Nat) ^ 8 = 256 from rfl, show (2 : Nat) ^ 16 = 65536 from rfl, show (2 : Nat) ^ 32 = 4294967296 from rfl, show (2 : Nat) ^ 7 = 128 from rfl, ← hf, ← hg]
  refine ⟨b1, b2, b3, ?_⟩
  rw [a6, a4]
  have fin := s8_6 (s := c0 + c1 + (c2 + c3)) (t := c4 + c5 + (c6 + c7)) (x := c1 + c2 + (c3 + c4)) (y := (c2 + c3 + 256 * (c3 + c4)) + (c4 + c5 + 256 * (c5 + c6))) (z := c5 + c6 + c7) (w := c6 + c7 + 256 * c7) (by clear he hf hg a2 a4 a6 b1 b2 b3 q1 q2; omega)
  have e1 : c0 + c1 + (c2 + c3) + 256 * (c1 + c2 + (c3 + c4)) = c0 + c1 + 256 * (c1 + c2) + (c2 + c3 + 256 * (c3 + c4)) := by clear he hf hg a2 a4 a6 b1 b2 b3 q1 q2 fin; omega
  have e2 : c4 + c5 + (c6 + c7) + 256 * (c5 + c6 + c7) = c4 + c5 + 256 * (c5 + c6) + (c6 + c7 + 256 * c7) := by clear he hf hg a2 a4 a6 b1 b2 b3 q1 q2 fin e1; omega
  rw [e1, e2] at fin
  rw [fin]
  clear he hf hg a2 a4 a6 b1 b2 b3 q1 q2 fin e1 e2
  omega
theorem pop (x : Int64) (P : PH) : Jl_bitCount x P = some (nI (fb_ct (bL x) 64)) := by
  obtain ⟨n, hn, rfl⟩ := wb_of x
  obtain ⟨c0, c1, c2, c3, c4, c5, c6, c7, h0, h1, h2, h3, h4, h5, h6, h7, he, hc⟩ := bytes8 n
  obtain ⟨b1, b2, b3, b4⟩ := sum8 h0 h1 h2 h3 h4 h5 h6 h7 he
  have m85 : (6148914691236517205 : Int64) = lN (rp 85 8) := rfl
  have m51 : (3689348814741910323 : Int64) = lN (rp 51 8) := rfl
  have m15 : (1085102592571150095 : Int64) = lN (rp 15 8) := rfl
  have r85 : rp 85 8 < 2 ^ 64 := by decide
  have r51 : rp 51 8 < 2 ^ 62 := by decide
  have r15 : rp 15 8 < 2 ^ 64 := by decide
  have s1 : ∀ {m : Nat}, m < 2 ^ 64 → ((lN m).toUInt64 >>> ((1 : Int32).toInt64.toUInt64 &&& Int64.toUInt64 63)).toInt64 = lN (m / 2) := fun hm => wb_shr (k := 1) hm (by decide)
  have s2 : ∀ {m : Nat}, m < 2 ^ 64 → ((lN m).toUInt64 >>> ((2 : Int32).toInt64.toUInt64 &&& Int64.toUInt64 63)).toInt64 = lN (m / 4) := fun hm => wb_shr (k := 2) hm (by decide)
  have s4 : ∀ {m : Nat}, m < 2 ^ 64 → ((lN m).toUInt64 >>> ((4 : Int32).toInt64.toUInt64 &&& Int64.toUInt64 63)).toInt64 = lN (m / 16) := fun hm => wb_shr (k := 4) hm (by decide)
  have s8 : ∀ {m : Nat}, m < 2 ^ 64 → ((lN m).toUInt64 >>> ((8 : Int32).toInt64.toUInt64 &&& Int64.toUInt64 63)).toInt64 = lN (m / 2 ^ 8) := fun hm => wb_shr (k := 8) hm (by decide)
  have s16 : ∀ {m : Nat}, m < 2 ^ 64 → ((lN m).toUInt64 >>> ((16 : Int32).toInt64.toUInt64 &&& Int64.toUInt64 63)).toInt64 = lN (m / 2 ^ 16) := fun hm => wb_shr (k := 16) hm (by decide)
  have s32 : ∀ {m : Nat}, m < 2 ^ 64 → ((lN m).toUInt64 >>> ((32 : Int32).toInt64.toUInt64 &&& Int64.toUInt64 63)).toInt64 = lN (m / 2 ^ 32) := fun hm => wb_shr (k := 32) hm (by decide)
  have t1 : lN n - lN ((n / 2) &&& rp 85 8) = lN (q1 8 n) := lN_sub (Nat.le_trans Nat.and_le_left (by omega))
  have l1 : q1 8 n < 2 ^ 64 := by unfold q1; omega
  have l2 : q2 8 (q1 8 n) < 2 ^ 63 := by
    unfold q2
    have u1 := Nat.and_lt_two_pow (q1 8 n) r51
    have u2 := Nat.and_lt_two_pow (q1 8 n / 4) r51
    omega
  unfold Jl_bitCount
  simp only [Option.bind_some]
  rw [m85, m51, m15, s1 hn, wb_and (by omega) r85, t1, s2 l1, wb_and l1 (by omega), wb_and (by omega) (by omega), lN_add]
  rw [show (q1 8 n &&& rp 51 8) + (q1 8 n / 4 &&& rp 51 8) = q2 8 (q1 8 n) from rfl, s4 (by omega), lN_add, wb_and (by omega) r15]
  rw [show (q2 8 (q1 8 n) + q2 8 (q1 8 n) / 16) &&& rp 15 8 = qF 8 n from rfl, s8 (by omega), lN_add, s16 (by omega), lN_add, s32 (by omega), lN_add, lN_i]
  have f1 : ∀ m : Nat, nI m &&& (127 : Int32) = nI (m % 2 ^ 7) := fun m => fa_mask m 7
  have f2 : fb_ct (bL (lN n)) 64 = fb_ct n.testBit 64 := fb_ct_cong (fun k _ => bL_lN hn k)
  rw [f1, b4, f2, hc]
theorem low_of {x : Int64} (h : ∃ k, k < 64 ∧ bL x k = true) : ∃ i, i < 64 ∧ bL x i = true ∧ ∀ j, j < i → bL x j = false := by
  obtain ⟨i, h1, h2, h3⟩ := fb_first (p := fun k => bL x k = true) h
  exact ⟨i, h1, h2, fun j hj => ts_nt (h3 j hj)⟩
theorem ct_below {i : Nat} (n : Nat) (h : i ≤ n) : fb_ct (fun j => decide (j < i)) n = i := by
  obtain ⟨d, rfl⟩ : ∃ d, n = i + d := ⟨n - i, by omega⟩
  rw [fb_ct_split, fb_ct_all.mpr (fun k hk => by simp [hk]), fb_ct_zero.mpr (fun k hk => by simp), Nat.add_zero]
theorem low_is {x : Int64} {i : Nat} (hi : i < 64) (h1 : bL x i = true) (h2 : ∀ j, j < i → bL x j = false) (P : PH) : Bs_lowest x P = some (nI i) := by
  unfold Bs_lowest
  rw [pop]
  simp only [Option.bind_some]
  rw [fb_ct_cong (q := fun j => decide (j < i)) (fun k _ => bL_lower h1 h2 hi k), ct_below 64 (by omega)]
theorem sum4 {c0 c1 c2 c3 e : Nat} (h0 : c0 ≤ 8) (h1 : c1 ≤ 8) (h2 : c2 ≤ 8) (h3 : c3 ≤ 8) (he : e = c0 + 256 * (c1 + 256 * (c2 + 256 * c3))) :
    e < 2 ^ 28 ∧ e + e / 2 ^ 8 < 2 ^ 29 ∧ ((e + e / 2 ^ 8) + (e + e / 2 ^ 8) / 2 ^ 16) % 2 ^ 6 = c0 + (c1 + (c2 + c3)) := by
  have a1 : e / 2 ^ 8 = c1 + 256 * (c2 + 256 * c3) := by
    have : (2 : Nat) ^ 8 = 256 := rfl
    omega
  obtain ⟨f, hf⟩ : ∃ f, f = e + e / 2 ^ 8 := ⟨_, rfl⟩
  have a2 : f = (c0 + c1) + 256 * (c1 + c2) + 65536 * ((c2 + c3) + 256 * c3) := by
    rw [hf, a1, he]; omega
  have a3 : f / 2 ^ 16 = (c2 + c3) + 256 * c3 := by
    have : (2 : Nat) ^ 16 = 65536 := rfl
    omega
  have p28 : (2 : Nat) ^ 28 = 268435456 := rfl
  have p29 : (2 : Nat) ^ 29 = 536870912 := rfl
  have p6 : (2 : Nat) ^ 6 = 64 := rfl
  rw [← hf, a3, p28, p29, p6]
  refine ⟨by omega, by omega, by omega⟩
theorem pop32 {n : Nat} (hn : n < 2 ^ 32) (P : PH) : Ji_bitCount (nI n) P = some (nI (fb_ct n.testBit 32)) := by
  obtain ⟨c0, c1, c2, c3, h0, h1, h2, h3, he, hc⟩ := bytes4 n
  obtain ⟨b1, b2, b4⟩ := sum4 h0 h1 h2 h3 he
  have m85 : (1431655765 : Int32) = nI (rp 85 4) := rfl
  have m51 : (858993459 : Int32) = nI (rp 51 4) := rfl
  have m15 : (252645135 : Int32) = nI (rp 15 4) := rfl
  have r51 : rp 51 4 < 2 ^ 30 := by decide
  have s1 : ∀ {m : Nat}, m < 2 ^ 32 → ((nI m).toUInt32 >>> ((1 : Int32).toUInt32 &&& Int32.toUInt32 31)).toInt32 = nI (m / 2) := fun hm => pk_ushrN hm 1 1 (by decide)
  have s2 : ∀ {m : Nat}, m < 2 ^ 32 → ((nI m).toUInt32 >>> ((2 : Int32).toUInt32 &&& Int32.toUInt32 31)).toInt32 = nI (m / 4) := fun hm => pk_ushrN hm 2 2 (by decide)
  have s4 : ∀ {m : Nat}, m < 2 ^ 32 → ((nI m).toUInt32 >>> ((4 : Int32).toUInt32 &&& Int32.toUInt32 31)).toInt32 = nI (m / 16) := fun hm => pk_ushrN hm 4 4 (by decide)
  have s8 : ∀ {m : Nat}, m < 2 ^ 32 → ((nI m).toUInt32 >>> ((8 : Int32).toUInt32 &&& Int32.toUInt32 31)).toInt32 = nI (m / 2 ^ 8) := fun hm => pk_ushrN hm 8 8 (by decide)
  have s16 : ∀ {m : Nat}, m < 2 ^ 32 → ((nI m).toUInt32 >>> ((16 : Int32).toUInt32 &&& Int32.toUInt32 31)).toInt32 = nI (m / 2 ^ 16) := fun hm => pk_ushrN hm 16 16 (by decide)
  have t1 : nI n - nI ((n / 2) &&& rp 85 4) = nI (q1 4 n) := pk_sub (Nat.le_trans Nat.and_le_left (by omega))
  have l1 : q1 4 n < 2 ^ 32 := by unfold q1; omega
  have l2 : q2 4 (q1 4 n) < 2 ^ 31 := by
    unfold q2
    have u1 := Nat.and_lt_two_pow (q1 4 n) r51
    have u2 := Nat.and_lt_two_pow (q1 4 n / 4) r51
    omega
  unfold Ji_bitCount
  simp only [Option.bind_some]
  rw [m85, m51, m15, s1 hn, fa_and, t1, s2 l1, fa_and, fa_and, nI_add]
  rw [show (q1 4 n &&& rp 51 4) + (q1 4 n / 4 &&& rp 51 4) = q2 4 (q1 4 n) from rfl, s4 (by omega), nI_add, fa_and]
  rw [show (q2 4 (q1 4 n) + q2 4 (q1 4 n) / 16) &&& rp 15 4 = qF 4 n from rfl, s8 (by omega), nI_add, s16 (by omega), nI_add]
  have f1 : ∀ m : Nat, nI m &&& (63 : Int32) = nI (m % 2 ^ 6) := fun m => fa_mask m 6
  rw [f1, b4, hc]
