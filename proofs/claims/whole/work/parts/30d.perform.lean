/-! PERFORM -/
/-- a way, if a code is one -/
def wyO (c : Int64) : Option Nat := if 0 ≤ c.toInt ∧ c.toInt < 8 then some c.toInt.toNat else none
section PFM
variable {D : DT} {N : NT} {P : PH}
theorem wy_cases (c : Int64) : (∃ w, w < 8 ∧ c = (nI w).toInt64 ∧ wyO c = some w) ∨ ((c < 0 ∨ (8 : Int64) ≤ c) ∧ wyO c = none) := by
  unfold wyO
  have h8 : (8 : Int64).toInt = 8 := by decide
  have h0 : (0 : Int64).toInt = 0 := by decide
  by_cases q : 0 ≤ c.toInt ∧ c.toInt < 8
  · refine Or.inl ⟨c.toInt.toNat, by omega, ?_, if_pos q⟩
    rw [← Int64.toInt_inj, Int32.toInt_toInt64, nI_toInt (by omega)]
    omega
  · refine Or.inr ⟨?_, if_neg q⟩
    rw [Int64.lt_iff_toInt_lt, Int64.le_iff_toInt_le, h0, h8]
    omega
theorem wayAt {i k : Nat} (hk : k < 40) : Tr_wayAt (53 + 2 * i) (nI k) P = some (enc (wyO (P.2 (53 + 2 * i + 1) k))) := by
  unfold Tr_wayAt
  rw [if_neg (nI_pos (by omega)), if_neg (show ¬ (40 : Int32) ≤ nI k from (show ¬ nI 40 ≤ nI k from nI_ge hk (by decide))), z_gd hk (by decide), z_cl (by omega), z_gd hk (by decide), z_gd hk (by decide)]
  generalize P.2 (53 + 2 * i + 1) k = c
  rcases wy_cases c with ⟨w, hw, e, e2⟩ | ⟨e, e2⟩
  · rw [e2, if_neg (fun q => by
      rw [lg_lt, e, Int64.lt_iff_toInt_lt, Int32.toInt_toInt64, nI_toInt (by omega), show (0 : Int64).toInt = 0 by decide] at q
      omega), if_pos (by
      rw [lg_lt, e, Int64.lt_iff_toInt_lt, Int32.toInt_toInt64, nI_toInt (by omega), show (8 : Int64).toInt = 8 by decide]
      omega), e, Int32.toInt32_toInt64]
    rfl
  · rw [e2]
    by_cases q : c < 0
    · rw [if_pos ((lg_lt _ _).mpr q)]; rfl
    · rw [if_neg (fun z => q ((lg_lt _ _).mp z)), if_neg (fun z => by
        rw [lg_lt] at z
        rcases e with e | e
        · exact q e
        · rw [Int64.lt_iff_toInt_lt] at z
          rw [Int64.le_iff_toInt_le] at e
          omega)]
      rfl
theorem mo_whyNot_c (hD : WD D) (hN : WN D N) (hRD : RD D (P.1 88)) (hR : RN D N (P.1 88)) (c : Int64) : Mo_whyNot c P = some (nI (rsn D N (wyO c))) := by
  rcases wy_cases c with ⟨w, hw, e, e2⟩ | ⟨e, e2⟩
  · rw [e2, e]
    exact mo_whyNot_way hD hN hRD hR hw
  · rw [e2]
    refine mo_whyNot_no hD hN hRD hR ?_
    unfold Mo_isWay
    rw [mo_within, if_neg (fun q => by
      obtain ⟨q1, q2⟩ := q
      rw [Int64.le_iff_toInt_le] at q1 q2
      rw [show (7 : Int64).toInt = 7 by decide] at q2
      rw [show (0 : Int64).toInt = 0 by decide] at q1
      rcases e with e | e
      · rw [Int64.lt_iff_toInt_lt, show (0 : Int64).toInt = 0 by decide] at e; omega
      · rw [Int64.le_iff_toInt_le, show (8 : Int64).toInt = 8 by decide] at e; omega)]
    exact gd0
theorem lineBy_o (hD : WD D) {d : Nat} (hC : CD d D P) {o : Option Nat} (ho : ∀ w, o = some w → w < 8) : ∀ h, h < 144 → Dr_lineBy d (nI h) (enc o) P = some (enc (o.bind (lnA D h))) := by
  intro h hh
  cases o with
  | none => exact dr_lineBy_no (Or.inl (by decide))
  | some w => exact dr_lineBy hD hC hh (ho w rfl)
theorem wyO_lt {c : Int64} : ∀ w, wyO c = some w → w < 8 := by
  intro w e
  rcases wy_cases c with ⟨v, hv, -, e2⟩ | ⟨-, e2⟩
  · rw [e2] at e; rw [← Option.some.inj e]; exact hv
  · rw [e2] at e; cases e
/-- going by codes -/
def runW (D : DT) (cd : Nat → Option Nat) : Nat → Nat → NT → Nat × NT
  | 0, k, N => (k, N)
  | m + 1, k, N => if rsn D N (cd k) = 0 then (match cd k with
    | some w => (match lnA D (xH N (xM N)) w with
      | some l => runW D cd m (k + 1) (goN N w l)
      | none => (k, N))
    | none => (k, N)) else (k, N)
theorem runW_go {cd : Nat → Option Nat} {m k w l : Nat} (h : rsn D N (cd k) = 0) (e1 : cd k = some w) (e2 : lnA D (xH N (xM N)) w = some l) : runW D cd (m + 1) k N = runW D cd m (k + 1) (goN N w l) := by
  rw [runW, if_pos h, e1]
  show (match lnA D (xH N (xM N)) w with
      | some l => runW D cd m (k + 1) (goN N w l)
      | none => (k, N)) = _
  rw [e2]
theorem runW_no {cd : Nat → Option Nat} {m k : Nat} (h : rsn D N (cd k) ≠ 0) : runW D cd (m + 1) k N = (k, N) := by
  rw [runW, if_neg h]
theorem run_ok (hD : WD D) {cd : Nat → Option Nat} (hcd : ∀ k w, cd k = some w → w < 8) : ∀ (m k : Nat) (N : NT), WN D N → xT N = true → WN D (runW D cd m k N).2 ∧ xT (runW D cd m k N).2 = true ∧ (runW D cd m k N).1 ≤ k + m ∧ ((runW D cd m k N).1 < k + m → rsn D (runW D cd m k N).2 (cd (runW D cd m k N).1) ≠ 0)
  | 0, k, N, hN, ht => ⟨hN, ht, Nat.le_refl _, fun h => absurd h (Nat.lt_irrefl _)⟩
  | m + 1, k, N, hN, ht => by
    by_cases c : rsn D N (cd k) = 0
    · obtain ⟨ht, w, l, q1, q2, q3, q4⟩ := rsn_0 c
      rw [runW_go c q1 q2]
      obtain ⟨a, b, e, f⟩ := run_ok hD hcd m (k + 1) (goN N w l) (WN.go hD hN ht (hcd k w q1) q2 q3 q4) ht
      exact ⟨a, b, by omega, fun h => f (by omega)⟩
    · rw [runW_no c]
      exact ⟨hN, ht, by show k ≤ k + (m + 1); omega, fun _ => c⟩
theorem cls_run {nd i M : Nat} (ha : apt nd) (hnd : nd < 50) (h3 : ndD nd = 3) (hi : i < 4) (hM : M ≤ 40) (hD : WD D) {cd : Nat → Option Nat} : ∀ (m k n : Nat) (N : NT) (P : PH), k + m = M → m < n → WN D N → CD 3 D P → CN nd D N P → xT N = true → P.1 (53 + 2 * i) 1 = nI M → (∀ k, k < 40 → wyO (P.2 (53 + 2 * i + 1) k) = cd k) →
    ∃ P', Bs_goBy_2 nd (53 + 2 * i) n (nI k) P = some (nI (runW D cd m k N).1, P') ∧ CN nd D (runW D cd m k N).2 P' ∧ onlyN nd P P' := by
  intro m
  induction m with
  | zero =>
    intro k n N P hk hn hN hC hCN ht hm hcd
    obtain ⟨n, rfl⟩ : ∃ q, n = q + 1 := ⟨n - 1, by omega⟩
    obtain rfl : k = M := by omega
    refine ⟨P, ?_, hCN, onlyN.rf nd P⟩
    unfold Bs_goBy_2
    rw [hm, if_pos (by rw [z_le (by omega) (by omega)]; exact Nat.le_refl _)]
    rfl
  | succ m ih =>
    intro k n N P hk hn hN hC hCN ht hm hcd
    obtain ⟨n, rfl⟩ : ∃ q, n = q + 1 := ⟨n - 1, by omega⟩
    have hC' : CD (ndD nd) D P := by rw [h3]; exact hC
    by_cases c : rsn D N (cd k) = 0
    · obtain ⟨ht2, w, l, q1, q2, q3, q4⟩ := rsn_0 c
      have hw : w < 8 := wyO_lt (c := P.2 (53 + 2 * i + 1) k) w ((hcd k (by omega)).trans q1)
      obtain ⟨P1, g1, g2, g3⟩ := ne_go ha hD hC' hN hCN hw (by rw [← q1]; exact c) q2
      obtain ⟨P', e1, e2, e3⟩ := ih (k + 1) n (goN N w l) P1 (by omega) (by omega) (WN.go hD hN ht hw q2 q3 q4) (by have := hC'.only ha g3; rw [h3] at this; exact this) g2 ht (by rw [g3.1 _ (by omega) (by omega)]; exact hm) (fun k hk => by rw [g3.2 _ (by omega)]; exact hcd k hk)
      rw [runW_go c q1 q2]
      refine ⟨P', ?_, e2, g3.tr e3⟩
      unfold Bs_goBy_2
      rw [hm, if_neg (nI_ge (by omega) (by omega)), wayAt (by omega), hcd k (by omega), q1, Option.bind_some, show enc (some w) = nI w from rfl, g1, Option.bind_some, if_pos rfl, show nI k + 1 = nI (k + 1) from nI_1 _]
      exact e1
    · rw [runW_no c]
      refine ⟨P, ?_, hCN, onlyN.rf nd P⟩
      have hr := rsn_le D N (cd k)
      unfold Bs_goBy_2
      rw [hm, if_neg (nI_ge (by omega) (by omega)), wayAt (by omega), hcd k (by omega), Option.bind_some, ne_go_not hD hC' hN hCN (lineBy_o hD hC' (fun w q => wyO_lt (c := P.2 (53 + 2 * i + 1) k) w ((hcd k (by omega)).trans q))) c, Option.bind_some, if_neg (nI_ne0 (by omega) (by omega))]
theorem mo_run {i M : Nat} (hi : i < 4) (hM : M ≤ 40) (hD : WD D) {cd : Nat → Option Nat} : ∀ (m k n : Nat) (N : NT) (Q : PH), k + m = M → m < n → WN D N → RD D (Q.1 88) → RN D N (Q.1 88) → xT N = true → Q.1 109 i = nI M → (∀ k, k < 40 → wyO (Q.2 110 (40 * i + k)) = cd k) →
    ∃ Q', Mo_goesBy_2 (nI i) n (nI k) Q = some (nI (runW D cd m k N).1, Q') ∧ RD D (Q'.1 88) ∧ RN D (runW D cd m k N).2 (Q'.1 88) ∧ only88 Q Q' := by
  intro m
  induction m with
  | zero =>
    intro k n N Q hk hn hN hR hRN ht hm hcd
    obtain ⟨n, rfl⟩ : ∃ q, n = q + 1 := ⟨n - 1, by omega⟩
    obtain rfl : k = M := by omega
    refine ⟨Q, ?_, hR, hRN, only88.rf Q⟩
    unfold Mo_goesBy_2
    rw [z_gd hi (by decide), z_cl (by omega), hm, if_pos (by rw [z_le (by omega) (by omega)]; exact Nat.le_refl _)]
    rfl
  | succ m ih =>
    intro k n N Q hk hn hN hR hRN ht hm hcd
    obtain ⟨n, rfl⟩ : ∃ q, n = q + 1 := ⟨n - 1, by omega⟩
    have e40 : ((40 : Int32) * nI i) + nI k = nI (40 * i + k) := by rw [show (40 : Int32) = nI 40 from rfl, pk_mul, nI_add]
    have hw0 := mo_whyNot_c hD hN hR hRN (Q.2 110 (40 * i + k))
    rw [hcd k (by omega)] at hw0
    by_cases c : rsn D N (cd k) = 0
    · obtain ⟨ht2, w, l, q1, q2, q3, q4⟩ := rsn_0 c
      have hwy := (hcd k (by omega)).trans q1
      have hw : w < 8 := wyO_lt w hwy
      have hc : (Q.2 110 (40 * i + k)).toInt32 = nI w := by
        rcases wy_cases (Q.2 110 (40 * i + k)) with ⟨v, hv, e, e2⟩ | ⟨-, e2⟩
        · rw [hwy] at e2
          obtain rfl := Option.some.inj e2
          rw [e, Int32.toInt32_toInt64]
        · rw [hwy] at e2; cases e2
      obtain ⟨Q1, f1, f2, f3, f4⟩ := mo_goes (P := Q) hD hN hR hRN ht hw q2 q4
      obtain ⟨Q', e1, e2, e3, e4⟩ := ih (k + 1) n (goN N w l) Q1 (by omega) (by omega) (WN.go hD hN ht hw q2 q3 q4) f2 f3 ht (by rw [f4.1 109 (by decide)]; exact hm) (fun k hk => by rw [f4.2]; exact hcd k hk)
      rw [runW_go c q1 q2]
      refine ⟨Q', ?_, e2, e3, f4.tr e4⟩
      unfold Mo_goesBy_2
      rw [z_gd hi (by decide), z_cl (show i < 2147483648 by omega), hm, if_neg (nI_ge (by omega) (by omega)), e40, z_gd (show 40 * i + k < 160 by omega) (by decide), z_cl (show 40 * i + k < 2147483648 by omega), hw0, Option.bind_some, c, if_pos (show nI 0 = 0 from rfl), z_gd (show 40 * i + k < 160 by omega) (by decide), hc, f1, Option.bind_some, show nI k + 1 = nI (k + 1) from nI_1 _]
      exact e1
    · rw [runW_no c]
      refine ⟨Q, ?_, hR, hRN, only88.rf Q⟩
      have hr := rsn_le D N (cd k)
      unfold Mo_goesBy_2
      rw [z_gd hi (by decide), z_cl (show i < 2147483648 by omega), hm, if_neg (nI_ge (by omega) (by omega)), e40, z_gd (show 40 * i + k < 160 by omega) (by decide), z_cl (show 40 * i + k < 2147483648 by omega), hw0, Option.bind_some, if_neg (nI_ne0 (by omega) (by omega))]
end PFM
