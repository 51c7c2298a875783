/-! DRAWING: a step of the class's reading -/
def oCf (P Q : PH) : Prop := (∀ n, n < 66 ∨ n = 72 ∨ 73 < n → Q.1 n = P.1 n) ∧ (∀ k, k = 0 ∨ k = 3 ∨ k = 4 ∨ k = 5 ∨ 10 < k → Q.1 71 k = P.1 71 k) ∧ Q.2 = P.2
section RST
variable {P : PH} {T : Nat → Nat} {n p : Nat}
theorem oCf.rf (P : PH) : oCf P P := ⟨fun _ _ => rfl, fun _ _ => rfl, rfl⟩
theorem oCf.tr {P Q R : PH} (h : oCf P Q) (h2 : oCf Q R) : oCf P R := ⟨fun n a => (h2.1 n a).trans (h.1 n a), fun k a => (h2.2.1 k a).trans (h.2.1 k a), h2.2.2.trans h.2.2⟩
theorem oTk.cf {P Q : PH} (h : oTk P Q) : oCf P Q := ⟨fun n a => h.1 n (by omega), fun k a => h.2.1 k (by omega) (by omega) (by omega) (by omega) (by omega) (by omega), h.2.2⟩
theorem oCf.s {P Q : PH} (h : oCf P Q) {a k : Nat} (hk : (66 ≤ a ∧ a ≤ 70) ∨ a = 73 ∨ (a = 71 ∧ k = 10)) (v : Int32) : oCf P (sI Q a k v) := by
  refine ⟨fun n z => ?_, fun j z => ?_, h.2.2⟩
  · by_cases c : n = a
    · omega
    · rw [rowI_o _ _ _ c]; exact h.1 n z
  · by_cases c : 71 = a
    · rw [← c, rowI_s, pk_un (by omega)]; exact h.2.1 j z
    · rw [rowI_o _ _ _ c]; exact h.2.1 j z
theorem TXc.cf {Q : PH} (h : TXc T n P) (o : oCf P Q) : TXc T n Q := ⟨h.1, fun k hk => by rw [o.1 72 (by omega)]; exact h.2.1 k hk, by rw [o.2.1 5 (by omega)]; exact h.2.2⟩
theorem tK3 {T : Nat → Nat} {n p : Nat} (h : tK T n p = 3) : T (tB T n p) = 59 ∨ T (tB T n p) = 40 ∨ T (tB T n p) = 41 := by
  unfold tK at h
  split at h
  · split at h
    · omega
    · split at h
      · split at h <;> omega
      · split at h
        · assumption
        · omega
  · omega
theorem rd_F {F : Nat} {v : Int32} (h : ¬ P.1 71 1 = 0) : Re_read_47 (F + 1) v P = some P := by
  unfold Re_read_47
  rw [if_neg h, ite_self]
theorem rd_eq (F : Nat) (v : Int32) (P : PH) : Re_read_47 (F + 1) v P = if (P.1 71 5) < v then some P else (if (P.1 71 1) = 0 then (Re_token P).bind fun (x63 : PH) => (if (x63.1 71 7) = 0 then (if (x63.1 71 10) = 0 then some x63 else Re_read_81 (Re_read_47 F) v x63) else Re_read_81 (Re_read_47 F) v x63) else some P) := rfl
/-- behind the token -/
theorem rd_0 {k F : Nat} (hT : TXc T n P) (hp : p ≤ n) (h1 : P.1 71 1 = 0) (h6 : P.1 71 6 = nI p) (hk : k ≤ n) : ∃ x, Re_token P = some x ∧ x.1 71 6 = nI (tE T n p) ∧ x.1 71 8 = nI (tB T n p) ∧ x.1 71 7 = nI (kdC T n p) ∧ (tK T n p ≠ 4 → x.1 71 1 = 0 ∧ x.1 71 2 = P.1 71 2) ∧ (tK T n p = 4 → x.1 71 1 = nI 1 ∧ x.1 71 2 = nI (tB T n p)) ∧ oTk P x ∧ TXc T n x ∧ (¬ (tK T n p = 0 ∧ P.1 71 10 = 0) → Re_read_47 (F + 1) (nI k) P = Re_read_81 (Re_read_47 F) (nI k) x) ∧ (tK T n p = 0 → P.1 71 10 = 0 → Re_read_47 (F + 1) (nI k) P = some x) := by
  obtain ⟨x, e1, e2, e3, e4, e5, e6, e7, e8⟩ := re_token hT hp h1 h6
  have nn := hT.1
  have kl := tK_le T n p
  have k10 : x.1 71 10 = P.1 71 10 := e8.2.1 10 (by decide) (by decide) (by decide) (by decide) (by decide) (by decide)
  have kz : tK T n p ≠ 0 → kdC T n p ≠ 0 ∧ kdC T n p < 100 := fun z => by
    unfold kdC
    by_cases c : tK T n p = 3
    · rw [if_pos c]; have := tK3 c; omega
    · rw [if_neg c]; split <;> omega
  have k0 : tK T n p = 0 → kdC T n p = 0 := fun z => by
    unfold kdC
    rw [if_neg (by omega), if_neg (by omega)]; exact z
  have st : Re_read_47 (F + 1) (nI k) P = if (x.1 71 7) = 0 then (if (x.1 71 10) = 0 then some x else Re_read_81 (Re_read_47 F) (nI k) x) else Re_read_81 (Re_read_47 F) (nI k) x := by
    rw [rd_eq, hT.2.2, if_neg (show ¬ nI n < nI k from by rw [z_lt (by omega) (by omega)]; omega), if_pos h1, e1, Option.bind_some]
  refine ⟨x, e1, e2, e3, e4, e6, e7, e8, hT.keep e8, fun z => ?_, fun z z2 => ?_⟩
  · rw [st, k10]
    by_cases c : tK T n p = 0
    · rw [if_neg (fun q => z ⟨c, q⟩), ite_self]
    · rw [if_neg (by rw [e4]; exact nI_ne0 (Nat.pos_of_ne_zero (kz c).1) (by have := (kz c).2; omega))]
  · rw [st, k10, if_pos (by rw [e4, k0 z]; rfl), if_pos z2]
theorem rd_word {k F w : Nat} (hT : TXc T n P) (hp : p ≤ n) (h1 : P.1 71 1 = 0) (h6 : P.1 71 6 = nI p) (hk : k ≤ n) (hK : tK T n p = 1) (hw : wdO T (tB T n p) (tE T n p) = some w) : ∃ x, ResC T n P x (.inr (tE T n p)) ∧ Re_read_47 (F + 1) (nI k) P = (Re_worded (nI w) (nI (tB T n p)) x).bind fun y => Re_read_47 F (nI (k + 1)) y := by
  obtain ⟨x, e1, e2, e3, e4, e5, e6, e7, e8, e9, -⟩ := rd_0 (F := F) hT hp h1 h6 hk
  have t := tE_le (T := T) hp
  have e5 := e5 (by omega)
  have wl : w < 14 := (fsp_some hw).1
  have kd : kdC T n p = 1 := by unfold kdC; rw [if_neg (by omega), if_neg (by omega)]; exact hK
  refine ⟨x, ⟨e8, e7, t.2.1, e5.1, e5.2, e2⟩, ?_⟩
  rw [e9 (fun z => by omega)]
  unfold Re_read_81 Re_read_97 Re_read_127
  have f7 : x.1 71 7 = (1 : Int32) := by rw [e4, kd]; rfl
  rw [if_pos f7, re_wordTold e8 t.1 t.2.1 e2 e3, hw, Option.bind_some, f7, if_neg (by decide), show (enc (some w)) = nI w from rfl, if_neg (show ¬ nI w = (-1 : Int32) from nI_nm (by omega)), e3, nI_1]
theorem rd_bad {k F : Nat} (hT : TXc T n P) (hp : p ≤ n) (h1 : P.1 71 1 = 0) (h6 : P.1 71 6 = nI p) (hk : k ≤ n) {d : Nat} (hd : d ≤ 5) (h10 : P.1 71 10 = nI d) (hW : ¬ (tK T n p = 1 ∧ ∃ w, wdO T (tB T n p) (tE T n p) = some w)) (h0 : tK T n p = 0 → 0 < d) (h41 : sgn T n p 41 → d = 0) : ∃ y, Re_read_47 (F + 1) (nI k) P = Re_read_47 F (nI (k + 1)) y ∧ oTk P y ∧ y.1 71 1 = nI (fC T n p 2) ∧ y.1 71 2 = nI (tB T n p) := by
  obtain ⟨x, e1, e2, e3, e4, e5, e6, e7, e8, e9, -⟩ := rd_0 (F := F) hT hp h1 h6 hk
  have t := tE_le (T := T) hp
  have k10 : x.1 71 10 = nI d := (e7.2.1 10 (by decide) (by decide) (by decide) (by decide) (by decide) (by decide)).trans h10
  have g0 := e9 (fun z => by have := h0 z.1; rw [h10] at z; exact nI_ne0 (by omega) (by omega) z.2)
  have rd127 : ∃ y, Re_read_127 (Re_read_47 F) (nI k) (-1 : Int32) x = Re_read_47 F (nI (k + 1)) y ∧ oTk P y ∧ y.1 71 1 = nI (fC T n p 2) ∧ y.1 71 2 = nI (tB T n p) := by
    unfold Re_read_127 fC
    rw [if_pos rfl, nI_1]
    by_cases c : tK T n p = 4
    · obtain ⟨f1, f2⟩ := e6 c
      rw [re_failF (by rw [f1]; decide), Option.bind_some, if_pos c]
      exact ⟨x, rfl, e7, f1, f2⟩
    · obtain ⟨f1, f2⟩ := e5 c
      obtain ⟨y, y1, y2, y3, y4, y5⟩ := re_fail0 (k := 2) f1 e3
      have y1 : Re_fail (2 : Int32) x = some y := y1
      rw [y1, Option.bind_some, if_neg c]
      exact ⟨y, rfl, e7.tr y5, y2, y3⟩
  have rd97 : Re_read_97 (Re_read_47 F) (nI k) (-1 : Int32) x = Re_read_127 (Re_read_47 F) (nI k) (-1 : Int32) x := by
    unfold Re_read_97
    by_cases c : x.1 71 7 = (41 : Int32)
    · rw [if_pos c]
      by_cases z : d = 0
      · rw [k10, z, if_pos (by decide)]
      · have kk : kdC T n p = 41 := by
          have kl := tK_le T n p
          have : kdC T n p < 100 := by
            unfold kdC
            by_cases c : tK T n p = 3
            · rw [if_pos c]; have := tK3 c; omega
            · rw [if_neg c]; split <;> omega
          have c : nI (kdC T n p) = nI 41 := e4 ▸ c
          rwa [z_eq (by omega) (by omega)] at c
        have : sgn T n p 41 := by
          have kl := tK_le T n p
          unfold kdC at kk
          by_cases c : tK T n p = 3
          · rw [if_pos c] at kk; exact ⟨c, kk⟩
          · rw [if_neg c] at kk
            split at kk <;> omega
        exact absurd (h41 this) z
    · rw [if_neg c]
  rw [g0]
  unfold Re_read_81
  by_cases c : x.1 71 7 = (1 : Int32)
  · have hK : tK T n p = 1 := by
      have kl := tK_le T n p
      have c : nI (kdC T n p) = nI 1 := e4 ▸ c
      unfold kdC at c
      by_cases z : tK T n p = 3
      · rw [if_pos z] at c
        have := tK3 z
        rw [z_eq (by omega) (by omega)] at c
        omega
      · rw [if_neg z] at c
        split at c
        · exact absurd c (by decide)
        · rw [z_eq (by omega) (by omega)] at c
          exact c
    have hw : wdO T (tB T n p) (tE T n p) = none := by
      cases e : wdO T (tB T n p) (tE T n p) with
      | none => rfl
      | some w => exact absurd ⟨hK, w, e⟩ hW
    rw [if_pos c, re_wordTold e8 t.1 t.2.1 e2 e3, hw, Option.bind_some, show enc none = (-1 : Int32) from rfl, rd97]
    exact rd127
  · rw [if_neg c, rd97]
    exact rd127
theorem rd_close {k F : Nat} (hT : TXc T n P) (hp : p ≤ n) (h1 : P.1 71 1 = 0) (h6 : P.1 71 6 = nI p) (hk : k ≤ n) {d : Nat} (hd : d ≤ 5) (hd0 : 0 < d) (h10 : P.1 71 10 = nI d) (h41 : sgn T n p 41) : ∃ x, ResC T n P x (.inr (tE T n p)) ∧ Re_read_47 (F + 1) (nI k) P = (Re_sign (59 : Int32) x).bind fun y => (Re_closeBlock y).bind fun z => Re_read_47 F (nI (k + 1)) z := by
  obtain ⟨x, e1, e2, e3, e4, e5, e6, e7, e8, e9, -⟩ := rd_0 (F := F) hT hp h1 h6 hk
  have t := tE_le (T := T) hp
  have hK := h41.1
  have e5 := e5 (by omega)
  have k10 : x.1 71 10 = nI d := (e7.2.1 10 (by decide) (by decide) (by decide) (by decide) (by decide) (by decide)).trans h10
  have kd : kdC T n p = 41 := by unfold kdC; rw [if_pos hK]; exact h41.2
  refine ⟨x, ⟨e8, e7, t.2.1, e5.1, e5.2, e2⟩, ?_⟩
  rw [e9 (fun z => by omega)]
  unfold Re_read_81 Re_read_97
  have f7 : x.1 71 7 = (41 : Int32) := by rw [e4, kd]; rfl
  rw [f7, if_neg (by decide), if_pos rfl, k10, if_neg (show ¬ nI d ≤ (0 : Int32) from (show ¬ nI d ≤ nI 0 by rw [z_le (by omega) (by omega)]; omega)), nI_1]
/-- adding to the script -/
theorem sc_add {sz : Nat} (h : P.1 66 0 = nI sz) (hs : sz < 200) (a b c d : Int32) : ∃ Q, Sc_add a b c d P = some Q ∧ Q.1 66 0 = nI (sz + 1) ∧ Q.1 67 sz = a ∧ Q.1 68 sz = b ∧ Q.1 69 sz = c ∧ Q.1 70 sz = d ∧ (∀ r k, 67 ≤ r → r ≤ 70 → k ≠ sz → Q.1 r k = P.1 r k) ∧ Q.1 71 = P.1 71 ∧ Q.1 73 = P.1 73 ∧ oCf P Q := by
  obtain ⟨Q, hQ⟩ : ∃ Q, Q = sI (sI (sI (sI (sI P 67 sz a) 68 sz b) 69 sz c) 70 sz d) 66 0 (nI (sz + 1)) := ⟨_, rfl⟩
  refine ⟨Q, ?_, ?_, ?_, ?_, ?_, ?_, fun r k r1 r2 r3 => ?_, ?_, ?_, ?_⟩
  · unfold Sc_add
    rw [h, if_neg (show ¬ nI sz < 0 from nI_pos (by omega)), if_neg (show ¬ (200 : Int32) ≤ nI sz from (show ¬ nI 200 ≤ nI sz from nI_ge hs (by decide))), z_gd hs (by decide), z_cl (by omega), Option.bind_some, rowI_o _ _ _ (by decide), h, z_gd hs (by decide), z_cl (by omega), Option.bind_some, rowI_o _ _ _ (by decide), rowI_o _ _ _ (by decide), h, z_gd hs (by decide), z_cl (by omega), Option.bind_some, rowI_o _ _ _ (by decide), rowI_o _ _ _ (by decide), rowI_o _ _ _ (by decide), h, z_gd hs (by decide), z_cl (by omega), Option.bind_some, rowI_o _ _ _ (by decide), rowI_o _ _ _ (by decide), rowI_o _ _ _ (by decide), rowI_o _ _ _ (by decide), h, nI_1, Option.bind_some, hQ]
  · rw [hQ, rowI_s, pk_us]
  · rw [hQ, rowI_o _ _ _ (by decide), rowI_o _ _ _ (by decide), rowI_o _ _ _ (by decide), rowI_o _ _ _ (by decide), rowI_s, pk_us]
  · rw [hQ, rowI_o _ _ _ (by decide), rowI_o _ _ _ (by decide), rowI_o _ _ _ (by decide), rowI_s, pk_us]
  · rw [hQ, rowI_o _ _ _ (by decide), rowI_o _ _ _ (by decide), rowI_s, pk_us]
  · rw [hQ, rowI_o _ _ _ (by decide), rowI_s, pk_us]
  · rw [hQ, rowI_o _ _ _ (by omega)]
    rcases (show r = 67 ∨ r = 68 ∨ r = 69 ∨ r = 70 by omega) with rfl | rfl | rfl | rfl
    · rw [rowI_o _ _ _ (by decide), rowI_o _ _ _ (by decide), rowI_o _ _ _ (by decide), rowI_s, pk_un r3]
    · rw [rowI_o _ _ _ (by decide), rowI_o _ _ _ (by decide), rowI_s, pk_un r3, rowI_o _ _ _ (by decide)]
    · rw [rowI_o _ _ _ (by decide), rowI_s, pk_un r3, rowI_o _ _ _ (by decide), rowI_o _ _ _ (by decide)]
    · rw [rowI_s, pk_un r3, rowI_o _ _ _ (by decide), rowI_o _ _ _ (by decide), rowI_o _ _ _ (by decide)]
  · rw [hQ, rowI_o _ _ _ (by decide), rowI_o _ _ _ (by decide), rowI_o _ _ _ (by decide), rowI_o _ _ _ (by decide), rowI_o _ _ _ (by decide)]
  · rw [hQ, rowI_o _ _ _ (by decide), rowI_o _ _ _ (by decide), rowI_o _ _ _ (by decide), rowI_o _ _ _ (by decide), rowI_o _ _ _ (by decide)]
  · rw [hQ]
    exact (((((oCf.rf P).s (by omega) _).s (by omega) _).s (by omega) _).s (by omega) _).s (by omega) _
/-- whether something is drawn behind -/
theorem sc_drEq (P : PH) (f : Nat) (v : Int32) : Sc_drawsBehind_4 P (f + 1) v = if (P.1 66 0) ≤ v then gdP ((0 : Int32) = 0 ∨ (0 : Int32) = 1) (some (0 : Int32)) else (Sc_wordOf v P).bind fun (x14 : Int32) => if (8 : Int32) ≤ x14 then Sc_drawsBehind_4 P f (v + 1) else gdP ((1 : Int32) = 0 ∨ (1 : Int32) = 1) (some (1 : Int32)) := rfl
theorem sc_drawsLp {sz i : Nat} (h : P.1 66 0 = nI sz) (hs : sz < 200) (hw : ∀ k, i < k → k < sz → ∃ w : Nat, w < 14 ∧ P.1 67 k = nI w) : ∀ (m k f : Nat), k + m = sz → i < k → m < f → (∀ j w, i < j → j < k → w < 8 → ¬ P.1 67 j = nI w) → (drB P.1 i sz → Sc_drawsBehind_4 P f (nI k) = some 1) ∧ (¬ drB P.1 i sz → Sc_drawsBehind_4 P f (nI k) = some 0)
  | 0, k, f + 1, hk, hi, hf, hn => by
    rw [sc_drEq, h, if_pos (show nI sz ≤ nI k by rw [z_le (by omega) (by omega)]; omega), gd0]
    refine ⟨fun ⟨j, w, a, b, c, x⟩ => ?_, fun _ => rfl⟩
    exact absurd x (hn j w a (by omega) c)
  | m + 1, k, f + 1, hk, hi, hf, hn => by
    obtain ⟨w, w1, w2⟩ := hw k hi (by omega)
    have e : Sc_wordOf (nI k) P = some (nI w) := by
      unfold Sc_wordOf
      rw [if_neg (show ¬ nI k < 0 from nI_pos (by omega)), if_neg (show ¬ (200 : Int32) ≤ nI k from (show ¬ nI 200 ≤ nI k from nI_ge (by omega) (by decide))), z_gd (by omega) (by decide), z_cl (by omega), w2]
    rw [sc_drEq, h, if_neg (show ¬ nI sz ≤ nI k from nI_ge (by omega) (by omega)), e, Option.bind_some]
    by_cases c : w < 8
    · rw [if_neg (show ¬ (8 : Int32) ≤ nI w from (show ¬ nI 8 ≤ nI w from nI_ge c (by decide))), gd1]
      exact ⟨fun _ => rfl, fun z => absurd ⟨k, w, hi, by omega, c, w2⟩ z⟩
    · rw [if_pos (show (8 : Int32) ≤ nI w from (show nI 8 ≤ nI w by rw [z_le (by omega) (by omega)]; omega)), nI_1]
      refine sc_drawsLp h hs hw m (k + 1) f (by omega) (by omega) (by omega) (fun j v a b c2 => ?_)
      by_cases z : j = k
      · rw [z, w2, z_eq (by omega) (by omega)]; omega
      · exact hn j v a (by omega) c2
/-- a block ends -/
theorem re_closed {d i sz : Nat} (hd : d < 5) (h10 : P.1 71 10 = nI (d + 1)) (h73 : P.1 73 d = nI i) (h66 : P.1 66 0 = nI sz) (hi : i < sz) (hs : sz < 200) (hw : ∀ k, i < k → k < sz → ∃ w : Nat, w < 14 ∧ P.1 67 k = nI w) : ∃ Q, Re_closeBlock P = some Q ∧ Q.1 71 10 = nI d ∧ Q.1 69 i = nI sz ∧ ((drB P.1 i sz ∧ Q.1 68 i = P.1 68 i) ∨ (¬ drB P.1 i sz ∧ Q.1 68 i = nI 1)) ∧ (∀ r k, 67 ≤ r → r ≤ 70 → k ≠ i ∨ r = 67 ∨ r = 70 → Q.1 r k = P.1 r k) ∧ Q.1 66 = P.1 66 ∧ Q.1 73 = P.1 73 ∧ (∀ k, k ≠ 10 → Q.1 71 k = P.1 71 k) ∧ oCf P Q := by
  obtain ⟨A, hA⟩ : ∃ A, A = sI (sI P 71 10 (nI d)) 69 i (nI sz) := ⟨_, rfl⟩
  have a67 : A.1 67 = P.1 67 := by rw [hA, rowI_o _ _ _ (by decide), rowI_o _ _ _ (by decide)]
  have a66 : A.1 66 0 = nI sz := by rw [hA, rowI_o _ _ _ (by decide), rowI_o _ _ _ (by decide)]; exact h66
  have dA : drB A.1 i sz ↔ drB P.1 i sz := drB_cong (fun k _ _ => by rw [a67])
  have st : ∀ b, Sc_drawsBehind (nI i) A = some b → Re_closeBlock P = (if b = 0 then some (sI A 68 i 1) else some A) := fun b hb => by
    unfold Re_closeBlock Sc_close
    have e10 : (nI (d + 1) - (1 : Int32)) = nI d := by rw [show (1 : Int32) = nI 1 from rfl, z_sub (by omega), show d + 1 - 1 = d by omega]
    rw [h10, e10, Option.bind_some, rowI_s, pk_us, if_neg (show ¬ nI d < 0 from nI_pos (by omega)), if_neg (show ¬ (5 : Int32) ≤ nI d from (show ¬ nI 5 ≤ nI d from nI_ge hd (by decide))), z_gd hd (by decide), z_cl (by omega), rowI_o _ _ _ (by decide), h73, if_neg (show ¬ nI i < 0 from nI_pos (by omega)), if_pos (show nI i < (200 : Int32) from (show nI i < nI 200 from nI_lt (by omega) (by decide))), z_gd (by omega) (by decide), z_cl (by omega), rowI_o _ _ _ (by decide), h66, Option.bind_some, ← hA, hb, Option.bind_some]
    by_cases c : b = 0
    · rw [if_pos c, if_pos c, z_gd (by omega) (by decide), Option.bind_some, Option.bind_some]
    · rw [if_neg c, if_neg c, Option.bind_some]
  have lp := sc_drawsLp (P := A) (i := i) a66 hs (fun k x y => by rw [a67]; exact hw k x y) (sz - (i + 1)) (i + 1) bigN (by omega) (by omega) (big_gt (by omega)) (fun j w x y => by omega)
  have dbe : Sc_drawsBehind (nI i) A = Sc_drawsBehind_4 A bigN (nI (i + 1)) := by unfold Sc_drawsBehind; rw [nI_1, Option.bind_some]
  have oA : oCf P A := by rw [hA]; exact ((oCf.rf P).s (by omega) _).s (by omega) _
  by_cases c : drB P.1 i sz
  · refine ⟨A, (st 1 (dbe.trans (lp.1 (dA.mpr c)))).trans (if_neg (by decide)), ?_, ?_, Or.inl ⟨c, ?_⟩, fun r k r1 r2 r3 => ?_, ?_, ?_, fun k hk => ?_, oA⟩
    · rw [hA, rowI_o _ _ _ (by decide), rowI_s, pk_us]
    · rw [hA, rowI_s, pk_us]
    · rw [hA, rowI_o _ _ _ (by decide), rowI_o _ _ _ (by decide)]
    · rw [hA]
      by_cases z : r = 69
      · rw [z, rowI_s, pk_un (by omega), rowI_o _ _ _ (by decide)]
      · rw [rowI_o _ _ _ z, rowI_o _ _ _ (by omega)]
    · rw [hA, rowI_o _ _ _ (by decide), rowI_o _ _ _ (by decide)]
    · rw [hA, rowI_o _ _ _ (by decide), rowI_o _ _ _ (by decide)]
    · rw [hA, rowI_o _ _ _ (by decide), rowI_s, pk_un hk]
  · refine ⟨sI A 68 i 1, (st 0 (dbe.trans (lp.2 (fun z => c (dA.mp z))))).trans (if_pos rfl), ?_, ?_, Or.inr ⟨c, ?_⟩, fun r k r1 r2 r3 => ?_, ?_, ?_, fun k hk => ?_, oA.s (by omega) _⟩
    · rw [rowI_o _ _ _ (by decide), hA, rowI_o _ _ _ (by decide), rowI_s, pk_us]
    · rw [rowI_o _ _ _ (by decide), hA, rowI_s, pk_us]
    · rw [rowI_s, pk_us]; rfl
    · by_cases z2 : r = 68
      · rw [z2, rowI_s, pk_un (by omega), hA, rowI_o _ _ _ (by decide), rowI_o _ _ _ (by decide)]
      · rw [rowI_o _ _ _ z2, hA]
        by_cases z : r = 69
        · rw [z, rowI_s, pk_un (by omega), rowI_o _ _ _ (by decide)]
        · rw [rowI_o _ _ _ z, rowI_o _ _ _ (by omega)]
    · rw [rowI_o _ _ _ (by decide), hA, rowI_o _ _ _ (by decide), rowI_o _ _ _ (by decide)]
    · rw [rowI_o _ _ _ (by decide), hA, rowI_o _ _ _ (by decide), rowI_o _ _ _ (by decide)]
    · rw [rowI_o _ _ _ (by decide), hA, rowI_o _ _ _ (by decide), rowI_s, pk_un hk]
end RST
