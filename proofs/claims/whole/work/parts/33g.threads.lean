/-! THREADS: the reference's least, the call -/
section THR
variable {D : DT} {N : NT} {P : PH} {O : Nat → Prop}
def VRr (O : Nat → Prop) (G : Nat → Nat) (S : Nat) : Prop := (G S = 1000 ∧ ∀ n, ¬ Ptn O n S) ∨ (G S ≤ 32 ∧ Ptn O (G S) S ∧ ∀ n, Ptn O n S → G S ≤ n)
theorem VRr.le {G : Nat → Nat} {S : Nat} (h : VRr O G S) : G S ≤ 1000 := by
  rcases h with h | h
  · omega
  · omega
theorem VRr.eq {G G' : Nat → Nat} {S : Nat} (h : VRr O G S) (e : G' S = G S) : VRr O G' S := by
  unfold VRr at h ⊢
  rw [e]
  exact h
def o104 (P Q : PH) : Prop := (∀ n, n ≠ 104 → Q.1 n = P.1 n) ∧ Q.2 = P.2
theorem o104.rf (P : PH) : o104 P P := ⟨fun _ _ => rfl, rfl⟩
theorem o104.tr {P Q R : PH} (h : o104 P Q) (h2 : o104 Q R) : o104 P R := ⟨fun n a => (h2.1 n a).trans (h.1 n a), h2.2.trans h.2⟩
theorem o104.m {P Q : PH} (h : o104 P Q) : oM P Q := ⟨fun n a b => h.1 n (by omega), fun k _ _ _ => by rw [h.1 1 (by decide)], h.2⟩
theorem jmin_n {a b : Nat} (ha : a < 2147483648) (hb : b < 2147483648) : jMin (nI a) (nI b) = nI (if b < a then b else a) := by
  unfold jMin
  by_cases c : b < a
  · rw [if_pos (nI_lt c ha), if_pos c]
  · rw [if_neg (by rw [z_lt (by omega) (by omega)]; exact c), if_neg c]
theorem mt_175 (r155 : Int32 → PH → Option (Int32 × PH)) (v3 : Int32) {o : Nat → Bool} {S : Nat} (hS : S < 4096) (ho : ∀ s, s < 4096 → (o s = true ↔ O s)) : ∀ (n p g : Nat) (G : Nat → Nat) (P : PH), p < n → Sb p S → (∀ s, s < 4096 → P.1 107 s = nI (if o s then 1 else 0)) → (∀ s, s ≤ S → P.1 104 s = nI (G s)) → (∀ s, s < S → VRr O G s) → G S ≤ 1000 → (∀ q, Sb q S → q ≠ 0 → p < q → O q → G S ≤ G (dif S q) + 1) → (G S = 1000 ∨ ∃ q, q ≠ 0 ∧ Sb q S ∧ O q ∧ G S = G (dif S q) + 1) → ∃ (G' : Nat → Nat) (Q : PH), Mo_threads_175 r155 v3 (nI S) n (nI p) P = r155 (nI (S + 1)) Q ∧ (∀ s, s ≤ S → Q.1 104 s = nI (G' s)) ∧ (∀ s, s < S → G' s = G s) ∧ G' S ≤ 1000 ∧ (∀ q, Sb q S → q ≠ 0 → O q → G' S ≤ G (dif S q) + 1) ∧ (G' S = 1000 ∨ ∃ q, q ≠ 0 ∧ Sb q S ∧ O q ∧ G' S = G (dif S q) + 1) ∧ o104 P Q := by
  intro n
  induction n with
  | zero => intro p g G P hp; omega
  | succ n ih =>
    intro p g G P hp hs h107 h104 hV h1000 hdone hform
    by_cases c0 : p = 0
    · refine ⟨G, P, ?_, h104, fun _ _ => rfl, h1000, fun q a b c => hdone q a b (by omega) c, hform, o104.rf P⟩
      unfold Mo_threads_175
      rw [if_pos (by rw [c0]; decide), show nI S + 1 = nI (S + 1) from nI_1 _]
    · have pS := hs.le
      have pl : p < 4096 := by omega
      have nxt : (nI p - (1 : Int32)) &&& nI S = nI ((p - 1) &&& S) := by rw [show nI p - (1 : Int32) = nI (p - 1) from z_sub (b := 1) (by omega), fa_and]
      have lt : (p - 1) &&& S ≤ p - 1 := Nat.and_le_left
      have between : ∀ q, Sb q S → (p - 1) &&& S < q → p ≤ q := fun q a b => by
        rcases Nat.lt_or_ge q p with z | z
        · have := sub_next 12 S p q hS hs a z
          omega
        · exact z
      unfold Mo_threads_175
      rw [if_neg (show ¬ nI p ≤ (0 : Int32) from (show ¬ nI p ≤ nI 0 by rw [z_le (by omega) (by omega)]; omega)), z_gd pl (by decide), z_cl (by omega), h107 p pl, nxt, dif_nI hS]
      cases c : o p
      · rw [if_pos (show nI (if false = true then 1 else 0) = 0 by decide), Option.bind_some]
        have nO : ¬ O p := fun z => by rw [(ho p pl).mpr z] at c; cases c
        exact ih ((p - 1) &&& S) g G P (by omega) (sub_and _ _) h107 h104 hV h1000 (fun q a b d e => by
          by_cases z : q = p
          · rw [z] at e; exact absurd e nO
          · exact hdone q a b (by have := between q a d; omega) e) hform
      · have yO : O p := (ho p pl).mp c
        have dl := dif_low hS c0 hs
        have dV := hV (dif S p) dl.1
        have dle := dV.le
        rw [if_neg (show ¬ nI (if true = true then 1 else 0) = 0 by decide), z_gd hS (by decide), z_gd (show dif S p < 4096 by omega) (by decide), z_gd hS (by decide), z_cl (show S < 2147483648 by omega), z_cl (show dif S p < 2147483648 by omega), h104 S (Nat.le_refl _), h104 (dif S p) (by omega), show nI (G (dif S p)) + (1 : Int32) = nI (G (dif S p) + 1) from nI_1 _, jmin_n (by omega) (by omega), Option.bind_some, Option.bind_some]
        obtain ⟨v, hv⟩ : ∃ v, v = (if G (dif S p) + 1 < G S then G (dif S p) + 1 else G S) := ⟨_, rfl⟩
        have v1 : v ≤ G S := by rw [hv]; split <;> omega
        have v2 : v ≤ G (dif S p) + 1 := by rw [hv]; split <;> omega
        rw [← hv]
        have off : ∀ q, Sb q S → q ≠ 0 → (if dif S q = S then v else G (dif S q)) = G (dif S q) := fun q a b => by
          have := (dif_low hS b a).1
          rw [if_neg (by omega)]
        obtain ⟨G', Q, f1, f2, f3, f4, f5, f6, f7⟩ := ih ((p - 1) &&& S) g (fun m => if m = S then v else G m) (sI P 104 S (nI v)) (by omega) (sub_and _ _) (fun s hs => by rw [rowI_o _ _ _ (by decide)]; exact h107 s hs) (fun s hs => by
          rw [rowI_s]
          show upd (P.1 104) S (nI v) s = nI (if s = S then v else G s)
          by_cases z : s = S
          · rw [z, pk_us, if_pos rfl]
          · rw [pk_un z, if_neg z]; exact h104 s hs) (fun s hs => by
          exact (hV s hs).eq (show (if s = S then v else G s) = G s from if_neg (by omega))) (by show (if S = S then v else G S) ≤ 1000; rw [if_pos rfl]; omega) (fun q a b d e => by
          show (if S = S then v else G S) ≤ (if dif S q = S then v else G (dif S q)) + 1
          rw [if_pos rfl, off q a b]
          by_cases z : q = p
          · rw [z]; exact v2
          · have := hdone q a b (by have := between q a d; omega) e
            omega) (by
          show (if S = S then v else G S) = 1000 ∨ ∃ q, q ≠ 0 ∧ Sb q S ∧ O q ∧ (if S = S then v else G S) = (if dif S q = S then v else G (dif S q)) + 1
          rw [if_pos rfl]
          by_cases z : G (dif S p) + 1 < G S
          · refine Or.inr ⟨p, c0, hs, yO, ?_⟩
            rw [off p hs c0, hv, if_pos z]
          · rw [if_neg z] at hv
            rcases hform with w | ⟨q, w1, w2, w3, w4⟩
            · exact Or.inl (by omega)
            · exact Or.inr ⟨q, w1, w2, w3, by rw [off q w2 w1, hv]; exact w4⟩)
        refine ⟨G', Q, f1, f2, fun s hs => (f3 s hs).trans (if_neg (by omega)), f4, fun q a b e => ?_, ?_, ?_⟩
        · have := f5 q a b e
          rw [show (if dif S q = S then v else G (dif S q)) = G (dif S q) from off q a b] at this
          exact this
        · rcases f6 with w | ⟨q, w1, w2, w3, w4⟩
          · exact Or.inl w
          · refine Or.inr ⟨q, w1, w2, w3, ?_⟩
            rw [show (if dif S q = S then v else G (dif S q)) = G (dif S q) from off q w2 w1] at w4
            exact w4
        · exact o104.tr ⟨fun n a => rowI_o _ _ _ a, rfl⟩ f7
theorem vr_step {G G' : Nat → Nat} {S : Nat} (hS : S < 4096) (h0 : S ≠ 0) (hV : ∀ s, s < S → VRr O G s) (he : ∀ s, s < S → G' s = G s) (h1 : G' S ≤ 1000) (h2 : ∀ q, Sb q S → q ≠ 0 → O q → G' S ≤ G (dif S q) + 1) (h3 : G' S = 1000 ∨ ∃ q, q ≠ 0 ∧ Sb q S ∧ O q ∧ G' S = G (dif S q) + 1) : ∀ s, s ≤ S → VRr O G' s := by
  intro s hs
  by_cases z : s = S
  · rw [z]
    have lowest : ∀ n, Ptn O n S → G' S ≤ n ∧ G' S ≤ 33 := fun n hn => by
      cases n with
      | zero => exact absurd hn h0
      | succ n =>
        obtain ⟨q, a1, a2, a3, a4⟩ := hn
        have dl := dif_low hS a1 a2
        have := h2 q a2 a1 a3
        rcases hV (dif S q) dl.1 with ⟨-, w2⟩ | ⟨w1, w2, w3⟩
        · exact absurd a4 (w2 n)
        · have := w3 n a4
          omega
    by_cases y : G' S = 1000
    · exact Or.inl ⟨y, fun n hn => by have := (lowest n hn).2; omega⟩
    · obtain ⟨q, a1, a2, a3, a4⟩ := h3.resolve_left y
      have dl := dif_low hS a1 a2
      rcases hV (dif S q) dl.1 with ⟨w1, -⟩ | ⟨w1, w2, w3⟩
      · omega
      · have pt : Ptn O (G' S) S := by
          rw [a4]
          exact ⟨q, a1, a2, a3, w2⟩
        have len := Ptn.len _ S hS pt
        have : pcn S ≤ 32 := fb_ct_le _ _
        exact Or.inr ⟨by omega, pt, fun n hn => (lowest n hn).1⟩
  · have := hV s (by omega)
    unfold VRr at this ⊢
    rw [he s (by omega)]
    exact this
theorem mt_155 {o : Nat → Bool} (ho : ∀ s, s < 4096 → (o s = true ↔ O s)) {full : Nat} (hf : full < 4096) : ∀ (m S n : Nat) (G : Nat → Nat) (P : PH), S + m = full + 1 → m < n → 0 < S → (∀ s, s < 4096 → P.1 107 s = nI (if o s then 1 else 0)) → (∀ s, s < S → P.1 104 s = nI (G s)) → (∀ s, s < S → VRr O G s) → ∃ (G' : Nat → Nat) (Q : PH), Mo_threads_155 (nI full) n (nI S) P = Mo_threads_239 (nI full) Q ∧ Q.1 104 full = nI (G' full) ∧ VRr O G' full ∧ o104 P Q := by
  intro m
  induction m with
  | zero =>
    intro S n G P hk hn h0 h107 h104 hV
    obtain ⟨n, rfl⟩ : ∃ q, n = q + 1 := ⟨n - 1, by omega⟩
    refine ⟨G, P, ?_, h104 full (by omega), hV full (by omega), o104.rf P⟩
    unfold Mo_threads_155
    rw [if_pos (nI_lt (by omega) (by omega))]
  | succ m ih =>
    intro S n G P hk hn h0 h107 h104 hV
    obtain ⟨n, rfl⟩ : ∃ q, n = q + 1 := ⟨n - 1, by omega⟩
    have hS : S < 4096 := by omega
    have lt : ∀ q, Sb q S → q ≠ 0 → dif S q < S := fun q a b => (dif_low hS b a).1
    obtain ⟨G1, P1, a1, a2, a3, a4, a5, a6, a7⟩ := mt_175 (Mo_threads_155 (nI full) n) (nI full) hS ho bigN S 0 (fun s => if s = S then 1000 else G s) (sI P 104 S (nI 1000)) (big_gt (by omega)) (Sb.rf S) (fun s hs => by rw [rowI_o _ _ _ (by decide)]; exact h107 s hs) (fun s hs => by
      rw [rowI_s]
      show upd (P.1 104) S (nI 1000) s = nI (if s = S then 1000 else G s)
      by_cases z : s = S
      · rw [z, pk_us, if_pos rfl]
      · rw [pk_un z, if_neg z]; exact h104 s (by omega)) (fun s hs => by
      exact (hV s hs).eq (show (if s = S then 1000 else G s) = G s from if_neg (by omega))) (by show (if S = S then 1000 else G S) ≤ 1000; rw [if_pos rfl]; exact Nat.le_refl _) (fun q a b d e => by have := a.le; omega) (Or.inl (by show (if S = S then 1000 else G S) = 1000; exact if_pos rfl))
    have hV1 : ∀ s, s ≤ S → VRr O G1 s := vr_step (G := fun s => if s = S then 1000 else G s) hS (by omega) (fun s hs => by
      exact (hV s hs).eq (show (if s = S then 1000 else G s) = G s from if_neg (by omega))) a3 a4 a5 a6
    have o1 : o104 P P1 := o104.tr ⟨fun n a => rowI_o _ _ _ a, rfl⟩ a7
    obtain ⟨G', Q, b1, b2, b3, b4⟩ := ih (S + 1) n G1 P1 (by omega) (by omega) (by omega) (fun s hs => by rw [o1.1 107 (by decide)]; exact h107 s hs) (fun s hs => a2 s (by omega)) (fun s hs => hV1 s (by omega))
    refine ⟨G', Q, ?_, b2, b3, o1.tr b4⟩
    unfold Mo_threads_155
    rw [if_neg (by rw [z_lt (by omega) (by omega)]; omega), z_gd hS (by decide), z_cl (by omega), Option.bind_some]
    show Mo_threads_175 (Mo_threads_155 (nI full) n) (nI full) (nI S) bigN (nI S) (sI P 104 S (nI 1000)) = _
    rw [a1]
    exact b1
theorem call_threads (h : INVx D N P) (v1 v2 : Int32) : callQ (Bs_threads v1 v2 P) (Mo_threads v1 v2) [IAE] P := by
  obtain ⟨hD, hN, hR, hRN, hC, hCN, hRest⟩ := id h
  have h60 := hD.1
  have bad : (∀ Q, INVx D N Q → Mo_threads v1 v2 Q = Mo_threads_25 v1 v2 (nI 1) Q) → moI D N (Mo_threads v1 v2) (1, 0) := fun hm => moI.thr (fun _ => 0) (fun Q hQ => by
    rw [hm Q hQ]
    unfold Mo_threads_25
    rw [Option.bind_some, at5, if_neg (by decide)]) (fun q => absurd q (by decide))
  rcases three v1 4 (by decide) with o | ⟨c, hc, rfl⟩
  · refine ⟨(1, 0), P, by decide, ?_, moI.aft h (bad (fun Q hQ => ?_))⟩
    · unfold Bs_threads; rw [ckInk_out o]; rfl
    · unfold Mo_threads
      rw [isInk_out o, Option.bind_some, if_pos rfl]
      rfl
  · -- the length
    have e1 : (1 : Int64) = (nI 1).toInt64 := by decide
    have e20 : (20 : Int64) = (nI 20).toInt64 := by decide
    have wi : ∀ P : PH, Mo_within v2.toInt64 (1 : Int64) (20 : Int64) P = some (if nI 1 ≤ v2 ∧ v2 ≤ nI 20 then 1 else 0) := fun P => by
      rw [e1, e20]
      exact mo_win v2 (nI 1) (nI 20) P
    by_cases lw : nI 1 ≤ v2 ∧ v2 ≤ nI 20
    · obtain ⟨len, hl1, hl2, rfl⟩ : ∃ len : Nat, 1 ≤ len ∧ len ≤ 20 ∧ v2 = nI len := by
        rcases three v2 21 (by decide) with o | ⟨j, hj, rfl⟩
        · exfalso
          rcases o with o | o
          · rw [fa_lt] at o; have := lw.1; rw [fa_le] at this
            rw [show (0 : Int32).toInt = 0 by decide] at o
            rw [nI_toInt (by decide)] at this
            omega
          · rw [fa_le] at o; have := lw.2; rw [fa_le] at this
            rw [nI_toInt (by decide)] at o this
            omega
        · refine ⟨j, ?_, by omega, rfl⟩
          have := lw.1
          rw [z_le (by omega) (by omega)] at this
          exact this
      have hbits : ∀ i, i < 64 → bL (P.2 (3 + 6) c) i = (decide (i < dN D) && qI D c i) := fun i hi => hC.2.2.2.2.2.1 c hc i hi
      have hpop := pop_is (p := qI D c) (n := dN D) (by omega) hbits P
      have cle := fb_ct_le (qI D c) (dN D)
      -- the reference's head
      have head : ∀ Q : PH, INVx D N Q → Mo_threads (nI c) (nI len) Q = Mo_threads_49 (nI c) (nI len) bigN (nI 0) (sI (sI (sI Q 1 5 (nI 0)) 1 38 (nI 0)) 1 39 (nI 0)) := fun Q hQ => by
        unfold Mo_threads Mo_threads_25
        rw [isInk_in hc, Option.bind_some, if_neg (by decide), wi, if_pos lw, Option.bind_some, if_neg (by decide), Option.bind_some, if_pos (by rw [at5]; decide), Option.bind_some, Option.bind_some]
        rfl
      have g0 : ∀ Q : PH, GIm D c (fb_ct (qI D c) 0) 0 (fun _ => 0) (sI (sI Q 1 38 (nI 0)) 1 39 (nI 0)) := fun Q => ⟨⟨Nat.zero_le _, fun j hj => by omega, fun i j hi => by omega, fun i hi => by have hi : i < 0 := hi; omega⟩, by rw [rowI_s, pk_us], by rw [rowI_s, pk_un (by decide), rowI_s, pk_us]; rfl, fun j hj => by omega, fun i hi => by have hi : i < 0 := hi; omega⟩
      by_cases big : fb_ct (qI D c) (dN D) ≤ 6
      · have hL : nL D c ≤ 6 := big
        have p12 : 2 ^ (2 * nL D c) ≤ 2 ^ 12 := Nat.pow_le_pow_right (by decide) (by omega)
        have e12 : (2 : Nat) ^ 12 = 4096 := rfl
        have pp : 0 < 2 ^ (2 * nL D c) := Nat.two_pow_pos _
        have shl : ((1 : Int32) <<< (((2 : Int32) * nI (nL D c)) &&& 31)) - (1 : Int32) = nI (2 ^ (2 * nL D c) - 1) := by
          rw [show (2 : Int32) = nI 2 from rfl, pk_mul, one_sh (by omega)]
          exact z_sub (b := 1) (by omega)
        -- the class
        obtain ⟨P1, hP1⟩ : ∃ P1, P1 = sI (sI P 82 7 (nI 0)) 82 4 (nI 0) := ⟨_, rfl⟩
        have o1 : oSh P P1 := by rw [hP1]; exact ((oSh.rf P).s (by omega) _ _).s (by omega) _ _
        obtain ⟨H, cs, P2, a1, a2, a3⟩ := sh_gat hD big (fb_ct (qI D c) (dN D)) 0 bigN (P.2 (3 + 6) c) 0 (fun _ => 0) P1 (by omega) (big_gt (by omega)) (hC.kS o1) ⟨⟨Nat.zero_le _, fun j hj => by omega, fun i j hi => by omega, fun i hi => by omega⟩, by rw [hP1, rowI_s, pk_us], by rw [hP1, rowI_s, pk_un (by decide), rowI_s, pk_us], fun j hj => by omega, fun i hi => by omega⟩ (fun i hi => by rw [hbits i hi, decide_eq_true (Nat.zero_le _), Bool.and_true])
        have a2 : GIc D c (nL D c) H cs P2 := a2
        have o2 := o1.tr a3
        have H12 : H ≤ 12 := by have := a2.1.1; omega
        obtain ⟨kn, b1, b2, b3⟩ := sh_kn (hC.kS o2) H12 a2.2.1 a2.2.2.2.1 (fun j hj => (a2.1.2.1 j hj).1) H 0 bigN 0 (by omega) (big_gt (by omega)) (Nat.two_pow_pos _) (fun h b hh => by omega)
        obtain ⟨r, P3, c1, c2, c3, c4⟩ := sh_spread (len := len) hD hL (by omega) a2 b2 b3
        obtain ⟨a, P4, d1, d2, d3, d4⟩ := sh_share (O := One D c len) (L := 2 * nL D c) (by omega) (fun s hs => c3 s (by omega)) c2
        have o4 : oSh P P4 := (o2.tr c4.sh).tr d2.sh
        have h1 : INVx D N P4 := h.scr o4.scr
        have hcls : Bs_threads (nI c) (nI len) P = some (Sum.inr a, P4) := by
          unfold Bs_threads Sh_fewestOf
          rw [ckInk_in hc, Option.bind_some]
          show (if nI len < (1 : Int32) then Bs_threads_15 P else if nI len ≤ (20 : Int32) then _ else Bs_threads_15 P) = _
          rw [if_neg (show ¬ nI len < (1 : Int32) from (show ¬ nI len < nI 1 by rw [z_lt (by omega) (by omega)]; omega)), if_pos (show nI len ≤ (20 : Int32) from lw.2), dr_linesOf hc, Option.bind_some, hpop, Option.bind_some, if_pos (show nI (fb_ct (qI D c) (dN D)) ≤ (6 : Int32) from (show nI (fb_ct (qI D c) (dN D)) ≤ nI 6 by rw [z_le (by omega) (by omega)]; exact big))]
          unfold Sh_gather Sh_knottedEnds
          rw [Option.bind_some, Option.bind_some, show sI (sI P 82 7 (0 : Int32)) 82 4 (0 : Int32) = P1 from hP1.symm, show Sh_gather_15 bigN (P.2 (3 + 6) c) (0 : Int32) P1 = some P2 from a1, Option.bind_some, a2.2.2.1, shl, Option.bind_some, show Sh_knottedEnds_4 P2 bigN (0 : Int32) (0 : Int32) = some (nI kn) from b1, Option.bind_some, c1, Option.bind_some, d1, Option.bind_some, Option.bind_some]
        refine ⟨(0, a), P4, Nat.zero_le _, hcls, moI.aft h1 (fun Q hQ => ?_)⟩
        -- the reference
        obtain ⟨Q1, hQ1⟩ : ∃ Q1, Q1 = sI (sI (sI Q 1 5 (nI 0)) 1 38 (nI 0)) 1 39 (nI 0) := ⟨_, rfl⟩
        have m1' : oM (sI Q 1 5 (nI 0)) Q1 := by rw [hQ1]; exact ((oM.rf _).s1 (by omega) _).s1 (by omega) _
        have q0 := hQ.s5 (nI 0)
        have r1 : RD D (Q1.1 88) := by rw [m1'.1 88 (by decide) (by omega)]; exact q0.2.2.1
        obtain ⟨n', hn'⟩ : ∃ n', bigN = (n' + 1) + dN D := ⟨bigN - dN D - 1, by have : (1000 : Nat) < bigN := big_gt (by omega); omega⟩
        obtain ⟨H', cs', Q2, f1, f2, f3⟩ := mo_lines hD hc (nI len) (t := dN D) (Nat.le_refl _) big (dN D) 0 (n' + 1) 0 (fun _ => 0) Q1 (by omega) r1 (by rw [hQ1]; exact g0 _)
        have f2 : GIm D c (nL D c) H' cs' Q2 := f2
        have r2 : RD D (Q2.1 88) := by rw [f3.1 88 (by decide) (by omega)]; exact r1
        obtain ⟨oo, Q3, k1, k2, k3, k4, k5⟩ := mo_ones (len := len) hD hL (by omega) r2 f2
        obtain ⟨Q4, hQ4⟩ : ∃ Q4, Q4 = sI Q3 104 0 (nI 0) := ⟨_, rfl⟩
        obtain ⟨G, Q5, l1, l2, l3, l4⟩ := mt_155 (O := One D c len) k3 (full := 2 ^ (2 * nL D c) - 1) (by omega) (2 ^ (2 * nL D c) - 1) 1 bigN (fun _ => 0) Q4 (by omega) (big_gt (by omega)) (by omega) (fun s hs => by rw [hQ4, rowI_o _ _ _ (by decide)]; exact k2 s hs) (fun s hs => by
          rw [hQ4, rowI_s, show s = 0 by omega, pk_us]) (fun s hs => by
          rw [show s = 0 by omega]
          exact Or.inr ⟨Nat.zero_le _, rfl, fun n _ => Nat.zero_le _⟩)
        have o5 : oM (sI Q 1 5 (nI 0)) Q5 := (((m1'.tr f3).tr k4).tr (by rw [hQ4]; exact (oM.rf Q3).s (by omega) _ _)).tr l4.m
        have fin : ∀ b : Int32, Mo_threads_239 (nI (2 ^ (2 * nL D c) - 1)) Q5 = some (b, Q5) → Mo_threads (nI c) (nI len) Q = some (b, Q5) := fun b hb => by
          rw [head Q hQ, ← hQ1, hn', f1]
          unfold Mo_threads_49
          rw [gd_0, mo_0 r2, if_pos (by rw [z_le (by omega) (by omega)]; exact Nat.le_refl _)]
          unfold Mo_threads_129
          rw [k1, Option.bind_some, k5, shl, Option.bind_some, show (gdI (0 : Int32) 4096 : Option (Int32 × PH) → Option (Int32 × PH)) = fun o => o from gdf 0 4096 (by decide) (by decide), Option.bind_some, show sI Q3 104 (0 : Int32).toNatClampNeg (0 : Int32) = Q4 from hQ4.symm]
          exact l1.trans hb
        have iffs : ∀ n, Chn (One D c len) (2 ^ (2 * nL D c) - 1) n (2 ^ (2 * nL D c) - 1) ↔ Ptn (One D c len) n (2 ^ (2 * nL D c) - 1) := fun n => Chn.iff (by omega) n
        have rest : ∀ b : Int32, b = a → Mo_threads_239 (nI (2 ^ (2 * nL D c) - 1)) Q5 = some (b, Q5) → ∃ b Q', Mo_threads (nI c) (nI len) Q = some (b, Q') ∧ Q'.1 1 5 = nI (0, a).1 ∧ scr Q Q' ∧ Q'.2 2 = Q.2 2 ∧ ((0, a).1 = 0 → b = (0, a).2) := fun b e hb => ⟨b, Q5, fin b hb, by rw [o5.2.1 5 (by decide) (by decide) (by decide)]; exact at5 _ _, ((scr.rf Q).sI _ rfl).tr o5.scr, by rw [o5.2.2]; rfl, fun _ => e⟩
        have v239 : ∀ b : Int32, (if nI (G (2 ^ (2 * nL D c) - 1)) < (1000 : Int32) then some (nI (G (2 ^ (2 * nL D c) - 1)), Q5) else some ((-1 : Int32), Q5)) = some (b, Q5) → Mo_threads_239 (nI (2 ^ (2 * nL D c) - 1)) Q5 = some (b, Q5) := fun b hb => by
          unfold Mo_threads_239
          rw [z_gd (by omega) (by decide), z_cl (by omega), l2, z_gd (by omega) (by decide)]
          exact hb
        have lt1000 : ∀ g : Nat, g ≤ 32 → nI g < (1000 : Int32) := fun g hg => (show nI g < nI 1000 from nI_lt (by omega) (by decide))
        by_cases z0 : 2 ^ (2 * nL D c) - 1 = 0
        · have ea := d3 z0
          rcases l3 with ⟨w1, w2⟩ | ⟨w1, w2, w3⟩
          · exact absurd z0 (w2 0)
          · have g0' := w3 0 z0
            refine rest (nI (G (2 ^ (2 * nL D c) - 1))) ?_ (v239 _ (if_pos (lt1000 _ w1)))
            rw [ea, show G (2 ^ (2 * nL D c) - 1) = 0 by omega]
        · rcases d4 z0 with ⟨n, x1, x2, x3⟩ | ⟨x1, x2⟩
          · rcases l3 with ⟨w1, w2⟩ | ⟨w1, w2, w3⟩
            · exact absurd ((iffs n).mp x1) (w2 n)
            · have y1 := w3 n ((iffs n).mp x1)
              have y2 := x2 _ ((iffs _).mpr w2)
              refine rest (nI (G (2 ^ (2 * nL D c) - 1))) ?_ (v239 _ (if_pos (lt1000 _ w1)))
              rw [x3, show G (2 ^ (2 * nL D c) - 1) = n by omega]
          · rcases l3 with ⟨w1, w2⟩ | ⟨w1, w2, w3⟩
            · refine rest m1 x2.symm (v239 _ ?_)
              rw [w1, if_neg (by decide)]
              rfl
            · exact absurd ((iffs _).mpr w2) (x1 _)
      · -- spent
        have big' : ¬ nI (fb_ct (qI D c) (dN D)) ≤ (6 : Int32) := (show ¬ nI (fb_ct (qI D c) (dN D)) ≤ nI 6 by rw [z_le (by omega) (by omega)]; exact big)
        have h6 : 6 < fb_ct (qI D c) (dN D) := by omega
        obtain ⟨m1', m2', m3'⟩ := ml_ok h6
        refine ⟨(0, (-2 : Int32)), P, Nat.zero_le _, ?_, moI.aft h (fun Q hQ => ?_)⟩
        · unfold Bs_threads Sh_fewestOf
          rw [ckInk_in hc, Option.bind_some]
          show (if nI len < (1 : Int32) then Bs_threads_15 P else if nI len ≤ (20 : Int32) then _ else Bs_threads_15 P) = _
          rw [if_neg (show ¬ nI len < (1 : Int32) from (show ¬ nI len < nI 1 by rw [z_lt (by omega) (by omega)]; omega)), if_pos (show nI len ≤ (20 : Int32) from lw.2), dr_linesOf hc, Option.bind_some, hpop, Option.bind_some, if_neg big', Option.bind_some]
          rfl
        · obtain ⟨Q1, hQ1⟩ : ∃ Q1, Q1 = sI (sI (sI Q 1 5 (nI 0)) 1 38 (nI 0)) 1 39 (nI 0) := ⟨_, rfl⟩
          have mq : oM (sI Q 1 5 (nI 0)) Q1 := by rw [hQ1]; exact ((oM.rf _).s1 (by omega) _).s1 (by omega) _
          have q0 := hQ.s5 (nI 0)
          have r1 : RD D (Q1.1 88) := by rw [mq.1 88 (by decide) (by omega)]; exact q0.2.2.1
          obtain ⟨n', hn'⟩ : ∃ n', bigN = (n' + 1) + mlD D c 6 := ⟨bigN - mlD D c 6 - 1, by have : (1000 : Nat) < bigN := big_gt (by omega); omega⟩
          obtain ⟨H', cs', Q2, f1, f2, f3⟩ := mo_lines hD hc (nI len) (t := mlD D c 6) (by omega) (by omega) (mlD D c 6) 0 (n' + 1) 0 (fun _ => 0) Q1 (by omega) r1 (by rw [hQ1]; exact g0 _)
          have r2 : RD D (Q2.1 88) := by rw [f3.1 88 (by decide) (by omega)]; exact r1
          have o5 := mq.tr f3
          refine ⟨(-2 : Int32), Q2, ?_, by rw [o5.2.1 5 (by decide) (by decide) (by decide)]; exact at5 _ _, ((scr.rf Q).sI _ rfl).tr o5.scr, by rw [o5.2.2]; rfl, fun _ => rfl⟩
          rw [head Q hQ, ← hQ1, hn', f1]
          unfold Mo_threads_49
          rw [gd_0, mo_0 r2, if_neg (nI_ge m1' (by omega)), mo_ink hD r2 m1', Option.bind_some, if_pos (by rw [show dI D (mlD D c 6) = c from of_decide_eq_true m2']), if_pos (by rw [f2.2.2.1, m3']; rfl)]
    · refine ⟨(1, 0), P, by decide, ?_, moI.aft h (bad (fun Q hQ => ?_))⟩
      · unfold Bs_threads Bs_threads_15
        rw [ckInk_in hc, Option.bind_some]
        show (if v2 < (1 : Int32) then some (Sum.inl IAE, P) else if v2 ≤ (20 : Int32) then _ else some (Sum.inl IAE, P)) = _
        by_cases z1 : v2 < (1 : Int32)
        · rw [if_pos z1]; rfl
        · rw [if_neg z1, if_neg (show ¬ v2 ≤ (20 : Int32) from fun z2 => lw ⟨fa_of_nlt z1, z2⟩)]
          rfl
      · unfold Mo_threads
        rw [isInk_in hc, Option.bind_some, if_neg (by decide), wi, if_neg lw, Option.bind_some, if_pos rfl]
        rfl
end THR
