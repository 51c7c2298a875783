/-! DRAWING: lines by the number, the words that set the pen -/
theorem gt_eq (n : Nat) (v1 v2 : Int32) (P : PH) : Mo_goesThrough_33 (n + 1) v1 v2 P =
    if (P.1 1 19) ≤ v2 then
      some P
    else
      gdI ((4 : Int32) * v2) 1600 <|
      (some (P.1 94 ((4 : Int32) * v2).toNatClampNeg)).bind fun (u3_49 : Int32) =>
      gdI (((4 : Int32) * v2) + (1 : Int32)) 1600 <|
      (some (P.1 94 (((4 : Int32) * v2) + (1 : Int32)).toNatClampNeg)).bind fun (u4_60 : Int32) =>
      if (8 : Int32) ≤ u3_49 then
        if u3_49 = (8 : Int32) then
          (some (sI P 1 24 u4_60)).bind fun (P156 : PH) =>
          Mo_goesThrough_33  n v1 (v2 + 1) P156
        else
          if u3_49 = (10 : Int32) then
            gdI ((248 : Int32) + u4_60) 512 <|
            (some (sI P 89 ((248 : Int32) + u4_60).toNatClampNeg (1 : Int32))).bind fun (P179 : PH) =>
            Mo_goesThrough_33  n v1 (v2 + 1) P179
          else
            if u3_49 = (9 : Int32) then
              (some (sI P 1 25 u4_60)).bind fun (P192 : PH) =>
              Mo_goesThrough_33  n v1 (v2 + 1) P192
            else
              if u3_49 = (14 : Int32) then
                gdI (v1 - (1 : Int32)) 6 <|
                gdI (v1 - (1 : Int32)) 6 <|
                (some (sI P 96 (v1 - (1 : Int32)).toNatClampNeg ((P.1 96 (v1 - (1 : Int32)).toNatClampNeg) - (1 : Int32)))).bind fun (P215 : PH) =>
                gdI (v1 - (1 : Int32)) 6 <|
                if (P215.1 96 (v1 - (1 : Int32)).toNatClampNeg) ≤ 0 then
                  Mo_goesThrough_33  n (v1 + (-1)) (v2 + 1) P215
                else
                  gdI (v1 - (1 : Int32)) 6 <|
                  (some (P215.1 95 (v1 - (1 : Int32)).toNatClampNeg)).bind fun (u2_235 : Int32) =>
                  Mo_goesThrough_33  n v1 (u2_235 + 1) P215
              else
                gdI v1 6 <|
                (some (sI P 95 v1.toNatClampNeg v2)).bind fun (P251 : PH) =>
                gdI v1 6 <|
                (some (sI P251 96 v1.toNatClampNeg u4_60)).bind fun (P259 : PH) =>
                gdI ((v1 + 1) - (1 : Int32)) 7 <|
                if u3_49 = (12 : Int32) then
                  gdI ((v1 + 1) - (1 : Int32)) 7 <|
                  Mo_goesThrough_296 (Mo_goesThrough_33  n) (v1 + 1) v2 u3_49 ((2 : Int32) * (P259.1 98 ((v1 + 1) - (1 : Int32)).toNatClampNeg)) (P259.1 97 ((v1 + 1) - (1 : Int32)).toNatClampNeg) (v1 + 1) P259
                else
                  Mo_goesThrough_296 (Mo_goesThrough_33  n) (v1 + 1) v2 u3_49 (0 : Int32) (P259.1 97 ((v1 + 1) - (1 : Int32)).toNatClampNeg) (v1 + 1) P259
      else
        gdI v1 7 <|
        gdI v1 7 <|
        (some ((((P.1 97 v1.toNatClampNeg) + ((P.1 98 v1.toNatClampNeg) * u3_49)) + (64 : Int32)) - (((P.1 97 v1.toNatClampNeg) + ((P.1 98 v1.toNatClampNeg) * u3_49)) + (64 : Int32)) / (8 : Int32) * (8 : Int32))).bind fun (u5_89 : Int32) =>
        Mo_goesThrough_94 (Mo_goesThrough_33  n) v1 v2 u4_60 u5_89 bigN (0 : Int32) P := rfl
theorem fl_eq (rec : Int32 → Int32 → Int32 → Int32 → Int32 → PH → Option (PH)) (v2 v3 v4 v5 : Int32) (n : Nat) (v6 v7 : Int32) (P : PH) : Pe_follow_6 rec v2 v3 v4 v5 (n + 1) v6 v7 P =
    if v2 ≤ v7 then
      some P
    else
      if (P.1 74 0) = 0 then
        if v6 ≤ v7 then
          (Sc_wordOf v7 P).bind fun (x35 : Int32) =>
          if x35 < (11 : Int32) then
            if (8 : Int32) ≤ x35 then
              (Pe_set v7 x35 P).bind fun (x104 : PH) =>
              Pe_follow_6 rec v2 v3 v4 v5 n v6 (v7 + 1) x104
            else
              (Pe_go v7 (((v5 * x35) + v4) &&& (7 : Int32)) P).bind fun (x93 : PH) =>
              Pe_follow_6 rec v2 v3 v4 v5 n v6 (v7 + 1) x93
          else
            (Sc_secondOf v7 P).bind fun (x53 : Int32) =>
            (Pe_block rec v7 v3 v4 v5 P).bind fun (x66 : PH) =>
            Pe_follow_6 rec v2 v3 v4 v5 n x53 (v7 + 1) x66
        else
          Pe_follow_6 rec v2 v3 v4 v5 n v6 (v7 + 1) P
      else
        some P := rfl
theorem b62_eq (rec : Int32 → Int32 → Int32 → Int32 → Int32 → PH → Option (PH)) (v1 v2 v6 v7 : Int32) (n : Nat) (v8 : Int32) (P : PH) : Pe_block_62 rec v1 v2 v6 v7 (n + 1) v8 P =
    (Sc_firstOf v1 P).bind fun (x69 : Int32) =>
    if x69 ≤ v8 then
      some P
    else
      if (P.1 74 0) = 0 then
        (Sc_secondOf v1 P).bind fun (x91 : Int32) =>
        (rec (v1 + (1 : Int32)) x91 (v2 + (1 : Int32)) v6 v7 P).bind fun (x101 : PH) =>
        Pe_block_62 rec v1 v2 v6 v7 n (v8 + 1) x101
      else
        some P := rfl
theorem pg_eq (v1 v2 : Int32) (n : Nat) (v3 : Int32) (P : PH) : Pe_go_2 v1 v2 (n + 1) v3 P =
    (Sc_firstOf v1 P).bind fun (x8 : Int32) =>
    if x8 ≤ v3 then
      some P
    else
      if (P.1 74 0) = 0 then
        (Pe_goOne v2 P).bind fun (x23 : PH) =>
        if (x23.1 74 0) = 0 then
          Pe_go_2 v1 v2 n (v3 + 1) x23
        else
          (Sc_placeOf v1 x23).bind fun (x39 : Int32) =>
          (some (sI x23 74 1 x39)).bind fun (P42 : PH) =>
          Pe_go_2 v1 v2 n (v3 + 1) P42
      else
        some P := rfl
theorem g94_eq (r33 : Int32 → Int32 → PH → Option (PH)) (v1 v2 v4 v5 : Int32) (n : Nat) (v6 : Int32) (P : PH) : Mo_goesThrough_94 r33 v1 v2 v4 v5 (n + 1) v6 P =
    if v4 ≤ v6 then
      r33 v1 (v2 + 1) P
    else
      (Mo_draws v5 P).bind fun (x104 : Int32 × PH) =>
      if x104.1 = 0 then
        Mo_goesThrough_94 r33 v1 v2 v4 v5 n (v6 + 1) x104.2
      else
        Mo_goesThrough_117 v2 x104.1 x104.2 := rfl
section SET
variable {P Q : PH}
theorem sc_first {i : Nat} (hi : i < 200) : Sc_firstOf (nI i) P = some (P.1 68 i) := by
  unfold Sc_firstOf
  rw [if_neg (show ¬ nI i < 0 from nI_pos (by omega)), if_neg (show ¬ (200 : Int32) ≤ nI i from (show ¬ nI 200 ≤ nI i from nI_ge hi (by decide))), z_gd hi (by decide), z_cl (by omega)]
theorem sc_second {i : Nat} (hi : i < 200) : Sc_secondOf (nI i) P = some (P.1 69 i) := by
  unfold Sc_secondOf
  rw [if_neg (show ¬ nI i < 0 from nI_pos (by omega)), if_neg (show ¬ (200 : Int32) ≤ nI i from (show ¬ nI 200 ≤ nI i from nI_ge hi (by decide))), z_gd hi (by decide), z_cl (by omega)]
theorem sc_place {i : Nat} (hi : i < 200) : Sc_placeOf (nI i) P = some (P.1 70 i) := by
  unfold Sc_placeOf
  rw [if_neg (show ¬ nI i < 0 from nI_pos (by omega)), if_neg (show ¬ (200 : Int32) ≤ nI i from (show ¬ nI 200 ≤ nI i from nI_ge hi (by decide))), z_gd hi (by decide), z_cl (by omega)]
theorem sc_word {i : Nat} (hi : i < 200) : Sc_wordOf (nI i) P = some (P.1 67 i) := by
  unfold Sc_wordOf
  rw [if_neg (show ¬ nI i < 0 from nI_pos (by omega)), if_neg (show ¬ (200 : Int32) ≤ nI i from (show ¬ nI 200 ≤ nI i from nI_ge hi (by decide))), z_gd hi (by decide), z_cl (by omega)]
theorem cl_goK {i o b w : Nat} (hi : i < 200) (hw : w < 8) (ho : o < 1000) : ∀ (m c f : Nat) (s : ST) (P : PH), SV s → CPn s P → P.1 68 i = nI o → P.1 70 i = nI b → c + m = o → m < f → ∃ P', Pe_go_2 (nI i) (nI w) f (nI c) P = some P' ∧ oCp P P' ∧ match goK w m s with
    | .inl s' => CPn s' P'
    | .inr e => P'.1 74 0 = nI e ∧ P'.1 74 1 = nI b
  | 0, c, f + 1, s, P, hs, hC, h8, h0, hc, hf => by
    refine ⟨P, ?_, oCp.rf P, hC⟩
    rw [pg_eq, sc_first hi, Option.bind_some, h8, if_pos (show nI o ≤ nI c by rw [z_le (by omega) (by omega)]; omega)]
  | m + 1, c, f + 1, s, P, hs, hC, h8, h0, hc, hf => by
    obtain ⟨P1, a1, a2, a3⟩ := cl_go1 hs hC hw
    have sv := goS_sv hs hw
    have r8 : P1.1 68 i = nI o := by rw [a2.1 68 (by omega) (by omega)]; exact h8
    have r0 : P1.1 70 i = nI b := by rw [a2.1 70 (by omega) (by omega)]; exact h0
    have st : Pe_go_2 (nI i) (nI w) (f + 1) (nI c) P = if (P1.1 74 0) = 0 then Pe_go_2 (nI i) (nI w) f (nI (c + 1)) P1 else Pe_go_2 (nI i) (nI w) f (nI (c + 1)) (sI P1 74 1 (nI b)) := by
      rw [pg_eq, sc_first hi, Option.bind_some, h8, if_neg (show ¬ nI o ≤ nI c from nI_ge (by omega) (by omega)), if_pos hC.1, a1, Option.bind_some, nI_1, sc_place hi, Option.bind_some, r0, Option.bind_some]
    unfold goK
    cases e : goS s w with
    | inl s' =>
      rw [e] at a3 sv
      have a3 : CPn s' P1 := a3
      obtain ⟨P', b1, b2, b3⟩ := cl_goK hi hw ho m (c + 1) f s' P1 sv a3 r8 r0 (by omega) (by omega)
      refine ⟨P', ?_, a2.tr b2, b3⟩
      rw [st, if_pos a3.1, b1]
    | inr x =>
      rw [e] at a3 sv
      have sv : 5 ≤ x ∧ x ≤ 7 := sv
      have a3 : P1.1 74 0 = nI x := a3
      refine ⟨sI P1 74 1 (nI b), ?_, a2.si _ _, ?_, ?_⟩
      · obtain ⟨f, rfl⟩ : ∃ f', f = f' + 1 := ⟨f - 1, by omega⟩
        rw [st, if_neg (by rw [a3]; exact nI_ne0 (by omega) (by omega)), pg_eq, sc_first hi, Option.bind_some, if_neg (show ¬ (sI P1 74 1 (nI b)).1 74 0 = 0 by rw [rowI_s, pk_un (by decide), a3]; exact nI_ne0 (by omega) (by omega)), ite_self]
      · rw [rowI_s, pk_un (by decide)]; exact a3
      · rw [rowI_s, pk_us]
theorem mo_goK {o w : Nat} (hw : w < 8) (ho : o < 1000) : ∀ (m c f : Nat) (s : ST) (Q : PH), SV s → MPn s Q → c + m = o → m < f → ∃ Q', oMp Q Q' ∧ match goK w m s with
    | .inl s' => (∀ r33 v1 v2, Mo_goesThrough_94 r33 v1 v2 (nI o) (nI w) f (nI c) Q = r33 v1 (v2 + 1) Q') ∧ MPn s' Q'
    | .inr e => ∀ r33 v1 v2, Mo_goesThrough_94 r33 v1 v2 (nI o) (nI w) f (nI c) Q = Mo_goesThrough_117 v2 (nI e) Q'
  | 0, c, f + 1, s, Q, hs, hC, hc, hf => by
    refine ⟨Q, oMp.rf Q, fun r33 v1 v2 => ?_, hC⟩
    rw [g94_eq, if_pos (show nI o ≤ nI c by rw [z_le (by omega) (by omega)]; omega)]
  | m + 1, c, f + 1, s, Q, hs, hC, hc, hf => by
    obtain ⟨v, Q1, a1, a2, a3⟩ := mo_go1 hs hC hw
    have sv := goS_sv hs hw
    have st : ∀ r33 v1 v2, Mo_goesThrough_94 r33 v1 v2 (nI o) (nI w) (f + 1) (nI c) Q = if v = 0 then Mo_goesThrough_94 r33 v1 v2 (nI o) (nI w) f (nI (c + 1)) Q1 else Mo_goesThrough_117 v2 v Q1 := fun r33 v1 v2 => by
      rw [g94_eq, if_neg (show ¬ nI o ≤ nI c from nI_ge (by omega) (by omega)), a1, Option.bind_some, nI_1]
    unfold goK
    cases e : goS s w with
    | inl s' =>
      rw [e] at a3 sv
      have a3 : v = 0 ∧ MPn s' Q1 := a3
      obtain ⟨Q', b1, b2⟩ := mo_goK hw ho m (c + 1) f s' Q1 sv a3.2 (by omega) (by omega)
      refine ⟨Q', a2.tr b1, ?_⟩
      simp only [st, if_pos a3.1]
      exact b2
    | inr x =>
      rw [e] at a3 sv
      have sv : 5 ≤ x ∧ x ≤ 7 := sv
      have a3 : v = nI x := a3
      refine ⟨Q1, a2, fun r33 v1 v2 => ?_⟩
      rw [st, a3, if_neg (nI_ne0 (by omega) (by omega))]
theorem mo_117 {Q : PH} {ci b : Nat} (hc : ci < 400) (h : Q.1 94 (4 * ci + 3) = nI b) (v : Int32) : Mo_goesThrough_117 (nI ci) v Q = some (sI (sI Q 1 14 v) 1 15 (nI b)) := by
  have e0 : (4 : Int32) * nI ci + (3 : Int32) = nI (4 * ci + 3) := by rw [show (4 : Int32) = nI 4 from rfl, pk_mul, show (3 : Int32) = nI 3 from rfl, nI_add]
  unfold Mo_goesThrough_117
  rw [Option.bind_some, e0, z_gd (by omega) (by decide), z_cl (by omega), rowI_o _ _ _ (by decide), h, Option.bind_some]
/-! at, ink, knot: no line is drawn -/
def knK (K : Nat → Bool) (D : DT) : DT := (dN D, dF D, dW D, dI D, fun h => K h || dK D h)
def updS (p k : Option Nat) (K : Nat → Bool) (s : ST) : ST := (p.getD s.1, k.getD s.2.1, s.2.2.1, knK K s.2.2.2)
theorem updS_2 (p k p' k' : Option Nat) (K K' : Nat → Bool) (s : ST) : ∃ p'' k'' K'', ∀ s, updS p' k' K' (updS p k K s) = updS p'' k'' K'' s := by
  refine ⟨p'.orElse (fun _ => p), k'.orElse (fun _ => k), fun h => K' h || K h, fun s => ?_⟩
  unfold updS knK
  have e : (fun h => K' h || (K h || dK s.2.2.2 h)) = fun h => (K' h || K h) || dK s.2.2.2 h := funext (fun h => (Bool.or_assoc _ _ _).symm)
  cases p' <;> cases k' <;> exact congrArg (fun z => (_, _, _, (_, _, _, _, z))) e
theorem updS_i (p k : Option Nat) (K : Nat → Bool) (s : ST) : updS p k K (updS p k K s) = updS p k K s := by
  unfold updS knK
  have e : (fun h => K h || (K h || dK s.2.2.2 h)) = fun h => K h || dK s.2.2.2 h := funext (fun h => by rw [← Bool.or_assoc, Bool.or_self])
  cases p <;> cases k <;> exact congrArg (fun z => (_, _, _, (_, _, _, _, z))) e
theorem tie_kn (D : DT) (h : Nat) : tieK D h = knK (fun k => decide (k = h)) D := by
  unfold tieK knK
  have e : (fun k => if k = h then true else dK D k) = fun k => decide (k = h) || dK D k := funext (fun k => by
    by_cases z : k = h
    · rw [if_pos z, decide_eq_true z, Bool.true_or]
    · rw [if_neg z, decide_eq_false z, Bool.false_or])
  exact congrArg (fun z => (_, _, _, _, z)) e
theorem kn_id (D : DT) : knK (fun _ => false) D = D := rfl
def setS (w o t : Nat) (s : ST) : ST := if w = 8 then (12 * t + o, s.2.1, s.2.2.1, s.2.2.2) else if w = 10 then (s.1, s.2.1, s.2.2.1, tieK s.2.2.2 (12 * t + o)) else (s.1, o, s.2.2.1, s.2.2.2)
theorem setS_u (w o t : Nat) : ∃ p k K, ∀ s, setS w o t s = updS p k K s := by
  unfold setS
  by_cases a : w = 8
  · exact ⟨some (12 * t + o), none, fun _ => false, fun s => by rw [if_pos a]; rfl⟩
  · by_cases b : w = 10
    · exact ⟨none, none, fun k => decide (k = 12 * t + o), fun s => by rw [if_neg a, if_pos b, tie_kn]; rfl⟩
    · exact ⟨none, some o, fun _ => false, fun s => by rw [if_neg a, if_neg b]; rfl⟩
theorem setS_sv {w o t : Nat} {s : ST} (hs : SV s) (h9 : w = 9 → o < 4) (h8 : w = 8 ∨ w = 10 → o < 12 ∧ t < 12) (hw : 8 ≤ w) (hw2 : w < 11) : SV (setS w o t s) := by
  obtain ⟨h1, h2, h3, h4⟩ := hs
  unfold setS
  by_cases a : w = 8
  · rw [if_pos a]; have := h8 (Or.inl a); exact ⟨by show 12 * t + o < 144; omega, h2, h3, h4⟩
  · by_cases b : w = 10
    · rw [if_neg a, if_pos b]; exact ⟨h1, h2, h3, tie_WD h4⟩
    · rw [if_neg a, if_neg b]; exact ⟨h1, h9 (by omega), h3, h4⟩
theorem cl_set {i o t w : Nat} {s : ST} (hi : i < 200) (hC : CPn s P) (h8' : P.1 68 i = nI o) (h9' : P.1 69 i = nI t) (h8 : w = 8 ∨ w = 10 → o < 12 ∧ t < 12) (hw : 8 ≤ w) (hw2 : w < 11) : ∃ P', Pe_set (nI i) (nI w) P = some P' ∧ oCp P P' ∧ CPn (setS w o t s) P' := by
  obtain ⟨c0, c1, c2, c3, c4, c5⟩ := hC
  have e : (12 : Int32) * nI t + nI o = nI (12 * t + o) := by rw [show (12 : Int32) = nI 12 from rfl, pk_mul, nI_add]
  unfold Pe_set setS
  rw [sc_second hi, Option.bind_some, sc_first hi, Option.bind_some, h8', h9', e, Option.bind_some]
  by_cases a : w = 8
  · rw [if_pos (show nI w = (8 : Int32) by rw [a]; rfl), if_pos a, Option.bind_some]
    exact ⟨_, rfl, (oCp.rf P).si _ _, by rw [rowI_s, pk_un (by decide)]; exact c0, by rw [rowI_s, pk_un (by decide)]; exact c1, by rw [rowI_s, pk_us], by rw [rowI_s, pk_un (by decide)]; exact c3, by rw [rowI_s, pk_un (by decide)]; exact c4, c5.t74 _ _⟩
  · rw [if_neg (show ¬ nI w = (8 : Int32) from (show ¬ nI w = nI 8 by rw [z_eq (by omega) (by omega)]; exact a)), if_neg a]
    by_cases b : w = 10
    · obtain ⟨P', d1, d2, d3⟩ := dr_tie (d := 11) (h := 12 * t + o) c5 (by have := h8 (Or.inr b); omega)
      rw [if_pos (show nI w = (10 : Int32) by rw [b]; rfl), if_pos b, d1, Option.bind_some]
      have k : P'.1 74 = P.1 74 := (d3 74 (by omega)).1
      exact ⟨P', rfl, d3.cp, by rw [k]; exact c0, by rw [k]; exact c1, by rw [k]; exact c2, by rw [k]; exact c3, by rw [k]; exact c4, d2⟩
    · rw [if_neg (show ¬ nI w = (10 : Int32) from (show ¬ nI w = nI 10 by rw [z_eq (by omega) (by omega)]; exact b)), if_neg b, Option.bind_some, Option.bind_some]
      exact ⟨_, rfl, (oCp.rf P).si _ _, by rw [rowI_s, pk_un (by decide)]; exact c0, by rw [rowI_s, pk_un (by decide)]; exact c1, by rw [rowI_s, pk_un (by decide)]; exact c2, by rw [rowI_s, pk_us], by rw [rowI_s, pk_un (by decide)]; exact c4, c5.t74 _ _⟩
/-! the cloth's ways under turns and mirrors -/
def sgV (sg : Bool) : Int32 := if sg then 1 else -1
def plV (a : Nat) : Int32 := nI a - 10
def wyN (sg : Bool) (a w : Nat) : Nat := if sg then (w + a + 6) % 8 else (a + 14 - w) % 8
theorem wyN_lt (sg : Bool) (a w : Nat) : wyN sg a w < 8 := by
  unfold wyN
  split <;> omega
theorem wy_cls : ∀ a, a < 21 → ∀ sg : Bool, ∀ w, w < 8 → ((sgV sg * nI w) + plV a) &&& (7 : Int32) = nI (wyN sg a w) := by decide +kernel
theorem wy_ref : ∀ a, a < 21 → ∀ sg : Bool, ∀ w, w < 8 → (((nI ((a + 6) % 8)) + (sgV sg * nI w)) + (64 : Int32)) - (((nI ((a + 6) % 8)) + (sgV sg * nI w)) + (64 : Int32)) / (8 : Int32) * (8 : Int32) = nI (wyN sg a w) := by decide +kernel
def trA (sg : Bool) (w a : Nat) : Nat := if w = 12 then (if sg then a + 2 else a - 2) else a
def trS (sg : Bool) (w : Nat) : Bool := if w = 13 then !sg else sg
theorem pl_tr : ∀ a, a < 21 → ∀ sg : Bool, 2 ≤ a → plV a + (2 : Int32) * sgV sg = plV (trA sg 12 a) := by decide +kernel
theorem pl_trm : ∀ a, a < 21 → ∀ sg : Bool, 2 ≤ a → ((nI ((a + 6) % 8) + (2 : Int32) * sgV sg) + (8 : Int32)) - ((nI ((a + 6) % 8) + (2 : Int32) * sgV sg) + (8 : Int32)) / (8 : Int32) * (8 : Int32) = nI ((trA sg 12 a + 6) % 8) := by decide +kernel
theorem pl_id : ∀ a, a < 21 → ((nI ((a + 6) % 8) + (0 : Int32)) + (8 : Int32)) - ((nI ((a + 6) % 8) + (0 : Int32)) + (8 : Int32)) / (8 : Int32) * (8 : Int32) = nI ((a + 6) % 8) := by decide +kernel
theorem sg_neg : ∀ sg : Bool, -(sgV sg) = sgV (!sg) := by decide +kernel
end SET
