def Mo_sign_13    (P : PH) : Option (PH) :=
  if (P.1 1 14) = 0 then
    (Mo_reads P).bind fun (x21 : PH) =>
    some x21
  else
    some P
set_option maxRecDepth 100000 in
set_option maxHeartbeats 4000000 in
theorem Mo_sign_13_sem {G : GT} {l : Launch} (hG : GOK G l)   (P : PH)   : Sem G l miX11_sign 0 0 (rn tVH) 13 [(0, .ref (gA G 1))] [] P (Mo_sign_13 P) := by
  unfold Mo_sign_13
  refine s_aload_n (pc := 13) 0 dX11_sign_13 rfl rfl ?_
  refine s_getI (pc := 14) dX11_sign_14 (fi_X11_144 hG) kd_1 ?_
  refine s_if_ne (pc := 17) 24 dX11_sign_17 rfl ?_ ?_
  · refine s_aload_n (pc := 20) 0 dX11_sign_20 rfl rfl ?_
    refine s_callV (k := 0) (n := 0) (pc := 21) [] (fun _ => []) (fun x21 => x21) dX11_sign_21 (cV_X11_154 hG) (Nat.le_of_ble_eq_true rfl) rfl kd_1 (Mo_reads_ok hG P) rfl (fun _ => rfl) (fun _ => rfl) (Nat.le_of_ble_eq_true rfl) rfl rfl (fun x21 => ?_)
    exact s_vret (pc := 24) dX11_sign_24 rfl rfl
  · exact s_vret (pc := 24) dX11_sign_24 rfl rfl
def Mo_sign  (v1 : Int32) (P : PH) : Option (PH) :=
  (Mo_isSign v1 P).bind fun (x2 : Int32) =>
  if x2 = 0 then
    (Mo_blames (2 : Int32) P).bind fun (x10 : PH) =>
    Mo_sign_13 x10
  else
    Mo_sign_13 P
set_option maxRecDepth 100000 in
set_option maxHeartbeats 4000000 in
theorem Mo_sign_ok {G : GT} {l : Launch} (hG : GOK G l)  (v1 : Int32) (P : PH) : OkN G l yX11_sign miX11_sign 0 0 tVH [.ref (gA G 1), .int v1] P (Mo_sign v1 P) := by
  refine okN_of hG _ [(0, .ref (gA G 1)), (1, .int v1)] rfl rfl rfl (Nat.le_of_ble_eq_true rfl) rfl ?_
  unfold Mo_sign
  refine s_aload_n (pc := 0) 0 dX11_sign_0 rfl rfl ?_
  refine s_iload_n (pc := 1) 1 dX11_sign_1 rfl rfl ?_
  refine s_callV (k := 0) (n := 0) (pc := 2) [.int v1] (fun x2 => .int x2 :: []) (fun _ => P) dX11_sign_2 (cV_X11_147 hG) (Nat.le_of_ble_eq_true rfl) rfl kd_1 (Mo_isSign_ok hG v1 P) rfl (fun _ => rfl) (fun _ => rfl) (Nat.le_of_ble_eq_true rfl) rfl rfl (fun x2 => ?_)
  refine s_if_ne (pc := 5) 13 dX11_sign_5 rfl ?_ ?_
  · refine s_aload_n (pc := 8) 0 dX11_sign_8 rfl rfl ?_
    refine s_iconst (pc := 9) (v := 2) dX11_sign_9 rfl ?_
    refine s_callV (k := 0) (n := 0) (pc := 10) [.int ((2 : Int32))] (fun _ => []) (fun x10 => x10) dX11_sign_10 (cV_X11_150 hG) (Nat.le_of_ble_eq_true rfl) rfl kd_1 (Mo_blames_ok hG (2 : Int32) P) rfl (fun _ => rfl) (fun _ => rfl) (Nat.le_of_ble_eq_true rfl) rfl rfl (fun x10 => ?_)
    refine s_sub [0] rfl ?_
    exact Mo_sign_13_sem hG x10
  · refine s_sub [0] rfl ?_
    exact Mo_sign_13_sem hG P
def Mo_isWord_39   (v1 : Nat) (P : PH) : Nat → Int32 → Int32 → Option (Int32)
  | 0 => fun _ _ => none
  | n + 1 => fun v2 v3 =>
    if v2 = 0 then
      gdP (v2 = 0 ∨ v2 = 1) <|
      some v2
    else
      if (nI (wLen.getD v1 0)) ≤ v3 then
        gdP (v2 = 0 ∨ v2 = 1) <|
        some v2
      else
        gdI ((P.1 1 10) + v3) 700 <|
        gdI v3 (wLen.getD v1 0) <|
        if (P.1 93 ((P.1 1 10) + v3).toNatClampNeg) = (wCh v1 v3.toNatClampNeg) then
          Mo_isWord_39 v1 P n (1 : Int32) (v3 + 1)
        else
          Mo_isWord_39 v1 P n (0 : Int32) (v3 + 1)
set_option maxRecDepth 100000 in
set_option maxHeartbeats 4000000 in
theorem Mo_isWord_39_sem {G : GT} {l : Launch} (hG : GOK G l)  (v1 : Nat) (hv1 : v1 < 14) (P : PH)   : ∀ (n : Nat) (v2 : Int32) (v3 : Int32), Sem G l miX11_isWord 0 0 (rn (tI P)) 39 [(0, .ref (gA G 1)), (1, .ref (gK G v1)), (2, .int v2), (3, .int v3)] [] P (Mo_isWord_39 v1 P n v2 v3) := by
  intro n
  induction n with
  | zero => intro v2 v3; exact s_none rfl
  | succ n ih =>
    intro v2 v3
    rw [Mo_isWord_39]
    refine s_iload_n (pc := 39) 2 dX11_isWord_39 rfl rfl ?_
    refine s_if_eq (pc := 40) 82 dX11_isWord_40 rfl ?_ ?_
    · refine s_iload_n (pc := 82) 2 dX11_isWord_82 rfl rfl ?_
      exact s_zret (pc := 83) dX11_isWord_83 rfl rfl
    · refine s_iload_n (pc := 43) 3 dX11_isWord_43 rfl rfl ?_
      refine s_aload_n (pc := 44) 1 dX11_isWord_44 rfl rfl ?_
      refine s_strLen (pc := 45) dX11_isWord_45 (sl_X11_160 hG) hG hv1 (Nat.le_of_ble_eq_true rfl) (Nat.le_of_ble_eq_true rfl) ?_
      refine s_icmp_ge (pc := 48) 82 dX11_isWord_48 rfl ?_ ?_
      · refine s_iload_n (pc := 82) 2 dX11_isWord_82 rfl rfl ?_
        exact s_zret (pc := 83) dX11_isWord_83 rfl rfl
      · refine s_aload_n (pc := 51) 0 dX11_isWord_51 rfl rfl ?_
        refine s_getR (pc := 52) 93 dX11_isWord_52 (fi_X11_26 hG) kd_1 rfl ?_
        refine s_aload_n (pc := 55) 0 dX11_isWord_55 rfl rfl ?_
        refine s_getI (pc := 56) dX11_isWord_56 (fi_X11_125 hG) kd_1 ?_
        refine s_iload_n (pc := 59) 3 dX11_isWord_59 rfl rfl ?_
        refine s_iadd (pc := 60) dX11_isWord_60 ?_
        refine s_iald (pc := 61) 700 dX11_isWord_61 kd_93 ln_93 ?_
        refine s_aload_n (pc := 62) 1 dX11_isWord_62 rfl rfl ?_
        refine s_iload_n (pc := 63) 3 dX11_isWord_63 rfl rfl ?_
        refine s_strAt (pc := 64) dX11_isWord_64 (sa_X11_166 hG) hG hv1 (Nat.le_of_ble_eq_true rfl) (Nat.le_of_ble_eq_true rfl) ?_
        refine s_icmp_ne (pc := 67) 74 dX11_isWord_67 rfl ?_ ?_
        · refine s_iconst (pc := 70) (v := 1) dX11_isWord_70 rfl ?_
          refine s_goto (pc := 71) 75 dX11_isWord_71 rfl ?_
          refine s_istore_n (pc := 75) [(2, .int ((1 : Int32))), (0, .ref (gA G 1)), (1, .ref (gK G v1)), (3, .int v3)] dX11_isWord_75 rfl (Nat.le_of_ble_eq_true rfl) rfl ?_
          refine s_iinc (pc := 76) 3 1 [(3, .int (v3 + 1)), (2, .int ((1 : Int32))), (0, .ref (gA G 1)), (1, .ref (gK G v1))] dX11_isWord_76 rfl rfl (Nat.le_of_ble_eq_true rfl) rfl ?_
          refine s_goto (pc := 79) 39 dX11_isWord_79 rfl ?_
          refine s_sub [2, 3, 1, 0] rfl ?_
          exact ih (1 : Int32) (v3 + 1)
        · refine s_iconst (pc := 74) (v := 0) dX11_isWord_74 rfl ?_
          refine s_istore_n (pc := 75) [(2, .int ((0 : Int32))), (0, .ref (gA G 1)), (1, .ref (gK G v1)), (3, .int v3)] dX11_isWord_75 rfl (Nat.le_of_ble_eq_true rfl) rfl ?_
          refine s_iinc (pc := 76) 3 1 [(3, .int (v3 + 1)), (2, .int ((0 : Int32))), (0, .ref (gA G 1)), (1, .ref (gK G v1))] dX11_isWord_76 rfl rfl (Nat.le_of_ble_eq_true rfl) rfl ?_
          refine s_goto (pc := 79) 39 dX11_isWord_79 rfl ?_
          refine s_sub [2, 3, 1, 0] rfl ?_
          exact ih (0 : Int32) (v3 + 1)
def Mo_isWord  (v1 : Nat) (P : PH) : Option (Int32) :=
  if (P.1 1 14) = 0 then
    if (P.1 1 11) = (1 : Int32) then
      if ((P.1 1 9) - (P.1 1 10)) = (nI (wLen.getD v1 0)) then
        Mo_isWord_39 v1 P bigN (1 : Int32) (0 : Int32)
      else
        Mo_isWord_39 v1 P bigN (0 : Int32) (0 : Int32)
    else
      Mo_isWord_39 v1 P bigN (0 : Int32) (0 : Int32)
  else
    Mo_isWord_39 v1 P bigN (0 : Int32) (0 : Int32)
set_option maxRecDepth 100000 in
set_option maxHeartbeats 4000000 in
theorem Mo_isWord_ok {G : GT} {l : Launch} (hG : GOK G l)  (v1 : Nat) (hv1 : v1 < 14) (P : PH) : OkN G l yX11_isWord miX11_isWord 0 0 (tI P) [.ref (gA G 1), .ref (gK G v1)] P (Mo_isWord v1 P) := by
  refine okN_of hG _ [(0, .ref (gA G 1)), (1, .ref (gK G v1))] rfl rfl rfl (Nat.le_of_ble_eq_true rfl) rfl ?_
  unfold Mo_isWord
  refine s_aload_n (pc := 0) 0 dX11_isWord_0 rfl rfl ?_
  refine s_getI (pc := 1) dX11_isWord_1 (fi_X11_144 hG) kd_1 ?_
  refine s_if_ne (pc := 4) 35 dX11_isWord_4 rfl ?_ ?_
  · refine s_aload_n (pc := 7) 0 dX11_isWord_7 rfl rfl ?_
    refine s_getI (pc := 8) dX11_isWord_8 (fi_X11_128 hG) kd_1 ?_
    refine s_iconst (pc := 11) (v := 1) dX11_isWord_11 rfl ?_
    refine s_icmp_ne (pc := 12) 35 dX11_isWord_12 rfl ?_ ?_
    · refine s_aload_n (pc := 15) 0 dX11_isWord_15 rfl rfl ?_
      refine s_getI (pc := 16) dX11_isWord_16 (fi_X11_122 hG) kd_1 ?_
      refine s_aload_n (pc := 19) 0 dX11_isWord_19 rfl rfl ?_
      refine s_getI (pc := 20) dX11_isWord_20 (fi_X11_125 hG) kd_1 ?_
      refine s_isub (pc := 23) dX11_isWord_23 ?_
      refine s_aload_n (pc := 24) 1 dX11_isWord_24 rfl rfl ?_
      refine s_strLen (pc := 25) dX11_isWord_25 (sl_X11_160 hG) hG hv1 (Nat.le_of_ble_eq_true rfl) (Nat.le_of_ble_eq_true rfl) ?_
      refine s_icmp_ne (pc := 28) 35 dX11_isWord_28 rfl ?_ ?_
      · refine s_iconst (pc := 31) (v := 1) dX11_isWord_31 rfl ?_
        refine s_goto (pc := 32) 36 dX11_isWord_32 rfl ?_
        refine s_istore_n (pc := 36) [(2, .int ((1 : Int32))), (0, .ref (gA G 1)), (1, .ref (gK G v1))] dX11_isWord_36 rfl (Nat.le_of_ble_eq_true rfl) rfl ?_
        refine s_iconst (pc := 37) (v := 0) dX11_isWord_37 rfl ?_
        refine s_istore_n (pc := 38) [(3, .int ((0 : Int32))), (2, .int ((1 : Int32))), (0, .ref (gA G 1)), (1, .ref (gK G v1))] dX11_isWord_38 rfl (Nat.le_of_ble_eq_true rfl) rfl ?_
        refine s_sub [2, 3, 1, 0] rfl ?_
        exact Mo_isWord_39_sem hG v1 hv1 P bigN (1 : Int32) (0 : Int32)
      · refine s_iconst (pc := 35) (v := 0) dX11_isWord_35 rfl ?_
        refine s_istore_n (pc := 36) [(2, .int ((0 : Int32))), (0, .ref (gA G 1)), (1, .ref (gK G v1))] dX11_isWord_36 rfl (Nat.le_of_ble_eq_true rfl) rfl ?_
        refine s_iconst (pc := 37) (v := 0) dX11_isWord_37 rfl ?_
        refine s_istore_n (pc := 38) [(3, .int ((0 : Int32))), (2, .int ((0 : Int32))), (0, .ref (gA G 1)), (1, .ref (gK G v1))] dX11_isWord_38 rfl (Nat.le_of_ble_eq_true rfl) rfl ?_
        refine s_sub [2, 3, 1, 0] rfl ?_
        exact Mo_isWord_39_sem hG v1 hv1 P bigN (0 : Int32) (0 : Int32)
    · refine s_iconst (pc := 35) (v := 0) dX11_isWord_35 rfl ?_
      refine s_istore_n (pc := 36) [(2, .int ((0 : Int32))), (0, .ref (gA G 1)), (1, .ref (gK G v1))] dX11_isWord_36 rfl (Nat.le_of_ble_eq_true rfl) rfl ?_
      refine s_iconst (pc := 37) (v := 0) dX11_isWord_37 rfl ?_
      refine s_istore_n (pc := 38) [(3, .int ((0 : Int32))), (2, .int ((0 : Int32))), (0, .ref (gA G 1)), (1, .ref (gK G v1))] dX11_isWord_38 rfl (Nat.le_of_ble_eq_true rfl) rfl ?_
      refine s_sub [2, 3, 1, 0] rfl ?_
      exact Mo_isWord_39_sem hG v1 hv1 P bigN (0 : Int32) (0 : Int32)
  · refine s_iconst (pc := 35) (v := 0) dX11_isWord_35 rfl ?_
    refine s_istore_n (pc := 36) [(2, .int ((0 : Int32))), (0, .ref (gA G 1)), (1, .ref (gK G v1))] dX11_isWord_36 rfl (Nat.le_of_ble_eq_true rfl) rfl ?_
    refine s_iconst (pc := 37) (v := 0) dX11_isWord_37 rfl ?_
    refine s_istore_n (pc := 38) [(3, .int ((0 : Int32))), (2, .int ((0 : Int32))), (0, .ref (gA G 1)), (1, .ref (gK G v1))] dX11_isWord_38 rfl (Nat.le_of_ble_eq_true rfl) rfl ?_
    refine s_sub [2, 3, 1, 0] rfl ?_
    exact Mo_isWord_39_sem hG v1 hv1 P bigN (0 : Int32) (0 : Int32)
def Mo_number_36   (v1 : Int32) (P : PH) : Option (Int32 × PH) :=
  (some (P.1 1 12)).bind fun (u3_40 : Int32) =>
  if (P.1 1 14) = 0 then
    (Mo_reads P).bind fun (x49 : PH) =>
    if (x49.1 1 14) = 0 then
      some (u3_40, x49)
    else
      some (v1, x49)
  else
    if (P.1 1 14) = 0 then
      some (u3_40, P)
    else
      some (v1, P)
set_option maxRecDepth 100000 in
set_option maxHeartbeats 4000000 in
theorem Mo_number_36_sem {G : GT} {l : Launch} (hG : GOK G l)  (v1 : Int32) (P : PH)   : Sem G l miX11_number 0 0 (rn tIH) 36 [(0, .ref (gA G 1)), (1, .int v1)] [] P (Mo_number_36 v1 P) := by
  unfold Mo_number_36
  refine s_aload_n (pc := 36) 0 dX11_number_36 rfl rfl ?_
  refine s_getI (pc := 37) dX11_number_37 (fi_X11_141 hG) kd_1 ?_
  refine s_letI (fun u3_40 => ?_)
  refine s_istore_n (pc := 40) [(3, .int u3_40), (0, .ref (gA G 1)), (1, .int v1)] dX11_number_40 rfl (Nat.le_of_ble_eq_true rfl) rfl ?_
  refine s_aload_n (pc := 41) 1 dX11_number_41 rfl rfl ?_
  refine s_getI (pc := 42) dX11_number_42 (fi_X11_144 hG) kd_1 ?_
  refine s_if_ne (pc := 45) 52 dX11_number_45 rfl ?_ ?_
  · refine s_aload_n (pc := 48) 1 dX11_number_48 rfl rfl ?_
    refine s_callV (k := 0) (n := 0) (pc := 49) [] (fun _ => []) (fun x49 => x49) dX11_number_49 (cV_X11_154 hG) (Nat.le_of_ble_eq_true rfl) rfl kd_1 (Mo_reads_ok hG P) rfl (fun _ => rfl) (fun _ => rfl) (Nat.le_of_ble_eq_true rfl) rfl rfl (fun x49 => ?_)
    refine s_aload_n (pc := 52) 1 dX11_number_52 rfl rfl ?_
    refine s_getI (pc := 53) dX11_number_53 (fi_X11_144 hG) kd_1 ?_
    refine s_if_ne (pc := 56) 63 dX11_number_56 rfl ?_ ?_
    · refine s_iload_n (pc := 59) 0 dX11_number_59 rfl rfl ?_
      refine s_goto (pc := 60) 64 dX11_number_60 rfl ?_
      exact s_iret (pc := 64) dX11_number_64 rfl rfl
    · refine s_iload_n (pc := 63) 2 dX11_number_63 rfl rfl ?_
      exact s_iret (pc := 64) dX11_number_64 rfl rfl
  · refine s_aload_n (pc := 52) 1 dX11_number_52 rfl rfl ?_
    refine s_getI (pc := 53) dX11_number_53 (fi_X11_144 hG) kd_1 ?_
    refine s_if_ne (pc := 56) 63 dX11_number_56 rfl ?_ ?_
    · refine s_iload_n (pc := 59) 0 dX11_number_59 rfl rfl ?_
      refine s_goto (pc := 60) 64 dX11_number_60 rfl ?_
      exact s_iret (pc := 64) dX11_number_64 rfl rfl
    · refine s_iload_n (pc := 63) 2 dX11_number_63 rfl rfl ?_
      exact s_iret (pc := 64) dX11_number_64 rfl rfl
def Mo_number  (v1 : Int32) (v2 : Int32) (P : PH) : Option (Int32 × PH) :=
  if (P.1 1 11) = (2 : Int32) then
    (Mo_within ((P.1 1 12).toInt64) v1.toInt64 v2.toInt64 P).bind fun (x25 : Int32) =>
    if x25 = 0 then
      (Mo_blames (3 : Int32) P).bind fun (x33 : PH) =>
      Mo_number_36 v1 x33
    else
      Mo_number_36 v1 P
  else
    (Mo_blames (2 : Int32) P).bind fun (x10 : PH) =>
    Mo_number_36 v1 x10
set_option maxRecDepth 100000 in
set_option maxHeartbeats 4000000 in
theorem Mo_number_ok {G : GT} {l : Launch} (hG : GOK G l)  (v1 : Int32) (v2 : Int32) (P : PH) : OkN G l yX11_number miX11_number 0 0 tIH [.ref (gA G 1), .int v1, .int v2] P (Mo_number v1 v2 P) := by
  refine okN_of hG _ [(0, .ref (gA G 1)), (1, .int v1), (2, .int v2)] rfl rfl rfl (Nat.le_of_ble_eq_true rfl) rfl ?_
  unfold Mo_number
  refine s_aload_n (pc := 0) 0 dX11_number_0 rfl rfl ?_
  refine s_getI (pc := 1) dX11_number_1 (fi_X11_128 hG) kd_1 ?_
  refine s_iconst (pc := 4) (v := 2) dX11_number_4 rfl ?_
  refine s_icmp_eq (pc := 5) 16 dX11_number_5 rfl ?_ ?_
  · refine s_aload_n (pc := 16) 0 dX11_number_16 rfl rfl ?_
    refine s_getI (pc := 17) dX11_number_17 (fi_X11_141 hG) kd_1 ?_
    refine s_i2l (pc := 20) dX11_number_20 ?_
    refine s_iload_n (pc := 21) 1 dX11_number_21 rfl rfl ?_
    refine s_i2l (pc := 22) dX11_number_22 ?_
    refine s_iload_n (pc := 23) 2 dX11_number_23 rfl rfl ?_
    refine s_i2l (pc := 24) dX11_number_24 ?_
    refine s_callS (k := 0) (n := 0) (pc := 25) [.long ((P.1 1 12).toInt64), .long (v1.toInt64), .long (v2.toInt64)] (fun x25 => .int x25 :: []) (fun _ => P) dX11_number_25 (cS_X11_98 hG) (Nat.le_of_ble_eq_true rfl) rfl (Mo_within_ok hG ((P.1 1 12).toInt64) v1.toInt64 v2.toInt64 P) rfl (fun _ => rfl) (fun _ => rfl) (Nat.le_of_ble_eq_true rfl) rfl rfl (fun x25 => ?_)
    refine s_if_ne (pc := 28) 36 dX11_number_28 rfl ?_ ?_
    · refine s_aload_n (pc := 31) 0 dX11_number_31 rfl rfl ?_
      refine s_iconst (pc := 32) (v := 3) dX11_number_32 rfl ?_
      refine s_callV (k := 0) (n := 0) (pc := 33) [.int ((3 : Int32))] (fun _ => []) (fun x33 => x33) dX11_number_33 (cV_X11_150 hG) (Nat.le_of_ble_eq_true rfl) rfl kd_1 (Mo_blames_ok hG (3 : Int32) P) rfl (fun _ => rfl) (fun _ => rfl) (Nat.le_of_ble_eq_true rfl) rfl rfl (fun x33 => ?_)
      refine s_sub [0, 1] rfl ?_
      exact Mo_number_36_sem hG v1 x33
    · refine s_sub [0, 1] rfl ?_
      exact Mo_number_36_sem hG v1 P
  · refine s_aload_n (pc := 8) 0 dX11_number_8 rfl rfl ?_
    refine s_iconst (pc := 9) (v := 2) dX11_number_9 rfl ?_
    refine s_callV (k := 0) (n := 0) (pc := 10) [.int ((2 : Int32))] (fun _ => []) (fun x10 => x10) dX11_number_10 (cV_X11_150 hG) (Nat.le_of_ble_eq_true rfl) rfl kd_1 (Mo_blames_ok hG (2 : Int32) P) rfl (fun _ => rfl) (fun _ => rfl) (Nat.le_of_ble_eq_true rfl) rfl rfl (fun x10 => ?_)
    refine s_goto (pc := 13) 36 dX11_number_13 rfl ?_
    refine s_sub [0, 1] rfl ?_
    exact Mo_number_36_sem hG v1 x10
def Mo_code  (v1 : Int32) (v2 : Int32) (v3 : Int32) (v4 : Int32) (P : PH) : Option (PH) :=
  if (P.1 1 14) = 0 then
    gdI ((4 : Int32) * (P.1 1 19)) 1600 <|
    (some (sI P 94 ((4 : Int32) * (P.1 1 19)).toNatClampNeg v1)).bind fun (P19 : PH) =>
    gdI (((4 : Int32) * (P19.1 1 19)) + (1 : Int32)) 1600 <|
    (some (sI P19 94 (((4 : Int32) * (P19.1 1 19)) + (1 : Int32)).toNatClampNeg v2)).bind fun (P33 : PH) =>
    gdI (((4 : Int32) * (P33.1 1 19)) + (2 : Int32)) 1600 <|
    (some (sI P33 94 (((4 : Int32) * (P33.1 1 19)) + (2 : Int32)).toNatClampNeg v3)).bind fun (P47 : PH) =>
    gdI (((4 : Int32) * (P47.1 1 19)) + (3 : Int32)) 1600 <|
    (some (sI P47 94 (((4 : Int32) * (P47.1 1 19)) + (3 : Int32)).toNatClampNeg v4)).bind fun (P62 : PH) =>
    (some (sI P62 1 19 ((P62.1 1 19) + (1 : Int32)))).bind fun (P70 : PH) =>
    some P70
  else
    some P
set_option maxRecDepth 100000 in
set_option maxHeartbeats 4000000 in
theorem Mo_code_ok {G : GT} {l : Launch} (hG : GOK G l)  (v1 : Int32) (v2 : Int32) (v3 : Int32) (v4 : Int32) (P : PH) : OkN G l yX11_code miX11_code 0 0 tVH [.ref (gA G 1), .int v1, .int v2, .int v3, .int v4] P (Mo_code v1 v2 v3 v4 P) := by
  refine okN_of hG _ [(0, .ref (gA G 1)), (1, .int v1), (2, .int v2), (3, .int v3), (4, .int v4)] rfl rfl rfl (Nat.le_of_ble_eq_true rfl) rfl ?_
  unfold Mo_code
  refine s_aload_n (pc := 0) 0 dX11_code_0 rfl rfl ?_
  refine s_getI (pc := 1) dX11_code_1 (fi_X11_144 hG) kd_1 ?_
  refine s_if_eq (pc := 4) 8 dX11_code_4 rfl ?_ ?_
  · refine s_aload_n (pc := 8) 0 dX11_code_8 rfl rfl ?_
    refine s_getR (pc := 9) 94 dX11_code_9 (fi_X11_33 hG) kd_1 rfl ?_
    refine s_iconst (pc := 12) (v := 4) dX11_code_12 rfl ?_
    refine s_aload_n (pc := 13) 0 dX11_code_13 rfl rfl ?_
    refine s_getI (pc := 14) dX11_code_14 (fi_X11_170 hG) kd_1 ?_
    refine s_imul (pc := 17) dX11_code_17 ?_
    refine s_iload_n (pc := 18) 1 dX11_code_18 rfl rfl ?_
    refine s_iast (pc := 19) 1600 dX11_code_19 kd_94 ln_94 ?_
    refine s_letP (fun P19 => ?_)
    refine s_aload_n (pc := 20) 0 dX11_code_20 rfl rfl ?_
    refine s_getR (pc := 21) 94 dX11_code_21 (fi_X11_33 hG) kd_1 rfl ?_
    refine s_iconst (pc := 24) (v := 4) dX11_code_24 rfl ?_
    refine s_aload_n (pc := 25) 0 dX11_code_25 rfl rfl ?_
    refine s_getI (pc := 26) dX11_code_26 (fi_X11_170 hG) kd_1 ?_
    refine s_imul (pc := 29) dX11_code_29 ?_
    refine s_iconst (pc := 30) (v := 1) dX11_code_30 rfl ?_
    refine s_iadd (pc := 31) dX11_code_31 ?_
    refine s_iload_n (pc := 32) 2 dX11_code_32 rfl rfl ?_
    refine s_iast (pc := 33) 1600 dX11_code_33 kd_94 ln_94 ?_
    refine s_letP (fun P33 => ?_)
    refine s_aload_n (pc := 34) 0 dX11_code_34 rfl rfl ?_
    refine s_getR (pc := 35) 94 dX11_code_35 (fi_X11_33 hG) kd_1 rfl ?_
    refine s_iconst (pc := 38) (v := 4) dX11_code_38 rfl ?_
    refine s_aload_n (pc := 39) 0 dX11_code_39 rfl rfl ?_
    refine s_getI (pc := 40) dX11_code_40 (fi_X11_170 hG) kd_1 ?_
    refine s_imul (pc := 43) dX11_code_43 ?_
    refine s_iconst (pc := 44) (v := 2) dX11_code_44 rfl ?_
    refine s_iadd (pc := 45) dX11_code_45 ?_
    refine s_iload_n (pc := 46) 3 dX11_code_46 rfl rfl ?_
    refine s_iast (pc := 47) 1600 dX11_code_47 kd_94 ln_94 ?_
    refine s_letP (fun P47 => ?_)
    refine s_aload_n (pc := 48) 0 dX11_code_48 rfl rfl ?_
    refine s_getR (pc := 49) 94 dX11_code_49 (fi_X11_33 hG) kd_1 rfl ?_
    refine s_iconst (pc := 52) (v := 4) dX11_code_52 rfl ?_
    refine s_aload_n (pc := 53) 0 dX11_code_53 rfl rfl ?_
    refine s_getI (pc := 54) dX11_code_54 (fi_X11_170 hG) kd_1 ?_
    refine s_imul (pc := 57) dX11_code_57 ?_
    refine s_iconst (pc := 58) (v := 3) dX11_code_58 rfl ?_
    refine s_iadd (pc := 59) dX11_code_59 ?_
    refine s_iload (pc := 60) 4 dX11_code_60 rfl ?_
    refine s_iast (pc := 62) 1600 dX11_code_62 kd_94 ln_94 ?_
    refine s_letP (fun P62 => ?_)
    refine s_aload_n (pc := 63) 0 dX11_code_63 rfl rfl ?_
    refine s_dup (pc := 64) dX11_code_64 rfl ?_
    refine s_getI (pc := 65) dX11_code_65 (fi_X11_170 hG) kd_1 ?_
    refine s_iconst (pc := 68) (v := 1) dX11_code_68 rfl ?_
    refine s_iadd (pc := 69) dX11_code_69 ?_
    refine s_putI (pc := 70) dX11_code_70 (fp_X11_170 hG) kd_1 ?_
    refine s_letP (fun P70 => ?_)
    exact s_vret (pc := 73) dX11_code_73 rfl rfl
  · exact s_vret (pc := 7) dX11_code_7 rfl rfl
def Mo_wayTold   (P : PH) : Option (Int32) :=
  (Mo_isWord 0 P).bind fun (x3 : Int32) =>
  if x3 = 0 then
    (Mo_isWord 1 P).bind fun (x14 : Int32) =>
    if x14 = 0 then
      (Mo_isWord 2 P).bind fun (x25 : Int32) =>
      if x25 = 0 then
        (Mo_isWord 3 P).bind fun (x36 : Int32) =>
        if x36 = 0 then
          (Mo_isWord 4 P).bind fun (x47 : Int32) =>
          if x47 = 0 then
            (Mo_isWord 5 P).bind fun (x58 : Int32) =>
            if x58 = 0 then
              (Mo_isWord 6 P).bind fun (x69 : Int32) =>
              if x69 = 0 then
                (Mo_isWord 7 P).bind fun (x81 : Int32) =>
                if x81 = 0 then
                  some (-1 : Int32)
                else
                  some (7 : Int32)
              else
                some (6 : Int32)
            else
              some (5 : Int32)
          else
            some (4 : Int32)
        else
          some (3 : Int32)
      else
        some (2 : Int32)
    else
      some (1 : Int32)
  else
    some (0 : Int32)
set_option maxRecDepth 100000 in
set_option maxHeartbeats 4000000 in
theorem Mo_wayTold_ok {G : GT} {l : Launch} (hG : GOK G l)   (P : PH) : OkN G l yX11_wayTold miX11_wayTold 0 0 (tI P) [.ref (gA G 1)] P (Mo_wayTold P) := by
  refine okN_of hG _ [(0, .ref (gA G 1))] rfl rfl rfl (Nat.le_of_ble_eq_true rfl) rfl ?_
  unfold Mo_wayTold
  refine s_aload_n (pc := 0) 0 dX11_wayTold_0 rfl rfl ?_
  refine s_ldcS (pc := 1) 0 dX11_wayTold_1 (show (RX11, 173, 0) ∈ strRefs by decide +kernel) ?_
  refine s_callV (k := 0) (n := 0) (pc := 3) [.ref (gK G 0)] (fun x3 => .int x3 :: []) (fun _ => P) dX11_wayTold_3 (cV_X11_175 hG) (Nat.le_of_ble_eq_true rfl) rfl kd_1 (Mo_isWord_ok hG 0 (Nat.le_of_ble_eq_true rfl) P) rfl (fun _ => rfl) (fun _ => rfl) (Nat.le_of_ble_eq_true rfl) rfl rfl (fun x3 => ?_)
  refine s_if_eq (pc := 6) 11 dX11_wayTold_6 rfl ?_ ?_
  · refine s_aload_n (pc := 11) 0 dX11_wayTold_11 rfl rfl ?_
    refine s_ldcS (pc := 12) 1 dX11_wayTold_12 (show (RX11, 179, 1) ∈ strRefs by decide +kernel) ?_
    refine s_callV (k := 0) (n := 0) (pc := 14) [.ref (gK G 1)] (fun x14 => .int x14 :: []) (fun _ => P) dX11_wayTold_14 (cV_X11_175 hG) (Nat.le_of_ble_eq_true rfl) rfl kd_1 (Mo_isWord_ok hG 1 (Nat.le_of_ble_eq_true rfl) P) rfl (fun _ => rfl) (fun _ => rfl) (Nat.le_of_ble_eq_true rfl) rfl rfl (fun x14 => ?_)
    refine s_if_eq (pc := 17) 22 dX11_wayTold_17 rfl ?_ ?_
    · refine s_aload_n (pc := 22) 0 dX11_wayTold_22 rfl rfl ?_
      refine s_ldcS (pc := 23) 2 dX11_wayTold_23 (show (RX11, 181, 2) ∈ strRefs by decide +kernel) ?_
      refine s_callV (k := 0) (n := 0) (pc := 25) [.ref (gK G 2)] (fun x25 => .int x25 :: []) (fun _ => P) dX11_wayTold_25 (cV_X11_175 hG) (Nat.le_of_ble_eq_true rfl) rfl kd_1 (Mo_isWord_ok hG 2 (Nat.le_of_ble_eq_true rfl) P) rfl (fun _ => rfl) (fun _ => rfl) (Nat.le_of_ble_eq_true rfl) rfl rfl (fun x25 => ?_)
      refine s_if_eq (pc := 28) 33 dX11_wayTold_28 rfl ?_ ?_
      · refine s_aload_n (pc := 33) 0 dX11_wayTold_33 rfl rfl ?_
        refine s_ldcS (pc := 34) 3 dX11_wayTold_34 (show (RX11, 183, 3) ∈ strRefs by decide +kernel) ?_
        refine s_callV (k := 0) (n := 0) (pc := 36) [.ref (gK G 3)] (fun x36 => .int x36 :: []) (fun _ => P) dX11_wayTold_36 (cV_X11_175 hG) (Nat.le_of_ble_eq_true rfl) rfl kd_1 (Mo_isWord_ok hG 3 (Nat.le_of_ble_eq_true rfl) P) rfl (fun _ => rfl) (fun _ => rfl) (Nat.le_of_ble_eq_true rfl) rfl rfl (fun x36 => ?_)
        refine s_if_eq (pc := 39) 44 dX11_wayTold_39 rfl ?_ ?_
        · refine s_aload_n (pc := 44) 0 dX11_wayTold_44 rfl rfl ?_
          refine s_ldcS (pc := 45) 4 dX11_wayTold_45 (show (RX11, 185, 4) ∈ strRefs by decide +kernel) ?_
          refine s_callV (k := 0) (n := 0) (pc := 47) [.ref (gK G 4)] (fun x47 => .int x47 :: []) (fun _ => P) dX11_wayTold_47 (cV_X11_175 hG) (Nat.le_of_ble_eq_true rfl) rfl kd_1 (Mo_isWord_ok hG 4 (Nat.le_of_ble_eq_true rfl) P) rfl (fun _ => rfl) (fun _ => rfl) (Nat.le_of_ble_eq_true rfl) rfl rfl (fun x47 => ?_)
          refine s_if_eq (pc := 50) 55 dX11_wayTold_50 rfl ?_ ?_
          · refine s_aload_n (pc := 55) 0 dX11_wayTold_55 rfl rfl ?_
            refine s_ldcS (pc := 56) 5 dX11_wayTold_56 (show (RX11, 187, 5) ∈ strRefs by decide +kernel) ?_
            refine s_callV (k := 0) (n := 0) (pc := 58) [.ref (gK G 5)] (fun x58 => .int x58 :: []) (fun _ => P) dX11_wayTold_58 (cV_X11_175 hG) (Nat.le_of_ble_eq_true rfl) rfl kd_1 (Mo_isWord_ok hG 5 (Nat.le_of_ble_eq_true rfl) P) rfl (fun _ => rfl) (fun _ => rfl) (Nat.le_of_ble_eq_true rfl) rfl rfl (fun x58 => ?_)
            refine s_if_eq (pc := 61) 66 dX11_wayTold_61 rfl ?_ ?_
            · refine s_aload_n (pc := 66) 0 dX11_wayTold_66 rfl rfl ?_
              refine s_ldcS (pc := 67) 6 dX11_wayTold_67 (show (RX11, 189, 6) ∈ strRefs by decide +kernel) ?_
              refine s_callV (k := 0) (n := 0) (pc := 69) [.ref (gK G 6)] (fun x69 => .int x69 :: []) (fun _ => P) dX11_wayTold_69 (cV_X11_175 hG) (Nat.le_of_ble_eq_true rfl) rfl kd_1 (Mo_isWord_ok hG 6 (Nat.le_of_ble_eq_true rfl) P) rfl (fun _ => rfl) (fun _ => rfl) (Nat.le_of_ble_eq_true rfl) rfl rfl (fun x69 => ?_)
              refine s_if_eq (pc := 72) 78 dX11_wayTold_72 rfl ?_ ?_
              · refine s_aload_n (pc := 78) 0 dX11_wayTold_78 rfl rfl ?_
                refine s_ldcS (pc := 79) 7 dX11_wayTold_79 (show (RX11, 191, 7) ∈ strRefs by decide +kernel) ?_
                refine s_callV (k := 0) (n := 0) (pc := 81) [.ref (gK G 7)] (fun x81 => .int x81 :: []) (fun _ => P) dX11_wayTold_81 (cV_X11_175 hG) (Nat.le_of_ble_eq_true rfl) rfl kd_1 (Mo_isWord_ok hG 7 (Nat.le_of_ble_eq_true rfl) P) rfl (fun _ => rfl) (fun _ => rfl) (Nat.le_of_ble_eq_true rfl) rfl rfl (fun x81 => ?_)
                refine s_if_eq (pc := 84) 92 dX11_wayTold_84 rfl ?_ ?_
                · refine s_iconst (pc := 92) (v := -1) dX11_wayTold_92 rfl ?_
                  exact s_iret (pc := 93) dX11_wayTold_93 rfl rfl
                · refine s_bipush (pc := 87) (v := 7) dX11_wayTold_87 rfl ?_
                  refine s_goto (pc := 89) 93 dX11_wayTold_89 rfl ?_
                  exact s_iret (pc := 93) dX11_wayTold_93 rfl rfl
              · refine s_bipush (pc := 75) (v := 6) dX11_wayTold_75 rfl ?_
                exact s_iret (pc := 77) dX11_wayTold_77 rfl rfl
            · refine s_iconst (pc := 64) (v := 5) dX11_wayTold_64 rfl ?_
              exact s_iret (pc := 65) dX11_wayTold_65 rfl rfl
          · refine s_iconst (pc := 53) (v := 4) dX11_wayTold_53 rfl ?_
            exact s_iret (pc := 54) dX11_wayTold_54 rfl rfl
        · refine s_iconst (pc := 42) (v := 3) dX11_wayTold_42 rfl ?_
          exact s_iret (pc := 43) dX11_wayTold_43 rfl rfl
      · refine s_iconst (pc := 31) (v := 2) dX11_wayTold_31 rfl ?_
        exact s_iret (pc := 32) dX11_wayTold_32 rfl rfl
    · refine s_iconst (pc := 20) (v := 1) dX11_wayTold_20 rfl ?_
      exact s_iret (pc := 21) dX11_wayTold_21 rfl rfl
  · refine s_iconst (pc := 9) (v := 0) dX11_wayTold_9 rfl ?_
    exact s_iret (pc := 10) dX11_wayTold_10 rfl rfl
def Mo_readPlace  (v1 : Int32) (P : PH) : Option (PH) :=
  (Mo_reads P).bind fun (x1 : PH) =>
  (Mo_number (0 : Int32) (11 : Int32) x1).bind fun (x8 : Int32 × PH) =>
  (Mo_number (0 : Int32) (11 : Int32) x8.2).bind fun (x16 : Int32 × PH) =>
  (Mo_code v1 (((12 : Int32) * (x16.1)) + (x8.1)) (0 : Int32) (0 : Int32) x16.2).bind fun (x30 : PH) =>
  some x30
set_option maxRecDepth 100000 in
set_option maxHeartbeats 4000000 in
theorem Mo_readPlace_ok {G : GT} {l : Launch} (hG : GOK G l)  (v1 : Int32) (P : PH) : OkN G l yX11_readPlace miX11_readPlace 0 0 tVH [.ref (gA G 1), .int v1] P (Mo_readPlace v1 P) := by
  refine okN_of hG _ [(0, .ref (gA G 1)), (1, .int v1)] rfl rfl rfl (Nat.le_of_ble_eq_true rfl) rfl ?_
  unfold Mo_readPlace
  refine s_aload_n (pc := 0) 0 dX11_readPlace_0 rfl rfl ?_
  refine s_callV (k := 0) (n := 0) (pc := 1) [] (fun _ => []) (fun x1 => x1) dX11_readPlace_1 (cV_X11_154 hG) (Nat.le_of_ble_eq_true rfl) rfl kd_1 (Mo_reads_ok hG P) rfl (fun _ => rfl) (fun _ => rfl) (Nat.le_of_ble_eq_true rfl) rfl rfl (fun x1 => ?_)
  refine s_aload_n (pc := 4) 0 dX11_readPlace_4 rfl rfl ?_
  refine s_iconst (pc := 5) (v := 0) dX11_readPlace_5 rfl ?_
  refine s_bipush (pc := 6) (v := 11) dX11_readPlace_6 rfl ?_
  refine s_callV (k := 0) (n := 0) (pc := 8) [.int ((0 : Int32)), .int ((11 : Int32))] (fun x8 => .int (x8.1) :: []) (fun x8 => x8.2) dX11_readPlace_8 (cV_X11_193 hG) (Nat.le_of_ble_eq_true rfl) rfl kd_1 (Mo_number_ok hG (0 : Int32) (11 : Int32) x1) rfl (fun _ => rfl) (fun _ => rfl) (Nat.le_of_ble_eq_true rfl) rfl rfl (fun x8 => ?_)
  refine s_istore_n (pc := 11) [(2, .int (x8.1)), (0, .ref (gA G 1)), (1, .int v1)] dX11_readPlace_11 rfl (Nat.le_of_ble_eq_true rfl) rfl ?_
  refine s_aload_n (pc := 12) 1 dX11_readPlace_12 rfl rfl ?_
  refine s_iconst (pc := 13) (v := 0) dX11_readPlace_13 rfl ?_
  refine s_bipush (pc := 14) (v := 11) dX11_readPlace_14 rfl ?_
  refine s_callV (k := 0) (n := 0) (pc := 16) [.int ((0 : Int32)), .int ((11 : Int32))] (fun x16 => .int (x16.1) :: []) (fun x16 => x16.2) dX11_readPlace_16 (cV_X11_193 hG) (Nat.le_of_ble_eq_true rfl) rfl kd_1 (Mo_number_ok hG (0 : Int32) (11 : Int32) x8.2) rfl (fun _ => rfl) (fun _ => rfl) (Nat.le_of_ble_eq_true rfl) rfl rfl (fun x16 => ?_)
  refine s_istore_n (pc := 19) [(3, .int (x16.1)), (2, .int (x8.1)), (0, .ref (gA G 1)), (1, .int v1)] dX11_readPlace_19 rfl (Nat.le_of_ble_eq_true rfl) rfl ?_
  refine s_aload_n (pc := 20) 2 dX11_readPlace_20 rfl rfl ?_
  refine s_iload_n (pc := 21) 3 dX11_readPlace_21 rfl rfl ?_
  refine s_bipush (pc := 22) (v := 12) dX11_readPlace_22 rfl ?_
  refine s_iload_n (pc := 24) 0 dX11_readPlace_24 rfl rfl ?_
  refine s_imul (pc := 25) dX11_readPlace_25 ?_
  refine s_iload_n (pc := 26) 1 dX11_readPlace_26 rfl rfl ?_
  refine s_iadd (pc := 27) dX11_readPlace_27 ?_
  refine s_iconst (pc := 28) (v := 0) dX11_readPlace_28 rfl ?_
  refine s_iconst (pc := 29) (v := 0) dX11_readPlace_29 rfl ?_
  refine s_callV (k := 0) (n := 0) (pc := 30) [.int v1, .int (((12 : Int32) * (x16.1)) + (x8.1)), .int ((0 : Int32)), .int ((0 : Int32))] (fun _ => []) (fun x30 => x30) dX11_readPlace_30 (cV_X11_196 hG) (Nat.le_of_ble_eq_true rfl) rfl kd_1 (Mo_code_ok hG v1 (((12 : Int32) * (x16.1)) + (x8.1)) (0 : Int32) (0 : Int32) x16.2) rfl (fun _ => rfl) (fun _ => rfl) (Nat.le_of_ble_eq_true rfl) rfl rfl (fun x30 => ?_)
  exact s_vret (pc := 33) dX11_readPlace_33 rfl rfl
def Mo_readWithin_69 (rec : PH → Option (PH))   (P : PH) : Option (PH) :=
  (Mo_sign (41 : Int32) P).bind fun (x72 : PH) =>
  (some (sI x72 1 13 ((x72.1 1 13) - (1 : Int32)))).bind fun (P82 : PH) =>
  (Mo_code (14 : Int32) (0 : Int32) (0 : Int32) (0 : Int32) P82).bind fun (x91 : PH) =>
  some x91
set_option maxRecDepth 100000 in
set_option maxHeartbeats 4000000 in
theorem Mo_readWithin_69_sem {G : GT} {l : Launch} (hG : GOK G l) (d : Nat) (rec : PH → Option (PH)) (hrec : ∀  (P : PH), OkN G l yX11_readStatement (miX11_readStatement (d)) 0 0 tVH [.ref (gA G 1)] P (rec  P))  (P : PH)   : Sem G l (miX11_readWithin d) 0 0 (rn tVH) 69 [(0, .ref (gA G 1))] [] P (Mo_readWithin_69 rec P) := by
  unfold Mo_readWithin_69
  refine s_aload_n (pc := 69) 0 dX11_readWithin_69 rfl rfl ?_
  refine s_bipush (pc := 70) (v := 41) dX11_readWithin_70 rfl ?_
  refine s_callV (k := 0) (n := 0) (pc := 72) [.int ((41 : Int32))] (fun _ => []) (fun x72 => x72) dX11_readWithin_72 (cV_X11_203 hG) (by simp only [hiOf, miX11_readWithin, miX11_sign]; omega) rfl kd_1 (Mo_sign_ok hG (41 : Int32) P) rfl (fun _ => rfl) (fun _ => rfl) (Nat.le_of_ble_eq_true rfl) rfl rfl (fun x72 => ?_)
  refine s_aload_n (pc := 75) 0 dX11_readWithin_75 rfl rfl ?_
  refine s_dup (pc := 76) dX11_readWithin_76 rfl ?_
  refine s_getI (pc := 77) dX11_readWithin_77 (fi_X11_200 hG) kd_1 ?_
  refine s_iconst (pc := 80) (v := 1) dX11_readWithin_80 rfl ?_
  refine s_isub (pc := 81) dX11_readWithin_81 ?_
  refine s_putI (pc := 82) dX11_readWithin_82 (fp_X11_200 hG) kd_1 ?_
  refine s_letP (fun P82 => ?_)
  refine s_aload_n (pc := 85) 0 dX11_readWithin_85 rfl rfl ?_
  refine s_bipush (pc := 86) (v := 14) dX11_readWithin_86 rfl ?_
  refine s_iconst (pc := 88) (v := 0) dX11_readWithin_88 rfl ?_
  refine s_iconst (pc := 89) (v := 0) dX11_readWithin_89 rfl ?_
  refine s_iconst (pc := 90) (v := 0) dX11_readWithin_90 rfl ?_
  refine s_callV (k := 0) (n := 0) (pc := 91) [.int ((14 : Int32)), .int ((0 : Int32)), .int ((0 : Int32)), .int ((0 : Int32))] (fun _ => []) (fun x91 => x91) dX11_readWithin_91 (cV_X11_196 hG) (by simp only [hiOf, miX11_readWithin, miX11_code]; omega) rfl kd_1 (Mo_code_ok hG (14 : Int32) (0 : Int32) (0 : Int32) (0 : Int32) P82) rfl (fun _ => rfl) (fun _ => rfl) (Nat.le_of_ble_eq_true rfl) rfl rfl (fun x91 => ?_)
  exact s_vret (pc := 94) dX11_readWithin_94 rfl rfl
def Mo_readWithin_46 (rec : PH → Option (PH))    : Nat → PH → Option (PH)
  | 0 => fun _ => none
  | n + 1 => fun P =>
    if (P.1 1 14) = 0 then
      (Mo_isSign (41 : Int32) P).bind fun (x56 : Int32) =>
      if x56 = 0 then
        (rec P).bind fun (x63 : PH) =>
        Mo_readWithin_46 rec n x63
      else
        Mo_readWithin_69 rec P
    else
      Mo_readWithin_69 rec P
set_option maxRecDepth 100000 in
set_option maxHeartbeats 4000000 in
theorem Mo_readWithin_46_sem {G : GT} {l : Launch} (hG : GOK G l) (d : Nat) (rec : PH → Option (PH)) (hrec : ∀  (P : PH), OkN G l yX11_readStatement (miX11_readStatement (d)) 0 0 tVH [.ref (gA G 1)] P (rec  P))     : ∀ (n : Nat) (P : PH), Sem G l (miX11_readWithin d) 0 0 (rn tVH) 46 [(0, .ref (gA G 1))] [] P (Mo_readWithin_46 rec n P) := by
  intro n
  induction n with
  | zero => intro  P; exact s_none rfl
  | succ n ih =>
    intro  P
    rw [Mo_readWithin_46]
    refine s_aload_n (pc := 46) 0 dX11_readWithin_46 rfl rfl ?_
    refine s_getI (pc := 47) dX11_readWithin_47 (fi_X11_144 hG) kd_1 ?_
    refine s_if_ne (pc := 50) 69 dX11_readWithin_50 rfl ?_ ?_
    · refine s_aload_n (pc := 53) 0 dX11_readWithin_53 rfl rfl ?_
      refine s_bipush (pc := 54) (v := 41) dX11_readWithin_54 rfl ?_
      refine s_callV (k := 0) (n := 0) (pc := 56) [.int ((41 : Int32))] (fun x56 => .int x56 :: []) (fun _ => P) dX11_readWithin_56 (cV_X11_147 hG) (by simp only [hiOf, miX11_readWithin, miX11_isSign]; omega) rfl kd_1 (Mo_isSign_ok hG (41 : Int32) P) rfl (fun _ => rfl) (fun _ => rfl) (Nat.le_of_ble_eq_true rfl) rfl rfl (fun x56 => ?_)
      refine s_if_ne (pc := 59) 69 dX11_readWithin_59 rfl ?_ ?_
      · refine s_aload_n (pc := 62) 0 dX11_readWithin_62 rfl rfl ?_
        refine s_callV (k := 0) (n := 0) (pc := 63) [] (fun _ => []) (fun x63 => x63) dX11_readWithin_63 (cV_X11_206 hG d) (by simp only [hiOf, miX11_readWithin, miX11_readStatement]; omega) rfl kd_1 (hrec P) rfl (fun _ => rfl) (fun _ => rfl) (Nat.le_of_ble_eq_true rfl) rfl rfl (fun x63 => ?_)
        refine s_goto (pc := 66) 46 dX11_readWithin_66 rfl ?_
        exact ih x63
      · exact Mo_readWithin_69_sem hG d rec hrec P
    · exact Mo_readWithin_69_sem hG d rec hrec P
def Mo_readWithin_30 (rec : PH → Option (PH))   (P : PH) : Option (PH) :=
  (Mo_sign (40 : Int32) P).bind fun (x33 : PH) =>
  (some (sI x33 1 13 ((x33.1 1 13) + (1 : Int32)))).bind fun (P43 : PH) =>
  Mo_readWithin_46 rec bigN P43
set_option maxRecDepth 100000 in
set_option maxHeartbeats 4000000 in
theorem Mo_readWithin_30_sem {G : GT} {l : Launch} (hG : GOK G l) (d : Nat) (rec : PH → Option (PH)) (hrec : ∀  (P : PH), OkN G l yX11_readStatement (miX11_readStatement (d)) 0 0 tVH [.ref (gA G 1)] P (rec  P))  (P : PH)   : Sem G l (miX11_readWithin d) 0 0 (rn tVH) 30 [(0, .ref (gA G 1))] [] P (Mo_readWithin_30 rec P) := by
  unfold Mo_readWithin_30
  refine s_aload_n (pc := 30) 0 dX11_readWithin_30 rfl rfl ?_
  refine s_bipush (pc := 31) (v := 40) dX11_readWithin_31 rfl ?_
  refine s_callV (k := 0) (n := 0) (pc := 33) [.int ((40 : Int32))] (fun _ => []) (fun x33 => x33) dX11_readWithin_33 (cV_X11_203 hG) (by simp only [hiOf, miX11_readWithin, miX11_sign]; omega) rfl kd_1 (Mo_sign_ok hG (40 : Int32) P) rfl (fun _ => rfl) (fun _ => rfl) (Nat.le_of_ble_eq_true rfl) rfl rfl (fun x33 => ?_)
  refine s_aload_n (pc := 36) 0 dX11_readWithin_36 rfl rfl ?_
  refine s_dup (pc := 37) dX11_readWithin_37 rfl ?_
  refine s_getI (pc := 38) dX11_readWithin_38 (fi_X11_200 hG) kd_1 ?_
  refine s_iconst (pc := 41) (v := 1) dX11_readWithin_41 rfl ?_
  refine s_iadd (pc := 42) dX11_readWithin_42 ?_
  refine s_putI (pc := 43) dX11_readWithin_43 (fp_X11_200 hG) kd_1 ?_
  refine s_letP (fun P43 => ?_)
  exact Mo_readWithin_46_sem hG d rec hrec bigN P43
def Mo_readWithin (rec : PH → Option (PH)) (v1 : Int32) (v2 : Int32) (P : PH) : Option (PH) :=
  (Mo_code v1 v2 (0 : Int32) (0 : Int32) P).bind fun (x5 : PH) =>
  (Mo_isSign (40 : Int32) x5).bind fun (x11 : Int32) =>
  if x11 = 0 then
    Mo_readWithin_30 rec x5
  else
    if (x5.1 1 13) = (5 : Int32) then
      (Mo_blames (4 : Int32) x5).bind fun (x27 : PH) =>
      Mo_readWithin_30 rec x27
    else
      Mo_readWithin_30 rec x5
set_option maxRecDepth 100000 in
set_option maxHeartbeats 4000000 in
theorem Mo_readWithin_ok {G : GT} {l : Launch} (hG : GOK G l) (d : Nat) (rec : PH → Option (PH)) (hrec : ∀  (P : PH), OkN G l yX11_readStatement (miX11_readStatement (d)) 0 0 tVH [.ref (gA G 1)] P (rec  P)) (v1 : Int32) (v2 : Int32) (P : PH) : OkN G l yX11_readWithin (miX11_readWithin d) 0 0 tVH [.ref (gA G 1), .int v1, .int v2] P (Mo_readWithin rec v1 v2 P) := by
  refine okN_of hG _ [(0, .ref (gA G 1)), (1, .int v1), (2, .int v2)] rfl rfl rfl (Nat.le_of_ble_eq_true rfl) rfl ?_
  unfold Mo_readWithin
  refine s_aload_n (pc := 0) 0 dX11_readWithin_0 rfl rfl ?_
  refine s_iload_n (pc := 1) 1 dX11_readWithin_1 rfl rfl ?_
  refine s_iload_n (pc := 2) 2 dX11_readWithin_2 rfl rfl ?_
  refine s_iconst (pc := 3) (v := 0) dX11_readWithin_3 rfl ?_
  refine s_iconst (pc := 4) (v := 0) dX11_readWithin_4 rfl ?_
  refine s_callV (k := 0) (n := 0) (pc := 5) [.int v1, .int v2, .int ((0 : Int32)), .int ((0 : Int32))] (fun _ => []) (fun x5 => x5) dX11_readWithin_5 (cV_X11_196 hG) (by simp only [hiOf, miX11_readWithin, miX11_code]; omega) rfl kd_1 (Mo_code_ok hG v1 v2 (0 : Int32) (0 : Int32) P) rfl (fun _ => rfl) (fun _ => rfl) (Nat.le_of_ble_eq_true rfl) rfl rfl (fun x5 => ?_)
  refine s_aload_n (pc := 8) 0 dX11_readWithin_8 rfl rfl ?_
  refine s_bipush (pc := 9) (v := 40) dX11_readWithin_9 rfl ?_
  refine s_callV (k := 0) (n := 0) (pc := 11) [.int ((40 : Int32))] (fun x11 => .int x11 :: []) (fun _ => x5) dX11_readWithin_11 (cV_X11_147 hG) (by simp only [hiOf, miX11_readWithin, miX11_isSign]; omega) rfl kd_1 (Mo_isSign_ok hG (40 : Int32) x5) rfl (fun _ => rfl) (fun _ => rfl) (Nat.le_of_ble_eq_true rfl) rfl rfl (fun x11 => ?_)
  refine s_if_eq (pc := 14) 30 dX11_readWithin_14 rfl ?_ ?_
  · refine s_sub [0] rfl ?_
    exact Mo_readWithin_30_sem hG d rec hrec x5
  · refine s_aload_n (pc := 17) 0 dX11_readWithin_17 rfl rfl ?_
    refine s_getI (pc := 18) dX11_readWithin_18 (fi_X11_200 hG) kd_1 ?_
    refine s_iconst (pc := 21) (v := 5) dX11_readWithin_21 rfl ?_
    refine s_icmp_ne (pc := 22) 30 dX11_readWithin_22 rfl ?_ ?_
    · refine s_aload_n (pc := 25) 0 dX11_readWithin_25 rfl rfl ?_
      refine s_iconst (pc := 26) (v := 4) dX11_readWithin_26 rfl ?_
      refine s_callV (k := 0) (n := 0) (pc := 27) [.int ((4 : Int32))] (fun _ => []) (fun x27 => x27) dX11_readWithin_27 (cV_X11_150 hG) (by simp only [hiOf, miX11_readWithin, miX11_blames]; omega) rfl kd_1 (Mo_blames_ok hG (4 : Int32) x5) rfl (fun _ => rfl) (fun _ => rfl) (Nat.le_of_ble_eq_true rfl) rfl rfl (fun x27 => ?_)
      refine s_sub [0] rfl ?_
      exact Mo_readWithin_30_sem hG d rec hrec x27
    · refine s_sub [0] rfl ?_
      exact Mo_readWithin_30_sem hG d rec hrec x5
def Mo_readStatement_191 (rec : PH → Option (PH))   (P : PH) : Option (PH) :=
  (Mo_sign (59 : Int32) P).bind fun (x194 : PH) =>
  some x194
set_option maxRecDepth 100000 in
set_option maxHeartbeats 4000000 in
theorem Mo_readStatement_191_sem {G : GT} {l : Launch} (hG : GOK G l) (d : Nat) (rec : PH → Option (PH)) (hrec : ∀  (P : PH), OkN G l yX11_readStatement (miX11_readStatement (d)) 0 0 tVH [.ref (gA G 1)] P (rec  P))  (P : PH)   : Sem G l (miX11_readStatement (d + 1)) 0 0 (rn tVH) 191 [(0, .ref (gA G 1))] [] P (Mo_readStatement_191 rec P) := by
  unfold Mo_readStatement_191
  refine s_aload_n (pc := 191) 0 dX11_readStatement_191 rfl rfl ?_
  refine s_bipush (pc := 192) (v := 59) dX11_readStatement_192 rfl ?_
  refine s_callV (k := 0) (n := 0) (pc := 194) [.int ((59 : Int32))] (fun _ => []) (fun x194 => x194) dX11_readStatement_194 (cV_X11_203 hG) (by simp only [hiOf, miX11_readStatement, miX11_sign]; omega) rfl kd_1 (Mo_sign_ok hG (59 : Int32) P) rfl (fun _ => rfl) (fun _ => rfl) (Nat.le_of_ble_eq_true rfl) rfl rfl (fun x194 => ?_)
  exact s_vret (pc := 197) dX11_readStatement_197 rfl rfl
def Mo_readStatement_step (rec : PH → Option (PH))  (P : PH) : Option (PH) :=
  (some (P.1 1 10)).bind fun (u1_4 : Int32) =>
  (Mo_wayTold P).bind fun (x6 : Int32) =>
  if x6 = (-1 : Int32) then
    (Mo_isWord 8 P).bind fun (x39 : Int32) =>
    if x39 = 0 then
      (Mo_isWord 10 P).bind fun (x57 : Int32) =>
      if x57 = 0 then
        (Mo_isWord 9 P).bind fun (x75 : Int32) =>
        if x75 = 0 then
          (Mo_isWord 11 P).bind fun (x105 : Int32) =>
          if x105 = 0 then
            (Mo_isWord 12 P).bind fun (x143 : Int32) =>
            if x143 = 0 then
              (Mo_isWord 13 P).bind fun (x166 : Int32) =>
              if x166 = 0 then
                (Mo_blames (2 : Int32) P).bind fun (x188 : PH) =>
                Mo_readStatement_191 rec x188
              else
                (Mo_reads P).bind fun (x173 : PH) =>
                (Mo_readWithin rec (13 : Int32) (1 : Int32) x173).bind fun (x180 : PH) =>
                Mo_readStatement_191 rec x180
            else
              (Mo_reads P).bind fun (x150 : PH) =>
              (Mo_readWithin rec (12 : Int32) (1 : Int32) x150).bind fun (x157 : PH) =>
              Mo_readStatement_191 rec x157
          else
            (Mo_reads P).bind fun (x112 : PH) =>
            (Mo_number (1 : Int32) (12 : Int32) x112).bind fun (x119 : Int32 × PH) =>
            if (x119.2.1 1 14) = 0 then
              (Mo_readWithin rec (11 : Int32) x119.1 x119.2).bind fun (x134 : PH) =>
              Mo_readStatement_191 rec x134
            else
              Mo_readStatement_191 rec x119.2
        else
          (Mo_reads P).bind fun (x82 : PH) =>
          (Mo_number (0 : Int32) (3 : Int32) x82).bind fun (x91 : Int32 × PH) =>
          (Mo_code (9 : Int32) x91.1 (0 : Int32) (0 : Int32) x91.2).bind fun (x96 : PH) =>
          Mo_readStatement_191 rec x96
      else
        (Mo_readPlace (10 : Int32) P).bind fun (x66 : PH) =>
        Mo_readStatement_191 rec x66
    else
      (Mo_readPlace (8 : Int32) P).bind fun (x48 : PH) =>
      Mo_readStatement_191 rec x48
  else
    (Mo_reads P).bind fun (x16 : PH) =>
    (Mo_number (1 : Int32) (11 : Int32) x16).bind fun (x25 : Int32 × PH) =>
    (Mo_code x6 x25.1 (0 : Int32) u1_4 x25.2).bind fun (x30 : PH) =>
    Mo_readStatement_191 rec x30
def Mo_readStatement : Nat → PH → Option (PH)
  | 0 => fun _ => none
  | d + 1 => fun P => Mo_readStatement_step (Mo_readStatement d) P
set_option maxRecDepth 100000 in
set_option maxHeartbeats 4000000 in
theorem Mo_readStatement_step_ok {G : GT} {l : Launch} (hG : GOK G l) (d : Nat) (rec : PH → Option (PH)) (hrec : ∀  (P : PH), OkN G l yX11_readStatement (miX11_readStatement (d)) 0 0 tVH [.ref (gA G 1)] P (rec  P))  (P : PH) : OkN G l yX11_readStatement (miX11_readStatement (d + 1)) 0 0 tVH [.ref (gA G 1)] P (Mo_readStatement_step rec P) := by
  refine okN_of hG _ [(0, .ref (gA G 1))] rfl rfl rfl (Nat.le_of_ble_eq_true rfl) rfl ?_
  unfold Mo_readStatement_step
  refine s_aload_n (pc := 0) 0 dX11_readStatement_0 rfl rfl ?_
  refine s_getI (pc := 1) dX11_readStatement_1 (fi_X11_125 hG) kd_1 ?_
  refine s_letI (fun u1_4 => ?_)
  refine s_istore_n (pc := 4) [(1, .int u1_4), (0, .ref (gA G 1))] dX11_readStatement_4 rfl (Nat.le_of_ble_eq_true rfl) rfl ?_
  refine s_aload_n (pc := 5) 1 dX11_readStatement_5 rfl rfl ?_
  refine s_callV (k := 0) (n := 0) (pc := 6) [] (fun x6 => .int x6 :: []) (fun _ => P) dX11_readStatement_6 (cV_X11_209 hG) (by simp only [hiOf, miX11_readStatement, miX11_wayTold]; omega) rfl kd_1 (Mo_wayTold_ok hG P) rfl (fun _ => rfl) (fun _ => rfl) (Nat.le_of_ble_eq_true rfl) rfl rfl (fun x6 => ?_)
  refine s_istore_n (pc := 9) [(2, .int x6), (1, .int u1_4), (0, .ref (gA G 1))] dX11_readStatement_9 rfl (Nat.le_of_ble_eq_true rfl) rfl ?_
  refine s_iload_n (pc := 10) 0 dX11_readStatement_10 rfl rfl ?_
  refine s_iconst (pc := 11) (v := -1) dX11_readStatement_11 rfl ?_
  refine s_icmp_eq (pc := 12) 36 dX11_readStatement_12 rfl ?_ ?_
  · refine s_aload_n (pc := 36) 2 dX11_readStatement_36 rfl rfl ?_
    refine s_ldcS (pc := 37) 8 dX11_readStatement_37 (show (RX11, 212, 8) ∈ strRefs by decide +kernel) ?_
    refine s_callV (k := 0) (n := 0) (pc := 39) [.ref (gK G 8)] (fun x39 => .int x39 :: []) (fun _ => P) dX11_readStatement_39 (cV_X11_175 hG) (by simp only [hiOf, miX11_readStatement, miX11_isWord]; omega) rfl kd_1 (Mo_isWord_ok hG 8 (Nat.le_of_ble_eq_true rfl) P) rfl (fun _ => rfl) (fun _ => rfl) (Nat.le_of_ble_eq_true rfl) rfl rfl (fun x39 => ?_)
    refine s_if_eq (pc := 42) 54 dX11_readStatement_42 rfl ?_ ?_
    · refine s_aload_n (pc := 54) 2 dX11_readStatement_54 rfl rfl ?_
      refine s_ldcS (pc := 55) 10 dX11_readStatement_55 (show (RX11, 216, 10) ∈ strRefs by decide +kernel) ?_
      refine s_callV (k := 0) (n := 0) (pc := 57) [.ref (gK G 10)] (fun x57 => .int x57 :: []) (fun _ => P) dX11_readStatement_57 (cV_X11_175 hG) (by simp only [hiOf, miX11_readStatement, miX11_isWord]; omega) rfl kd_1 (Mo_isWord_ok hG 10 (Nat.le_of_ble_eq_true rfl) P) rfl (fun _ => rfl) (fun _ => rfl) (Nat.le_of_ble_eq_true rfl) rfl rfl (fun x57 => ?_)
      refine s_if_eq (pc := 60) 72 dX11_readStatement_60 rfl ?_ ?_
      · refine s_aload_n (pc := 72) 2 dX11_readStatement_72 rfl rfl ?_
        refine s_ldcS (pc := 73) 9 dX11_readStatement_73 (show (RX11, 218, 9) ∈ strRefs by decide +kernel) ?_
        refine s_callV (k := 0) (n := 0) (pc := 75) [.ref (gK G 9)] (fun x75 => .int x75 :: []) (fun _ => P) dX11_readStatement_75 (cV_X11_175 hG) (by simp only [hiOf, miX11_readStatement, miX11_isWord]; omega) rfl kd_1 (Mo_isWord_ok hG 9 (Nat.le_of_ble_eq_true rfl) P) rfl (fun _ => rfl) (fun _ => rfl) (Nat.le_of_ble_eq_true rfl) rfl rfl (fun x75 => ?_)
        refine s_if_eq (pc := 78) 102 dX11_readStatement_78 rfl ?_ ?_
        · refine s_aload_n (pc := 102) 2 dX11_readStatement_102 rfl rfl ?_
          refine s_ldcS (pc := 103) 11 dX11_readStatement_103 (show (RX11, 220, 11) ∈ strRefs by decide +kernel) ?_
          refine s_callV (k := 0) (n := 0) (pc := 105) [.ref (gK G 11)] (fun x105 => .int x105 :: []) (fun _ => P) dX11_readStatement_105 (cV_X11_175 hG) (by simp only [hiOf, miX11_readStatement, miX11_isWord]; omega) rfl kd_1 (Mo_isWord_ok hG 11 (Nat.le_of_ble_eq_true rfl) P) rfl (fun _ => rfl) (fun _ => rfl) (Nat.le_of_ble_eq_true rfl) rfl rfl (fun x105 => ?_)
          refine s_if_eq (pc := 108) 140 dX11_readStatement_108 rfl ?_ ?_
          · refine s_aload_n (pc := 140) 2 dX11_readStatement_140 rfl rfl ?_
            refine s_ldcS (pc := 141) 12 dX11_readStatement_141 (show (RX11, 226, 12) ∈ strRefs by decide +kernel) ?_
            refine s_callV (k := 0) (n := 0) (pc := 143) [.ref (gK G 12)] (fun x143 => .int x143 :: []) (fun _ => P) dX11_readStatement_143 (cV_X11_175 hG) (by simp only [hiOf, miX11_readStatement, miX11_isWord]; omega) rfl kd_1 (Mo_isWord_ok hG 12 (Nat.le_of_ble_eq_true rfl) P) rfl (fun _ => rfl) (fun _ => rfl) (Nat.le_of_ble_eq_true rfl) rfl rfl (fun x143 => ?_)
            refine s_if_eq (pc := 146) 163 dX11_readStatement_146 rfl ?_ ?_
            · refine s_aload_n (pc := 163) 2 dX11_readStatement_163 rfl rfl ?_
              refine s_ldcS (pc := 164) 13 dX11_readStatement_164 (show (RX11, 228, 13) ∈ strRefs by decide +kernel) ?_
              refine s_callV (k := 0) (n := 0) (pc := 166) [.ref (gK G 13)] (fun x166 => .int x166 :: []) (fun _ => P) dX11_readStatement_166 (cV_X11_175 hG) (by simp only [hiOf, miX11_readStatement, miX11_isWord]; omega) rfl kd_1 (Mo_isWord_ok hG 13 (Nat.le_of_ble_eq_true rfl) P) rfl (fun _ => rfl) (fun _ => rfl) (Nat.le_of_ble_eq_true rfl) rfl rfl (fun x166 => ?_)
              refine s_if_eq (pc := 169) 186 dX11_readStatement_169 rfl ?_ ?_
              · refine s_aload_n (pc := 186) 2 dX11_readStatement_186 rfl rfl ?_
                refine s_iconst (pc := 187) (v := 2) dX11_readStatement_187 rfl ?_
                refine s_callV (k := 0) (n := 0) (pc := 188) [.int ((2 : Int32))] (fun _ => []) (fun x188 => x188) dX11_readStatement_188 (cV_X11_150 hG) (by simp only [hiOf, miX11_readStatement, miX11_blames]; omega) rfl kd_1 (Mo_blames_ok hG (2 : Int32) P) rfl (fun _ => rfl) (fun _ => rfl) (Nat.le_of_ble_eq_true rfl) rfl rfl (fun x188 => ?_)
                refine s_sub [2] rfl ?_
                exact Mo_readStatement_191_sem hG d rec hrec x188
              · refine s_aload_n (pc := 172) 2 dX11_readStatement_172 rfl rfl ?_
                refine s_callV (k := 0) (n := 0) (pc := 173) [] (fun _ => []) (fun x173 => x173) dX11_readStatement_173 (cV_X11_154 hG) (by simp only [hiOf, miX11_readStatement, miX11_reads]; omega) rfl kd_1 (Mo_reads_ok hG P) rfl (fun _ => rfl) (fun _ => rfl) (Nat.le_of_ble_eq_true rfl) rfl rfl (fun x173 => ?_)
                refine s_aload_n (pc := 176) 2 dX11_readStatement_176 rfl rfl ?_
                refine s_bipush (pc := 177) (v := 13) dX11_readStatement_177 rfl ?_
                refine s_iconst (pc := 179) (v := 1) dX11_readStatement_179 rfl ?_
                refine s_callV (k := 0) (n := 0) (pc := 180) [.int ((13 : Int32)), .int ((1 : Int32))] (fun _ => []) (fun x180 => x180) dX11_readStatement_180 (cV_X11_222 hG d) (by simp only [hiOf, miX11_readStatement, miX11_readWithin]; omega) rfl kd_1 (Mo_readWithin_ok hG d rec hrec (13 : Int32) (1 : Int32) x173) rfl (fun _ => rfl) (fun _ => rfl) (Nat.le_of_ble_eq_true rfl) rfl rfl (fun x180 => ?_)
                refine s_goto (pc := 183) 191 dX11_readStatement_183 rfl ?_
                refine s_sub [2] rfl ?_
                exact Mo_readStatement_191_sem hG d rec hrec x180
            · refine s_aload_n (pc := 149) 2 dX11_readStatement_149 rfl rfl ?_
              refine s_callV (k := 0) (n := 0) (pc := 150) [] (fun _ => []) (fun x150 => x150) dX11_readStatement_150 (cV_X11_154 hG) (by simp only [hiOf, miX11_readStatement, miX11_reads]; omega) rfl kd_1 (Mo_reads_ok hG P) rfl (fun _ => rfl) (fun _ => rfl) (Nat.le_of_ble_eq_true rfl) rfl rfl (fun x150 => ?_)
              refine s_aload_n (pc := 153) 2 dX11_readStatement_153 rfl rfl ?_
              refine s_bipush (pc := 154) (v := 12) dX11_readStatement_154 rfl ?_
              refine s_iconst (pc := 156) (v := 1) dX11_readStatement_156 rfl ?_
              refine s_callV (k := 0) (n := 0) (pc := 157) [.int ((12 : Int32)), .int ((1 : Int32))] (fun _ => []) (fun x157 => x157) dX11_readStatement_157 (cV_X11_222 hG d) (by simp only [hiOf, miX11_readStatement, miX11_readWithin]; omega) rfl kd_1 (Mo_readWithin_ok hG d rec hrec (12 : Int32) (1 : Int32) x150) rfl (fun _ => rfl) (fun _ => rfl) (Nat.le_of_ble_eq_true rfl) rfl rfl (fun x157 => ?_)
              refine s_goto (pc := 160) 191 dX11_readStatement_160 rfl ?_
              refine s_sub [2] rfl ?_
              exact Mo_readStatement_191_sem hG d rec hrec x157
          · refine s_aload_n (pc := 111) 2 dX11_readStatement_111 rfl rfl ?_
            refine s_callV (k := 0) (n := 0) (pc := 112) [] (fun _ => []) (fun x112 => x112) dX11_readStatement_112 (cV_X11_154 hG) (by simp only [hiOf, miX11_readStatement, miX11_reads]; omega) rfl kd_1 (Mo_reads_ok hG P) rfl (fun _ => rfl) (fun _ => rfl) (Nat.le_of_ble_eq_true rfl) rfl rfl (fun x112 => ?_)
            refine s_aload_n (pc := 115) 2 dX11_readStatement_115 rfl rfl ?_
            refine s_iconst (pc := 116) (v := 1) dX11_readStatement_116 rfl ?_
            refine s_bipush (pc := 117) (v := 12) dX11_readStatement_117 rfl ?_
            refine s_callV (k := 0) (n := 0) (pc := 119) [.int ((1 : Int32)), .int ((12 : Int32))] (fun x119 => .int (x119.1) :: []) (fun x119 => x119.2) dX11_readStatement_119 (cV_X11_193 hG) (by simp only [hiOf, miX11_readStatement, miX11_number]; omega) rfl kd_1 (Mo_number_ok hG (1 : Int32) (12 : Int32) x112) rfl (fun _ => rfl) (fun _ => rfl) (Nat.le_of_ble_eq_true rfl) rfl rfl (fun x119 => ?_)
            refine s_istore_n (pc := 122) [(3, .int (x119.1)), (2, .int x6), (1, .int u1_4), (0, .ref (gA G 1))] dX11_readStatement_122 rfl (Nat.le_of_ble_eq_true rfl) rfl ?_
            refine s_aload_n (pc := 123) 3 dX11_readStatement_123 rfl rfl ?_
            refine s_getI (pc := 124) dX11_readStatement_124 (fi_X11_144 hG) kd_1 ?_
            refine s_if_ne (pc := 127) 137 dX11_readStatement_127 rfl ?_ ?_
            · refine s_aload_n (pc := 130) 3 dX11_readStatement_130 rfl rfl ?_
              refine s_bipush (pc := 131) (v := 11) dX11_readStatement_131 rfl ?_
              refine s_iload_n (pc := 133) 0 dX11_readStatement_133 rfl rfl ?_
              refine s_callV (k := 0) (n := 0) (pc := 134) [.int ((11 : Int32)), .int (x119.1)] (fun _ => []) (fun x134 => x134) dX11_readStatement_134 (cV_X11_222 hG d) (by simp only [hiOf, miX11_readStatement, miX11_readWithin]; omega) rfl kd_1 (Mo_readWithin_ok hG d rec hrec (11 : Int32) x119.1 x119.2) rfl (fun _ => rfl) (fun _ => rfl) (Nat.le_of_ble_eq_true rfl) rfl rfl (fun x134 => ?_)
              refine s_goto (pc := 137) 191 dX11_readStatement_137 rfl ?_
              refine s_sub [3] rfl ?_
              exact Mo_readStatement_191_sem hG d rec hrec x134
            · refine s_goto (pc := 137) 191 dX11_readStatement_137 rfl ?_
              refine s_sub [3] rfl ?_
              exact Mo_readStatement_191_sem hG d rec hrec x119.2
        · refine s_aload_n (pc := 81) 2 dX11_readStatement_81 rfl rfl ?_
          refine s_callV (k := 0) (n := 0) (pc := 82) [] (fun _ => []) (fun x82 => x82) dX11_readStatement_82 (cV_X11_154 hG) (by simp only [hiOf, miX11_readStatement, miX11_reads]; omega) rfl kd_1 (Mo_reads_ok hG P) rfl (fun _ => rfl) (fun _ => rfl) (Nat.le_of_ble_eq_true rfl) rfl rfl (fun x82 => ?_)
          refine s_aload_n (pc := 85) 2 dX11_readStatement_85 rfl rfl ?_
          refine s_bipush (pc := 86) (v := 9) dX11_readStatement_86 rfl ?_
          refine s_aload_n (pc := 88) 2 dX11_readStatement_88 rfl rfl ?_
          refine s_iconst (pc := 89) (v := 0) dX11_readStatement_89 rfl ?_
          refine s_iconst (pc := 90) (v := 3) dX11_readStatement_90 rfl ?_
          refine s_callV (k := 0) (n := 0) (pc := 91) [.int ((0 : Int32)), .int ((3 : Int32))] (fun x91 => .int (x91.1) :: [.int ((9 : Int32)), .ref (gA G 1)]) (fun x91 => x91.2) dX11_readStatement_91 (cV_X11_193 hG) (by simp only [hiOf, miX11_readStatement, miX11_number]; omega) rfl kd_1 (Mo_number_ok hG (0 : Int32) (3 : Int32) x82) rfl (fun _ => rfl) (fun _ => rfl) (Nat.le_of_ble_eq_true rfl) rfl rfl (fun x91 => ?_)
          refine s_iconst (pc := 94) (v := 0) dX11_readStatement_94 rfl ?_
          refine s_iconst (pc := 95) (v := 0) dX11_readStatement_95 rfl ?_
          refine s_callV (k := 0) (n := 0) (pc := 96) [.int ((9 : Int32)), .int (x91.1), .int ((0 : Int32)), .int ((0 : Int32))] (fun _ => []) (fun x96 => x96) dX11_readStatement_96 (cV_X11_196 hG) (by simp only [hiOf, miX11_readStatement, miX11_code]; omega) rfl kd_1 (Mo_code_ok hG (9 : Int32) x91.1 (0 : Int32) (0 : Int32) x91.2) rfl (fun _ => rfl) (fun _ => rfl) (Nat.le_of_ble_eq_true rfl) rfl rfl (fun x96 => ?_)
          refine s_goto (pc := 99) 191 dX11_readStatement_99 rfl ?_
          refine s_sub [2] rfl ?_
          exact Mo_readStatement_191_sem hG d rec hrec x96
      · refine s_aload_n (pc := 63) 2 dX11_readStatement_63 rfl rfl ?_
        refine s_bipush (pc := 64) (v := 10) dX11_readStatement_64 rfl ?_
        refine s_callV (k := 0) (n := 0) (pc := 66) [.int ((10 : Int32))] (fun _ => []) (fun x66 => x66) dX11_readStatement_66 (cV_X11_213 hG) (by simp only [hiOf, miX11_readStatement, miX11_readPlace]; omega) rfl kd_1 (Mo_readPlace_ok hG (10 : Int32) P) rfl (fun _ => rfl) (fun _ => rfl) (Nat.le_of_ble_eq_true rfl) rfl rfl (fun x66 => ?_)
        refine s_goto (pc := 69) 191 dX11_readStatement_69 rfl ?_
        refine s_sub [2] rfl ?_
        exact Mo_readStatement_191_sem hG d rec hrec x66
    · refine s_aload_n (pc := 45) 2 dX11_readStatement_45 rfl rfl ?_
      refine s_bipush (pc := 46) (v := 8) dX11_readStatement_46 rfl ?_
      refine s_callV (k := 0) (n := 0) (pc := 48) [.int ((8 : Int32))] (fun _ => []) (fun x48 => x48) dX11_readStatement_48 (cV_X11_213 hG) (by simp only [hiOf, miX11_readStatement, miX11_readPlace]; omega) rfl kd_1 (Mo_readPlace_ok hG (8 : Int32) P) rfl (fun _ => rfl) (fun _ => rfl) (Nat.le_of_ble_eq_true rfl) rfl rfl (fun x48 => ?_)
      refine s_goto (pc := 51) 191 dX11_readStatement_51 rfl ?_
      refine s_sub [2] rfl ?_
      exact Mo_readStatement_191_sem hG d rec hrec x48
  · refine s_aload_n (pc := 15) 2 dX11_readStatement_15 rfl rfl ?_
    refine s_callV (k := 0) (n := 0) (pc := 16) [] (fun _ => []) (fun x16 => x16) dX11_readStatement_16 (cV_X11_154 hG) (by simp only [hiOf, miX11_readStatement, miX11_reads]; omega) rfl kd_1 (Mo_reads_ok hG P) rfl (fun _ => rfl) (fun _ => rfl) (Nat.le_of_ble_eq_true rfl) rfl rfl (fun x16 => ?_)
    refine s_aload_n (pc := 19) 2 dX11_readStatement_19 rfl rfl ?_
    refine s_iload_n (pc := 20) 0 dX11_readStatement_20 rfl rfl ?_
    refine s_aload_n (pc := 21) 2 dX11_readStatement_21 rfl rfl ?_
    refine s_iconst (pc := 22) (v := 1) dX11_readStatement_22 rfl ?_
    refine s_bipush (pc := 23) (v := 11) dX11_readStatement_23 rfl ?_
    refine s_callV (k := 0) (n := 0) (pc := 25) [.int ((1 : Int32)), .int ((11 : Int32))] (fun x25 => .int (x25.1) :: [.int x6, .ref (gA G 1)]) (fun x25 => x25.2) dX11_readStatement_25 (cV_X11_193 hG) (by simp only [hiOf, miX11_readStatement, miX11_number]; omega) rfl kd_1 (Mo_number_ok hG (1 : Int32) (11 : Int32) x16) rfl (fun _ => rfl) (fun _ => rfl) (Nat.le_of_ble_eq_true rfl) rfl rfl (fun x25 => ?_)
    refine s_iconst (pc := 28) (v := 0) dX11_readStatement_28 rfl ?_
    refine s_iload_n (pc := 29) 1 dX11_readStatement_29 rfl rfl ?_
    refine s_callV (k := 0) (n := 0) (pc := 30) [.int x6, .int (x25.1), .int ((0 : Int32)), .int u1_4] (fun _ => []) (fun x30 => x30) dX11_readStatement_30 (cV_X11_196 hG) (by simp only [hiOf, miX11_readStatement, miX11_code]; omega) rfl kd_1 (Mo_code_ok hG x6 x25.1 (0 : Int32) u1_4 x25.2) rfl (fun _ => rfl) (fun _ => rfl) (Nat.le_of_ble_eq_true rfl) rfl rfl (fun x30 => ?_)
    refine s_goto (pc := 33) 191 dX11_readStatement_33 rfl ?_
    refine s_sub [2] rfl ?_
    exact Mo_readStatement_191_sem hG d rec hrec x30
set_option maxRecDepth 100000 in
set_option maxHeartbeats 4000000 in
theorem Mo_readStatement_ok {G : GT} {l : Launch} (hG : GOK G l) : ∀ (d : Nat)  (P : PH), OkN G l yX11_readStatement (miX11_readStatement d) 0 0 tVH [.ref (gA G 1)] P (Mo_readStatement d P) := by
  intro d
  induction d with
  | zero => intro  P z hz; cases hz
  | succ d ih => intro  P; exact Mo_readStatement_step_ok hG d (Mo_readStatement d) ih  P
def Mo_draws_66   (v1 : Int32) (v2 : Int32) (v3 : Int32) (P : PH) : Option (Int32 × PH) :=
  if (P.1 1 26) ≤ (1000 : Int32) then
    if v3 = 0 then
      (some (sI P 1 24 v2)).bind fun (P154 : PH) =>
      some ((0 : Int32), P154)
    else
      gdI (0 : Int32) 512 <|
      (some ((8 : Int32) + ((4 : Int32) * (P.1 89 (0 : Int32).toNatClampNeg)))).bind fun (u4_94 : Int32) =>
      gdI (u4_94 + (0 : Int32)) 512 <|
      (some (sI P 89 (u4_94 + (0 : Int32)).toNatClampNeg (P.1 1 24))).bind fun (P108 : PH) =>
      gdI (u4_94 + (1 : Int32)) 512 <|
      (some (sI P108 89 (u4_94 + (1 : Int32)).toNatClampNeg v1)).bind fun (P118 : PH) =>
      gdI (u4_94 + (2 : Int32)) 512 <|
      (some (sI P118 89 (u4_94 + (2 : Int32)).toNatClampNeg (P118.1 1 25))).bind fun (P131 : PH) =>
      gdI (u4_94 + (3 : Int32)) 512 <|
      (some (sI P131 89 (u4_94 + (3 : Int32)).toNatClampNeg (0 : Int32))).bind fun (P141 : PH) =>
      gdI (0 : Int32) 512 <|
      gdI (0 : Int32) 512 <|
      (some (sI P141 89 (0 : Int32).toNatClampNeg ((P141.1 89 (0 : Int32).toNatClampNeg) + (1 : Int32)))).bind fun (P151 : PH) =>
      (some (sI P151 1 24 v2)).bind fun (P154 : PH) =>
      some ((0 : Int32), P154)
  else
    some ((7 : Int32), P)
set_option maxRecDepth 100000 in
set_option maxHeartbeats 4000000 in
theorem Mo_draws_66_sem {G : GT} {l : Launch} (hG : GOK G l)  (v1 : Int32) (v2 : Int32) (v3 : Int32) (P : PH)   : Sem G l miX11_draws 0 0 (rn tIH) 66 [(0, .ref (gA G 1)), (1, .int v1), (2, .int v2), (3, .int v3)] [] P (Mo_draws_66 v1 v2 v3 P) := by
  unfold Mo_draws_66
  refine s_aload_n (pc := 66) 0 dX11_draws_66 rfl rfl ?_
  refine s_getI (pc := 67) dX11_draws_67 (fi_X11_230 hG) kd_1 ?_
  refine s_sipush (pc := 70) (v := 1000) dX11_draws_70 rfl ?_
  refine s_icmp_le (pc := 73) 79 dX11_draws_73 rfl ?_ ?_
  · refine s_iload_n (pc := 79) 3 dX11_draws_79 rfl rfl ?_
    refine s_if_eq (pc := 80) 152 dX11_draws_80 rfl ?_ ?_
    · refine s_aload_n (pc := 152) 0 dX11_draws_152 rfl rfl ?_
      refine s_iload_n (pc := 153) 2 dX11_draws_153 rfl rfl ?_
      refine s_putI (pc := 154) dX11_draws_154 (fp_X11_233 hG) kd_1 ?_
      refine s_letP (fun P154 => ?_)
      refine s_iconst (pc := 157) (v := 0) dX11_draws_157 rfl ?_
      exact s_iret (pc := 158) dX11_draws_158 rfl rfl
    · refine s_bipush (pc := 83) (v := 8) dX11_draws_83 rfl ?_
      refine s_iconst (pc := 85) (v := 4) dX11_draws_85 rfl ?_
      refine s_aload_n (pc := 86) 0 dX11_draws_86 rfl rfl ?_
      refine s_getR (pc := 87) 89 dX11_draws_87 (fi_X11_13 hG) kd_1 rfl ?_
      refine s_iconst (pc := 90) (v := 0) dX11_draws_90 rfl ?_
      refine s_iald (pc := 91) 512 dX11_draws_91 kd_89 ln_89 ?_
      refine s_imul (pc := 92) dX11_draws_92 ?_
      refine s_iadd (pc := 93) dX11_draws_93 ?_
      refine s_letI (fun u4_94 => ?_)
      refine s_istore (pc := 94) [(4, .int u4_94), (0, .ref (gA G 1)), (1, .int v1), (2, .int v2), (3, .int v3)] dX11_draws_94 (Nat.le_of_ble_eq_true rfl) rfl ?_
      refine s_aload_n (pc := 96) 1 dX11_draws_96 rfl rfl ?_
      refine s_getR (pc := 97) 89 dX11_draws_97 (fi_X11_13 hG) kd_1 rfl ?_
      refine s_iload (pc := 100) 0 dX11_draws_100 rfl ?_
      refine s_iconst (pc := 102) (v := 0) dX11_draws_102 rfl ?_
      refine s_iadd (pc := 103) dX11_draws_103 ?_
      refine s_aload_n (pc := 104) 1 dX11_draws_104 rfl rfl ?_
      refine s_getI (pc := 105) dX11_draws_105 (fi_X11_233 hG) kd_1 ?_
      refine s_iast (pc := 108) 512 dX11_draws_108 kd_89 ln_89 ?_
      refine s_letP (fun P108 => ?_)
      refine s_aload_n (pc := 109) 1 dX11_draws_109 rfl rfl ?_
      refine s_getR (pc := 110) 89 dX11_draws_110 (fi_X11_13 hG) kd_1 rfl ?_
      refine s_iload (pc := 113) 0 dX11_draws_113 rfl ?_
      refine s_iconst (pc := 115) (v := 1) dX11_draws_115 rfl ?_
      refine s_iadd (pc := 116) dX11_draws_116 ?_
      refine s_iload_n (pc := 117) 2 dX11_draws_117 rfl rfl ?_
      refine s_iast (pc := 118) 512 dX11_draws_118 kd_89 ln_89 ?_
      refine s_letP (fun P118 => ?_)
      refine s_aload_n (pc := 119) 1 dX11_draws_119 rfl rfl ?_
      refine s_getR (pc := 120) 89 dX11_draws_120 (fi_X11_13 hG) kd_1 rfl ?_
      refine s_iload (pc := 123) 0 dX11_draws_123 rfl ?_
      refine s_iconst (pc := 125) (v := 2) dX11_draws_125 rfl ?_
      refine s_iadd (pc := 126) dX11_draws_126 ?_
      refine s_aload_n (pc := 127) 1 dX11_draws_127 rfl rfl ?_
      refine s_getI (pc := 128) dX11_draws_128 (fi_X11_240 hG) kd_1 ?_
      refine s_iast (pc := 131) 512 dX11_draws_131 kd_89 ln_89 ?_
      refine s_letP (fun P131 => ?_)
      refine s_aload_n (pc := 132) 1 dX11_draws_132 rfl rfl ?_
      refine s_getR (pc := 133) 89 dX11_draws_133 (fi_X11_13 hG) kd_1 rfl ?_
      refine s_iload (pc := 136) 0 dX11_draws_136 rfl ?_
      refine s_iconst (pc := 138) (v := 3) dX11_draws_138 rfl ?_
      refine s_iadd (pc := 139) dX11_draws_139 ?_
      refine s_iconst (pc := 140) (v := 0) dX11_draws_140 rfl ?_
      refine s_iast (pc := 141) 512 dX11_draws_141 kd_89 ln_89 ?_
      refine s_letP (fun P141 => ?_)
      refine s_aload_n (pc := 142) 1 dX11_draws_142 rfl rfl ?_
      refine s_getR (pc := 143) 89 dX11_draws_143 (fi_X11_13 hG) kd_1 rfl ?_
      refine s_iconst (pc := 146) (v := 0) dX11_draws_146 rfl ?_
      refine s_dup2 (pc := 147) dX11_draws_147 rfl rfl ?_
      refine s_iald (pc := 148) 512 dX11_draws_148 kd_89 ln_89 ?_
      refine s_iconst (pc := 149) (v := 1) dX11_draws_149 rfl ?_
      refine s_iadd (pc := 150) dX11_draws_150 ?_
      refine s_iast (pc := 151) 512 dX11_draws_151 kd_89 ln_89 ?_
      refine s_letP (fun P151 => ?_)
      refine s_aload_n (pc := 152) 1 dX11_draws_152 rfl rfl ?_
      refine s_iload_n (pc := 153) 3 dX11_draws_153 rfl rfl ?_
      refine s_putI (pc := 154) dX11_draws_154 (fp_X11_233 hG) kd_1 ?_
      refine s_letP (fun P154 => ?_)
      refine s_iconst (pc := 157) (v := 0) dX11_draws_157 rfl ?_
      exact s_iret (pc := 158) dX11_draws_158 rfl rfl
  · refine s_bipush (pc := 76) (v := 7) dX11_draws_76 rfl ?_
    exact s_iret (pc := 78) dX11_draws_78 rfl rfl
def Mo_draws_47   (v1 : Int32) (v2 : Int32) (s0 : Int32) (P : PH) : Option (Int32 × PH) :=
  if s0 = 0 then
    Mo_draws_66 v1 v2 s0 P
  else
    gdI (0 : Int32) 512 <|
    if (P.1 89 (0 : Int32).toNatClampNeg) = (60 : Int32) then
      some ((6 : Int32), P)
    else
      Mo_draws_66 v1 v2 s0 P
set_option maxRecDepth 100000 in
set_option maxHeartbeats 4000000 in
theorem Mo_draws_47_sem {G : GT} {l : Launch} (hG : GOK G l)  (v1 : Int32) (v2 : Int32) (s0 : Int32) (P : PH)   : Sem G l miX11_draws 0 0 (rn tIH) 47 [(0, .ref (gA G 1)), (1, .int v1), (2, .int v2)] [.int s0] P (Mo_draws_47 v1 v2 s0 P) := by
  unfold Mo_draws_47
  refine s_istore_n (pc := 47) [(3, .int s0), (0, .ref (gA G 1)), (1, .int v1), (2, .int v2)] dX11_draws_47 rfl (Nat.le_of_ble_eq_true rfl) rfl ?_
  refine s_iload_n (pc := 48) 0 dX11_draws_48 rfl rfl ?_
  refine s_if_eq (pc := 49) 66 dX11_draws_49 rfl ?_ ?_
  · refine s_sub [1, 2, 3, 0] rfl ?_
    exact Mo_draws_66_sem hG v1 v2 s0 P
  · refine s_aload_n (pc := 52) 1 dX11_draws_52 rfl rfl ?_
    refine s_getR (pc := 53) 89 dX11_draws_53 (fi_X11_13 hG) kd_1 rfl ?_
    refine s_iconst (pc := 56) (v := 0) dX11_draws_56 rfl ?_
    refine s_iald (pc := 57) 512 dX11_draws_57 kd_89 ln_89 ?_
    refine s_bipush (pc := 58) (v := 60) dX11_draws_58 rfl ?_
    refine s_icmp_ne (pc := 60) 66 dX11_draws_60 rfl ?_ ?_
    · refine s_bipush (pc := 63) (v := 6) dX11_draws_63 rfl ?_
      exact s_iret (pc := 65) dX11_draws_65 rfl rfl
    · refine s_sub [1, 2, 3, 0] rfl ?_
      exact Mo_draws_66_sem hG v1 v2 s0 P
def Mo_draws  (v1 : Int32) (P : PH) : Option (Int32 × PH) :=
  (some (sI P 1 26 ((P.1 1 26) + (1 : Int32)))).bind fun (P7 : PH) =>
  (Mo_step (P7.1 1 24) v1 P7).bind fun (x15 : Int32) =>
  if x15 = (-1 : Int32) then
    some ((5 : Int32), P7)
  else
    (Mo_find 89 (P7.1 1 24) v1 P7).bind fun (x35 : Int32) =>
    if x35 = (-1 : Int32) then
      Mo_draws_47 v1 x15 (1 : Int32) P7
    else
      Mo_draws_47 v1 x15 (0 : Int32) P7
set_option maxRecDepth 100000 in
set_option maxHeartbeats 4000000 in
theorem Mo_draws_ok {G : GT} {l : Launch} (hG : GOK G l)  (v1 : Int32) (P : PH) : OkN G l yX11_draws miX11_draws 0 0 tIH [.ref (gA G 1), .int v1] P (Mo_draws v1 P) := by
  refine okN_of hG _ [(0, .ref (gA G 1)), (1, .int v1)] rfl rfl rfl (Nat.le_of_ble_eq_true rfl) rfl ?_
  unfold Mo_draws
  refine s_aload_n (pc := 0) 0 dX11_draws_0 rfl rfl ?_
  refine s_dup (pc := 1) dX11_draws_1 rfl ?_
  refine s_getI (pc := 2) dX11_draws_2 (fi_X11_230 hG) kd_1 ?_
  refine s_iconst (pc := 5) (v := 1) dX11_draws_5 rfl ?_
  refine s_iadd (pc := 6) dX11_draws_6 ?_
  refine s_putI (pc := 7) dX11_draws_7 (fp_X11_230 hG) kd_1 ?_
  refine s_letP (fun P7 => ?_)
  refine s_aload_n (pc := 10) 0 dX11_draws_10 rfl rfl ?_
  refine s_getI (pc := 11) dX11_draws_11 (fi_X11_233 hG) kd_1 ?_
  refine s_iload_n (pc := 14) 1 dX11_draws_14 rfl rfl ?_
  refine s_callS (k := 0) (n := 0) (pc := 15) [.int (P7.1 1 24), .int v1] (fun x15 => .int x15 :: []) (fun _ => P7) dX11_draws_15 (cS_X11_108 hG) (Nat.le_of_ble_eq_true rfl) rfl (Mo_step_ok hG (P7.1 1 24) v1 P7) rfl (fun _ => rfl) (fun _ => rfl) (Nat.le_of_ble_eq_true rfl) rfl rfl (fun x15 => ?_)
  refine s_istore_n (pc := 18) [(2, .int x15), (0, .ref (gA G 1)), (1, .int v1)] dX11_draws_18 rfl (Nat.le_of_ble_eq_true rfl) rfl ?_
  refine s_iload_n (pc := 19) 0 dX11_draws_19 rfl rfl ?_
  refine s_iconst (pc := 20) (v := -1) dX11_draws_20 rfl ?_
  refine s_icmp_ne (pc := 21) 26 dX11_draws_21 rfl ?_ ?_
  · refine s_iconst (pc := 24) (v := 5) dX11_draws_24 rfl ?_
    exact s_iret (pc := 25) dX11_draws_25 rfl rfl
  · refine s_aload_n (pc := 26) 1 dX11_draws_26 rfl rfl ?_
    refine s_getR (pc := 27) 89 dX11_draws_27 (fi_X11_13 hG) kd_1 rfl ?_
    refine s_aload_n (pc := 30) 1 dX11_draws_30 rfl rfl ?_
    refine s_getI (pc := 31) dX11_draws_31 (fi_X11_233 hG) kd_1 ?_
    refine s_iload_n (pc := 34) 2 dX11_draws_34 rfl rfl ?_
    refine s_callS (k := 0) (n := 0) (pc := 35) [.ref (gA G 89), .int (P7.1 1 24), .int v1] (fun x35 => .int x35 :: []) (fun _ => P7) dX11_draws_35 (cS_X11_236 hG) (Nat.le_of_ble_eq_true rfl) rfl (Mo_find_ok hG 89 ⟨kd_89, ln_89⟩ (P7.1 1 24) v1 P7) rfl (fun _ => rfl) (fun _ => rfl) (Nat.le_of_ble_eq_true rfl) rfl rfl (fun x35 => ?_)
    refine s_iconst (pc := 38) (v := -1) dX11_draws_38 rfl ?_
    refine s_icmp_ne (pc := 39) 46 dX11_draws_39 rfl ?_ ?_
    · refine s_iconst (pc := 42) (v := 1) dX11_draws_42 rfl ?_
      refine s_goto (pc := 43) 47 dX11_draws_43 rfl ?_
      refine s_sub [1, 2, 0] rfl ?_
      exact Mo_draws_47_sem hG v1 x15 (1 : Int32) P7
    · refine s_iconst (pc := 46) (v := 0) dX11_draws_46 rfl ?_
      refine s_sub [1, 2, 0] rfl ?_
      exact Mo_draws_47_sem hG v1 x15 (0 : Int32) P7
