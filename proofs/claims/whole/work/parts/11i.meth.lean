def Mo_isSame_2    (P : PH) : Nat → Int32 → Option (Int32)
  | 0 => fun _ => none
  | n + 1 => fun v1 =>
    gdI (0 : Int32) 512 <|
    if (P.1 88 (0 : Int32).toNatClampNeg) ≤ v1 then
      gdP ((1 : Int32) = 0 ∨ (1 : Int32) = 1) <|
      some (1 : Int32)
    else
      (Mo_worked v1 P).bind fun (x14 : Int32) =>
      if x14 = (1 : Int32) then
        gdP ((0 : Int32) = 0 ∨ (0 : Int32) = 1) <|
        some (0 : Int32)
      else
        (Mo_worked v1 P).bind fun (x23 : Int32) =>
        if x23 = (2 : Int32) then
          gdP ((0 : Int32) = 0 ∨ (0 : Int32) = 1) <|
          some (0 : Int32)
        else
          Mo_isSame_2 P n (v1 + 1)
set_option maxRecDepth 100000 in
set_option maxHeartbeats 4000000 in
theorem Mo_isSame_2_sem {G : GT} {l : Launch} (hG : GOK G l)   (P : PH)   : ∀ (n : Nat) (v1 : Int32), Sem G l miX11_isSame 0 0 (rn (tI P)) 2 [(0, .ref (gA G 1)), (1, .int v1)] [] P (Mo_isSame_2 P n v1) := by
  intro n
  induction n with
  | zero => intro v1; exact s_none rfl
  | succ n ih =>
    intro v1
    rw [Mo_isSame_2]
    refine s_iload_n (pc := 2) 1 dX11_isSame_2 rfl rfl ?_
    refine s_aload_n (pc := 3) 0 dX11_isSame_3 rfl rfl ?_
    refine s_getR (pc := 4) 88 dX11_isSame_4 (fi_X11_9 hG) kd_1 rfl ?_
    refine s_iconst (pc := 7) (v := 0) dX11_isSame_7 rfl ?_
    refine s_iald (pc := 8) 512 dX11_isSame_8 kd_88 ln_88 ?_
    refine s_icmp_ge (pc := 9) 38 dX11_isSame_9 rfl ?_ ?_
    · refine s_iconst (pc := 38) (v := 1) dX11_isSame_38 rfl ?_
      exact s_zret (pc := 39) dX11_isSame_39 rfl rfl
    · refine s_aload_n (pc := 12) 0 dX11_isSame_12 rfl rfl ?_
      refine s_iload_n (pc := 13) 1 dX11_isSame_13 rfl rfl ?_
      refine s_callV (k := 0) (n := 0) (pc := 14) [.int v1] (fun x14 => .int x14 :: []) (fun _ => P) dX11_isSame_14 (cV_X11_270 hG) (Nat.le_of_ble_eq_true rfl) rfl kd_1 (Mo_worked_ok hG v1 P) rfl (fun _ => rfl) (fun _ => rfl) (Nat.le_of_ble_eq_true rfl) rfl rfl (fun x14 => ?_)
      refine s_iconst (pc := 17) (v := 1) dX11_isSame_17 rfl ?_
      refine s_icmp_eq (pc := 18) 30 dX11_isSame_18 rfl ?_ ?_
      · refine s_iconst (pc := 30) (v := 0) dX11_isSame_30 rfl ?_
        exact s_zret (pc := 31) dX11_isSame_31 rfl rfl
      · refine s_aload_n (pc := 21) 0 dX11_isSame_21 rfl rfl ?_
        refine s_iload_n (pc := 22) 1 dX11_isSame_22 rfl rfl ?_
        refine s_callV (k := 0) (n := 0) (pc := 23) [.int v1] (fun x23 => .int x23 :: []) (fun _ => P) dX11_isSame_23 (cV_X11_270 hG) (Nat.le_of_ble_eq_true rfl) rfl kd_1 (Mo_worked_ok hG v1 P) rfl (fun _ => rfl) (fun _ => rfl) (Nat.le_of_ble_eq_true rfl) rfl rfl (fun x23 => ?_)
        refine s_iconst (pc := 26) (v := 2) dX11_isSame_26 rfl ?_
        refine s_icmp_ne (pc := 27) 32 dX11_isSame_27 rfl ?_ ?_
        · refine s_iconst (pc := 30) (v := 0) dX11_isSame_30 rfl ?_
          exact s_zret (pc := 31) dX11_isSame_31 rfl rfl
        · refine s_iinc (pc := 32) 1 1 [(1, .int (v1 + 1)), (0, .ref (gA G 1))] dX11_isSame_32 rfl rfl (Nat.le_of_ble_eq_true rfl) rfl ?_
          refine s_goto (pc := 35) 2 dX11_isSame_35 rfl ?_
          refine s_sub [1, 0] rfl ?_
          exact ih (v1 + 1)
def Mo_isSame   (P : PH) : Option (Int32) :=
  Mo_isSame_2 P bigN (0 : Int32)
set_option maxRecDepth 100000 in
set_option maxHeartbeats 4000000 in
theorem Mo_isSame_ok {G : GT} {l : Launch} (hG : GOK G l)   (P : PH) : OkN G l yX11_isSame miX11_isSame 0 0 (tI P) [.ref (gA G 1)] P (Mo_isSame P) := by
  refine okN_of hG _ [(0, .ref (gA G 1))] rfl rfl rfl (Nat.le_of_ble_eq_true rfl) rfl ?_
  unfold Mo_isSame
  refine s_iconst (pc := 0) (v := 0) dX11_isSame_0 rfl ?_
  refine s_istore_n (pc := 1) [(1, .int ((0 : Int32))), (0, .ref (gA G 1))] dX11_isSame_1 rfl (Nat.le_of_ble_eq_true rfl) rfl ?_
  refine s_sub [1, 0] rfl ?_
  exact Mo_isSame_2_sem hG P bigN (0 : Int32)
def Mo_same   (P : PH) : Option (Int32 × PH) :=
  (some (sI P 1 5 (0 : Int32))).bind fun (P2 : PH) =>
  (Mo_isSame P2).bind fun (x6 : Int32) =>
  gdP (x6 = 0 ∨ x6 = 1) <|
  some (x6, P2)
set_option maxRecDepth 100000 in
set_option maxHeartbeats 4000000 in
theorem Mo_same_ok {G : GT} {l : Launch} (hG : GOK G l)   (P : PH) : OkN G l yX11_same miX11_same 0 0 tIH [.ref (gA G 1)] P (Mo_same P) := by
  refine okN_of hG _ [(0, .ref (gA G 1))] rfl rfl rfl (Nat.le_of_ble_eq_true rfl) rfl ?_
  unfold Mo_same
  refine s_aload_n (pc := 0) 0 dX11_same_0 rfl rfl ?_
  refine s_iconst (pc := 1) (v := 0) dX11_same_1 rfl ?_
  refine s_putI (pc := 2) dX11_same_2 (fp_X11_86 hG) kd_1 ?_
  refine s_letP (fun P2 => ?_)
  refine s_aload_n (pc := 5) 0 dX11_same_5 rfl rfl ?_
  refine s_callV (k := 0) (n := 0) (pc := 6) [] (fun x6 => .int x6 :: []) (fun _ => P2) dX11_same_6 (cV_X11_424 hG) (Nat.le_of_ble_eq_true rfl) rfl kd_1 (Mo_isSame_ok hG P2) rfl (fun _ => rfl) (fun _ => rfl) (Nat.le_of_ble_eq_true rfl) rfl rfl (fun x6 => ?_)
  exact s_zret (pc := 9) dX11_same_9 rfl rfl
def Mo_sameAt_125   (v3 : Int32) (P : PH) : Option (Int32 × PH) :=
  (Mo_copies 91 88 P).bind fun (x133 : PH) =>
  some (v3, x133)
set_option maxRecDepth 100000 in
set_option maxHeartbeats 4000000 in
theorem Mo_sameAt_125_sem {G : GT} {l : Launch} (hG : GOK G l)  (v3 : Int32) (P : PH)   : Sem G l miX11_sameAt 0 0 (rn tIH) 125 [(0, .ref (gA G 1)), (3, .int v3)] [] P (Mo_sameAt_125 v3 P) := by
  unfold Mo_sameAt_125
  refine s_aload_n (pc := 125) 0 dX11_sameAt_125 rfl rfl ?_
  refine s_getR (pc := 126) 91 dX11_sameAt_126 (fi_X11_19 hG) kd_1 rfl ?_
  refine s_aload_n (pc := 129) 0 dX11_sameAt_129 rfl rfl ?_
  refine s_getR (pc := 130) 88 dX11_sameAt_130 (fi_X11_9 hG) kd_1 rfl ?_
  refine s_callS (k := 0) (n := 0) (pc := 133) [.ref (gA G 91), .ref (gA G 88)] (fun _ => []) (fun x133 => x133) dX11_sameAt_133 (cS_X11_254 hG) (Nat.le_of_ble_eq_true rfl) rfl (Mo_copies_ok hG 91 ⟨kd_91, ln_91⟩ 88 ⟨kd_88, ln_88⟩ P) rfl (fun _ => rfl) (fun _ => rfl) (Nat.le_of_ble_eq_true rfl) rfl rfl (fun x133 => ?_)
  refine s_iload_n (pc := 136) 1 dX11_sameAt_136 rfl rfl ?_
  exact s_iret (pc := 137) dX11_sameAt_137 rfl rfl
def Mo_sameAt_99  (r60 : Int32 → Int32 → Int32 → PH → Option (Int32 × PH)) (v2 : Int32) (v3 : Int32) (v4 : Int32) (P : PH) : Option (Int32 × PH) :=
  (Mo_isSame P).bind fun (x100 : Int32) =>
  if x100 = 0 then
    r60 v2 v3 (v4 + 1) P
  else
    if v2 = 0 then
      r60 (v2 + (-1)) v4 (v4 + 1) P
    else
      r60 (v2 + (-1)) v3 (v4 + 1) P
set_option maxRecDepth 100000 in
set_option maxHeartbeats 4000000 in
theorem Mo_sameAt_99_sem {G : GT} {l : Launch} (hG : GOK G l)  (v2 : Int32) (v3 : Int32) (v4 : Int32) (P : PH)  (r60 : Int32 → Int32 → Int32 → PH → Option (Int32 × PH)) (hr60 : ∀ (v2 : Int32) (v3 : Int32) (v4 : Int32) (P : PH), Sem G l miX11_sameAt 0 0 (rn tIH) 60 [(0, .ref (gA G 1)), (2, .int v2), (3, .int v3), (4, .int v4)] [] P (r60 v2 v3 v4 P)) : Sem G l miX11_sameAt 0 0 (rn tIH) 99 [(0, .ref (gA G 1)), (2, .int v2), (3, .int v3), (4, .int v4)] [] P (Mo_sameAt_99 r60 v2 v3 v4 P) := by
  unfold Mo_sameAt_99
  refine s_aload_n (pc := 99) 0 dX11_sameAt_99 rfl rfl ?_
  refine s_callV (k := 0) (n := 0) (pc := 100) [] (fun x100 => .int x100 :: []) (fun _ => P) dX11_sameAt_100 (cV_X11_424 hG) (Nat.le_of_ble_eq_true rfl) rfl kd_1 (Mo_isSame_ok hG P) rfl (fun _ => rfl) (fun _ => rfl) (Nat.le_of_ble_eq_true rfl) rfl rfl (fun x100 => ?_)
  refine s_if_ne (pc := 103) 109 dX11_sameAt_103 rfl ?_ ?_
  · refine s_goto (pc := 106) 119 dX11_sameAt_106 rfl ?_
    refine s_iinc (pc := 119) 3 1 [(4, .int (v4 + 1)), (0, .ref (gA G 1)), (2, .int v2), (3, .int v3)] dX11_sameAt_119 rfl rfl (Nat.le_of_ble_eq_true rfl) rfl ?_
    refine s_goto (pc := 122) 60 dX11_sameAt_122 rfl ?_
    refine s_sub [1, 2, 3, 0] rfl ?_
    exact hr60 v2 v3 (v4 + 1) P
  · refine s_iload_n (pc := 109) 1 dX11_sameAt_109 rfl rfl ?_
    refine s_if_ne (pc := 110) 116 dX11_sameAt_110 rfl ?_ ?_
    · refine s_iload (pc := 113) 3 dX11_sameAt_113 rfl ?_
      refine s_istore_n (pc := 115) [(3, .int v4), (0, .ref (gA G 1)), (2, .int v2), (4, .int v4)] dX11_sameAt_115 rfl (Nat.le_of_ble_eq_true rfl) rfl ?_
      refine s_iinc (pc := 116) 2 (-1) [(2, .int (v2 + (-1))), (3, .int v4), (0, .ref (gA G 1)), (4, .int v4)] dX11_sameAt_116 rfl rfl (Nat.le_of_ble_eq_true rfl) rfl ?_
      refine s_iinc (pc := 119) 3 1 [(4, .int (v4 + 1)), (2, .int (v2 + (-1))), (3, .int v4), (0, .ref (gA G 1))] dX11_sameAt_119 rfl rfl (Nat.le_of_ble_eq_true rfl) rfl ?_
      refine s_goto (pc := 122) 60 dX11_sameAt_122 rfl ?_
      refine s_sub [3, 1, 2, 0] rfl ?_
      exact hr60 (v2 + (-1)) v4 (v4 + 1) P
    · refine s_iinc (pc := 116) 1 (-1) [(2, .int (v2 + (-1))), (0, .ref (gA G 1)), (3, .int v3), (4, .int v4)] dX11_sameAt_116 rfl rfl (Nat.le_of_ble_eq_true rfl) rfl ?_
      refine s_iinc (pc := 119) 3 1 [(4, .int (v4 + 1)), (2, .int (v2 + (-1))), (0, .ref (gA G 1)), (3, .int v3)] dX11_sameAt_119 rfl rfl (Nat.le_of_ble_eq_true rfl) rfl ?_
      refine s_goto (pc := 122) 60 dX11_sameAt_122 rfl ?_
      refine s_sub [2, 1, 3, 0] rfl ?_
      exact hr60 (v2 + (-1)) v3 (v4 + 1) P
def Mo_sameAt_60     : Nat → Int32 → Int32 → Int32 → PH → Option (Int32 × PH)
  | 0 => fun _ _ _ _ => none
  | n + 1 => fun v2 v3 v4 P =>
    gdI (6 : Int32) 512 <|
    if (P.1 91 (6 : Int32).toNatClampNeg) < v4 then
      Mo_sameAt_125 v3 P
    else
      if v3 = (-1 : Int32) then
        if v4 ≤ 0 then
          Mo_sameAt_99 (Mo_sameAt_60  n) v2 v3 v4 P
        else
          gdI (((392 : Int32) + v4) - (1 : Int32)) 512 <|
          (Mo_goes (P.1 91 (((392 : Int32) + v4) - (1 : Int32)).toNatClampNeg) P).bind fun (x96 : PH) =>
          Mo_sameAt_99 (Mo_sameAt_60  n) v2 v3 v4 x96
      else
        Mo_sameAt_125 v3 P
set_option maxRecDepth 100000 in
set_option maxHeartbeats 4000000 in
theorem Mo_sameAt_60_sem {G : GT} {l : Launch} (hG : GOK G l)      : ∀ (n : Nat) (v2 : Int32) (v3 : Int32) (v4 : Int32) (P : PH), Sem G l miX11_sameAt 0 0 (rn tIH) 60 [(0, .ref (gA G 1)), (2, .int v2), (3, .int v3), (4, .int v4)] [] P (Mo_sameAt_60  n v2 v3 v4 P) := by
  intro n
  induction n with
  | zero => intro v2 v3 v4 P; exact s_none rfl
  | succ n ih =>
    intro v2 v3 v4 P
    rw [Mo_sameAt_60]
    refine s_iload (pc := 60) 3 dX11_sameAt_60 rfl ?_
    refine s_aload_n (pc := 62) 0 dX11_sameAt_62 rfl rfl ?_
    refine s_getR (pc := 63) 91 dX11_sameAt_63 (fi_X11_19 hG) kd_1 rfl ?_
    refine s_bipush (pc := 66) (v := 6) dX11_sameAt_66 rfl ?_
    refine s_iald (pc := 68) 512 dX11_sameAt_68 kd_91 ln_91 ?_
    refine s_icmp_gt (pc := 69) 125 dX11_sameAt_69 rfl ?_ ?_
    · refine s_sub [0, 2] rfl ?_
      exact Mo_sameAt_125_sem hG v3 P
    · refine s_iload_n (pc := 72) 2 dX11_sameAt_72 rfl rfl ?_
      refine s_iconst (pc := 73) (v := -1) dX11_sameAt_73 rfl ?_
      refine s_icmp_ne (pc := 74) 125 dX11_sameAt_74 rfl ?_ ?_
      · refine s_iload (pc := 77) 3 dX11_sameAt_77 rfl ?_
        refine s_if_le (pc := 79) 99 dX11_sameAt_79 rfl ?_ ?_
        · exact Mo_sameAt_99_sem hG v2 v3 v4 P (Mo_sameAt_60  n) ih
        · refine s_aload_n (pc := 82) 0 dX11_sameAt_82 rfl rfl ?_
          refine s_aload_n (pc := 83) 0 dX11_sameAt_83 rfl rfl ?_
          refine s_getR (pc := 84) 91 dX11_sameAt_84 (fi_X11_19 hG) kd_1 rfl ?_
          refine s_sipush (pc := 87) (v := 392) dX11_sameAt_87 rfl ?_
          refine s_iload (pc := 90) 3 dX11_sameAt_90 rfl ?_
          refine s_iadd (pc := 92) dX11_sameAt_92 ?_
          refine s_iconst (pc := 93) (v := 1) dX11_sameAt_93 rfl ?_
          refine s_isub (pc := 94) dX11_sameAt_94 ?_
          refine s_iald (pc := 95) 512 dX11_sameAt_95 kd_91 ln_91 ?_
          refine s_callV (k := 0) (n := 0) (pc := 96) [.int (P.1 91 (((392 : Int32) + v4) - (1 : Int32)).toNatClampNeg)] (fun _ => []) (fun x96 => x96) dX11_sameAt_96 (cV_X11_348 hG) (Nat.le_of_ble_eq_true rfl) rfl kd_1 (Mo_goes_ok hG (P.1 91 (((392 : Int32) + v4) - (1 : Int32)).toNatClampNeg) P) rfl (fun _ => rfl) (fun _ => rfl) (Nat.le_of_ble_eq_true rfl) rfl rfl (fun x96 => ?_)
          exact Mo_sameAt_99_sem hG v2 v3 v4 x96 (Mo_sameAt_60  n) ih
      · refine s_sub [0, 2] rfl ?_
        exact Mo_sameAt_125_sem hG v3 P
def Mo_sameAt_36   (v1 : Int32)  : Nat → PH → Option (Int32 × PH)
  | 0 => fun _ => none
  | n + 1 => fun P =>
    gdI (6 : Int32) 512 <|
    if (P.1 88 (6 : Int32).toNatClampNeg) ≤ 0 then
      Mo_sameAt_60  bigN v1 (-1 : Int32) (0 : Int32) P
    else
      (Mo_backs P).bind fun (x47 : PH) =>
      Mo_sameAt_36 v1 n x47
set_option maxRecDepth 100000 in
set_option maxHeartbeats 4000000 in
theorem Mo_sameAt_36_sem {G : GT} {l : Launch} (hG : GOK G l)  (v1 : Int32)    : ∀ (n : Nat) (P : PH), Sem G l miX11_sameAt 0 0 (rn tIH) 36 [(0, .ref (gA G 1)), (1, .int v1)] [] P (Mo_sameAt_36 v1 n P) := by
  intro n
  induction n with
  | zero => intro  P; exact s_none rfl
  | succ n ih =>
    intro  P
    rw [Mo_sameAt_36]
    refine s_aload_n (pc := 36) 0 dX11_sameAt_36 rfl rfl ?_
    refine s_getR (pc := 37) 88 dX11_sameAt_37 (fi_X11_9 hG) kd_1 rfl ?_
    refine s_bipush (pc := 40) (v := 6) dX11_sameAt_40 rfl ?_
    refine s_iald (pc := 42) 512 dX11_sameAt_42 kd_88 ln_88 ?_
    refine s_if_le (pc := 43) 53 dX11_sameAt_43 rfl ?_ ?_
    · refine s_iload_n (pc := 53) 1 dX11_sameAt_53 rfl rfl ?_
      refine s_istore_n (pc := 54) [(2, .int v1), (0, .ref (gA G 1)), (1, .int v1)] dX11_sameAt_54 rfl (Nat.le_of_ble_eq_true rfl) rfl ?_
      refine s_iconst (pc := 55) (v := -1) dX11_sameAt_55 rfl ?_
      refine s_istore_n (pc := 56) [(3, .int ((-1 : Int32))), (2, .int v1), (0, .ref (gA G 1)), (1, .int v1)] dX11_sameAt_56 rfl (Nat.le_of_ble_eq_true rfl) rfl ?_
      refine s_iconst (pc := 57) (v := 0) dX11_sameAt_57 rfl ?_
      refine s_istore (pc := 58) [(4, .int ((0 : Int32))), (3, .int ((-1 : Int32))), (2, .int v1), (0, .ref (gA G 1)), (1, .int v1)] dX11_sameAt_58 (Nat.le_of_ble_eq_true rfl) rfl ?_
      refine s_sub [3, 2, 1, 0] rfl ?_
      exact Mo_sameAt_60_sem hG  bigN v1 (-1 : Int32) (0 : Int32) P
    · refine s_aload_n (pc := 46) 0 dX11_sameAt_46 rfl rfl ?_
      refine s_callV (k := 0) (n := 0) (pc := 47) [] (fun _ => []) (fun x47 => x47) dX11_sameAt_47 (cV_X11_351 hG) (Nat.le_of_ble_eq_true rfl) rfl kd_1 (Mo_backs_ok hG P) rfl (fun _ => rfl) (fun _ => rfl) (Nat.le_of_ble_eq_true rfl) rfl rfl (fun x47 => ?_)
      refine s_goto (pc := 50) 36 dX11_sameAt_50 rfl ?_
      exact ih x47
def Mo_sameAt_13   (v1 : Int32) (s0 : Int32) (P : PH) : Option (Int32 × PH) :=
  (some (sI P 1 5 s0)).bind fun (P13 : PH) =>
  if (P13.1 1 5) ≤ 0 then
    (Mo_copies 88 91 P13).bind fun (x33 : PH) =>
    Mo_sameAt_36 v1 bigN x33
  else
    some ((0 : Int32), P13)
set_option maxRecDepth 100000 in
set_option maxHeartbeats 4000000 in
theorem Mo_sameAt_13_sem {G : GT} {l : Launch} (hG : GOK G l)  (v1 : Int32) (s0 : Int32) (P : PH)   : Sem G l miX11_sameAt 0 0 (rn tIH) 13 [(0, .ref (gA G 1)), (1, .int v1)] [.int s0, .ref (gA G 1)] P (Mo_sameAt_13 v1 s0 P) := by
  unfold Mo_sameAt_13
  refine s_putI (pc := 13) dX11_sameAt_13 (fp_X11_86 hG) kd_1 ?_
  refine s_letP (fun P13 => ?_)
  refine s_aload_n (pc := 16) 0 dX11_sameAt_16 rfl rfl ?_
  refine s_getI (pc := 17) dX11_sameAt_17 (fi_X11_86 hG) kd_1 ?_
  refine s_if_le (pc := 20) 25 dX11_sameAt_20 rfl ?_ ?_
  · refine s_aload_n (pc := 25) 0 dX11_sameAt_25 rfl rfl ?_
    refine s_getR (pc := 26) 88 dX11_sameAt_26 (fi_X11_9 hG) kd_1 rfl ?_
    refine s_aload_n (pc := 29) 0 dX11_sameAt_29 rfl rfl ?_
    refine s_getR (pc := 30) 91 dX11_sameAt_30 (fi_X11_19 hG) kd_1 rfl ?_
    refine s_callS (k := 0) (n := 0) (pc := 33) [.ref (gA G 88), .ref (gA G 91)] (fun _ => []) (fun x33 => x33) dX11_sameAt_33 (cS_X11_254 hG) (Nat.le_of_ble_eq_true rfl) rfl (Mo_copies_ok hG 88 ⟨kd_88, ln_88⟩ 91 ⟨kd_91, ln_91⟩ P13) rfl (fun _ => rfl) (fun _ => rfl) (Nat.le_of_ble_eq_true rfl) rfl rfl (fun x33 => ?_)
    exact Mo_sameAt_36_sem hG v1 bigN x33
  · refine s_iconst (pc := 23) (v := 0) dX11_sameAt_23 rfl ?_
    exact s_iret (pc := 24) dX11_sameAt_24 rfl rfl
def Mo_sameAt  (v1 : Int32) (P : PH) : Option (Int32 × PH) :=
  (Mo_isThere P).bind fun (x2 : Int32) =>
  if x2 = 0 then
    Mo_sameAt_13 v1 (1 : Int32) P
  else
    Mo_sameAt_13 v1 (0 : Int32) P
set_option maxRecDepth 100000 in
set_option maxHeartbeats 4000000 in
theorem Mo_sameAt_ok {G : GT} {l : Launch} (hG : GOK G l)  (v1 : Int32) (P : PH) : OkN G l yX11_sameAt miX11_sameAt 0 0 tIH [.ref (gA G 1), .int v1] P (Mo_sameAt v1 P) := by
  refine okN_of hG _ [(0, .ref (gA G 1)), (1, .int v1)] rfl rfl rfl (Nat.le_of_ble_eq_true rfl) rfl ?_
  unfold Mo_sameAt
  refine s_aload_n (pc := 0) 0 dX11_sameAt_0 rfl rfl ?_
  refine s_aload_n (pc := 1) 0 dX11_sameAt_1 rfl rfl ?_
  refine s_callV (k := 0) (n := 0) (pc := 2) [] (fun x2 => .int x2 :: [.ref (gA G 1)]) (fun _ => P) dX11_sameAt_2 (cV_X11_326 hG) (Nat.le_of_ble_eq_true rfl) rfl kd_1 (Mo_isThere_ok hG P) rfl (fun _ => rfl) (fun _ => rfl) (Nat.le_of_ble_eq_true rfl) rfl rfl (fun x2 => ?_)
  refine s_if_eq (pc := 5) 12 dX11_sameAt_5 rfl ?_ ?_
  · refine s_iconst (pc := 12) (v := 1) dX11_sameAt_12 rfl ?_
    exact Mo_sameAt_13_sem hG v1 (1 : Int32) P
  · refine s_iconst (pc := 8) (v := 0) dX11_sameAt_8 rfl ?_
    refine s_goto (pc := 9) 13 dX11_sameAt_9 rfl ?_
    exact Mo_sameAt_13_sem hG v1 (0 : Int32) P
def Mo_unlike_29   (v1 : Int32)  : Nat → Int32 → Int32 → PH → Option (Int32 × PH)
  | 0 => fun _ _ _ => none
  | n + 1 => fun v2 v3 P =>
    gdI (0 : Int32) 512 <|
    if (P.1 88 (0 : Int32).toNatClampNeg) ≤ v3 then
      some (v2, P)
    else
      (Mo_isAt v3 v1 P).bind fun (x43 : Int32) =>
      if x43 = 0 then
        (some (v2 + (0 : Int32))).bind fun (u2_73 : Int32) =>
        Mo_unlike_29 v1 n u2_73 (v3 + 1) P
      else
        (Mo_worked v3 P).bind fun (x51 : Int32) =>
        if x51 = (1 : Int32) then
          (some (v2 + (1 : Int32))).bind fun (u2_73 : Int32) =>
          Mo_unlike_29 v1 n u2_73 (v3 + 1) P
        else
          (Mo_worked v3 P).bind fun (x60 : Int32) =>
          if x60 = (2 : Int32) then
            (some (v2 + (1 : Int32))).bind fun (u2_73 : Int32) =>
            Mo_unlike_29 v1 n u2_73 (v3 + 1) P
          else
            (some (v2 + (0 : Int32))).bind fun (u2_73 : Int32) =>
            Mo_unlike_29 v1 n u2_73 (v3 + 1) P
set_option maxRecDepth 100000 in
set_option maxHeartbeats 4000000 in
theorem Mo_unlike_29_sem {G : GT} {l : Launch} (hG : GOK G l)  (v1 : Int32)    : ∀ (n : Nat) (v2 : Int32) (v3 : Int32) (P : PH), Sem G l miX11_unlike 0 0 (rn tIH) 29 [(0, .ref (gA G 1)), (1, .int v1), (2, .int v2), (3, .int v3)] [] P (Mo_unlike_29 v1 n v2 v3 P) := by
  intro n
  induction n with
  | zero => intro v2 v3 P; exact s_none rfl
  | succ n ih =>
    intro v2 v3 P
    rw [Mo_unlike_29]
    refine s_iload_n (pc := 29) 3 dX11_unlike_29 rfl rfl ?_
    refine s_aload_n (pc := 30) 0 dX11_unlike_30 rfl rfl ?_
    refine s_getR (pc := 31) 88 dX11_unlike_31 (fi_X11_9 hG) kd_1 rfl ?_
    refine s_iconst (pc := 34) (v := 0) dX11_unlike_34 rfl ?_
    refine s_iald (pc := 35) 512 dX11_unlike_35 kd_88 ln_88 ?_
    refine s_icmp_ge (pc := 36) 80 dX11_unlike_36 rfl ?_ ?_
    · refine s_iload_n (pc := 80) 2 dX11_unlike_80 rfl rfl ?_
      exact s_iret (pc := 81) dX11_unlike_81 rfl rfl
    · refine s_iload_n (pc := 39) 2 dX11_unlike_39 rfl rfl ?_
      refine s_aload_n (pc := 40) 0 dX11_unlike_40 rfl rfl ?_
      refine s_iload_n (pc := 41) 3 dX11_unlike_41 rfl rfl ?_
      refine s_iload_n (pc := 42) 1 dX11_unlike_42 rfl rfl ?_
      refine s_callV (k := 0) (n := 0) (pc := 43) [.int v3, .int v1] (fun x43 => .int x43 :: [.int v2]) (fun _ => P) dX11_unlike_43 (cV_X11_287 hG) (Nat.le_of_ble_eq_true rfl) rfl kd_1 (Mo_isAt_ok hG v3 v1 P) rfl (fun _ => rfl) (fun _ => rfl) (Nat.le_of_ble_eq_true rfl) rfl rfl (fun x43 => ?_)
      refine s_if_eq (pc := 46) 71 dX11_unlike_46 rfl ?_ ?_
      · refine s_iconst (pc := 71) (v := 0) dX11_unlike_71 rfl ?_
        refine s_iadd (pc := 72) dX11_unlike_72 ?_
        refine s_letI (fun u2_73 => ?_)
        refine s_istore_n (pc := 73) [(2, .int u2_73), (0, .ref (gA G 1)), (1, .int v1), (3, .int v3)] dX11_unlike_73 rfl (Nat.le_of_ble_eq_true rfl) rfl ?_
        refine s_iinc (pc := 74) 3 1 [(3, .int (v3 + 1)), (2, .int u2_73), (0, .ref (gA G 1)), (1, .int v1)] dX11_unlike_74 rfl rfl (Nat.le_of_ble_eq_true rfl) rfl ?_
        refine s_goto (pc := 77) 29 dX11_unlike_77 rfl ?_
        refine s_sub [2, 3, 1, 0] rfl ?_
        exact ih u2_73 (v3 + 1) P
      · refine s_aload_n (pc := 49) 0 dX11_unlike_49 rfl rfl ?_
        refine s_iload_n (pc := 50) 3 dX11_unlike_50 rfl rfl ?_
        refine s_callV (k := 0) (n := 0) (pc := 51) [.int v3] (fun x51 => .int x51 :: [.int v2]) (fun _ => P) dX11_unlike_51 (cV_X11_270 hG) (Nat.le_of_ble_eq_true rfl) rfl kd_1 (Mo_worked_ok hG v3 P) rfl (fun _ => rfl) (fun _ => rfl) (Nat.le_of_ble_eq_true rfl) rfl rfl (fun x51 => ?_)
        refine s_iconst (pc := 54) (v := 1) dX11_unlike_54 rfl ?_
        refine s_icmp_eq (pc := 55) 67 dX11_unlike_55 rfl ?_ ?_
        · refine s_iconst (pc := 67) (v := 1) dX11_unlike_67 rfl ?_
          refine s_goto (pc := 68) 72 dX11_unlike_68 rfl ?_
          refine s_iadd (pc := 72) dX11_unlike_72 ?_
          refine s_letI (fun u2_73 => ?_)
          refine s_istore_n (pc := 73) [(2, .int u2_73), (0, .ref (gA G 1)), (1, .int v1), (3, .int v3)] dX11_unlike_73 rfl (Nat.le_of_ble_eq_true rfl) rfl ?_
          refine s_iinc (pc := 74) 3 1 [(3, .int (v3 + 1)), (2, .int u2_73), (0, .ref (gA G 1)), (1, .int v1)] dX11_unlike_74 rfl rfl (Nat.le_of_ble_eq_true rfl) rfl ?_
          refine s_goto (pc := 77) 29 dX11_unlike_77 rfl ?_
          refine s_sub [2, 3, 1, 0] rfl ?_
          exact ih u2_73 (v3 + 1) P
        · refine s_aload_n (pc := 58) 0 dX11_unlike_58 rfl rfl ?_
          refine s_iload_n (pc := 59) 3 dX11_unlike_59 rfl rfl ?_
          refine s_callV (k := 0) (n := 0) (pc := 60) [.int v3] (fun x60 => .int x60 :: [.int v2]) (fun _ => P) dX11_unlike_60 (cV_X11_270 hG) (Nat.le_of_ble_eq_true rfl) rfl kd_1 (Mo_worked_ok hG v3 P) rfl (fun _ => rfl) (fun _ => rfl) (Nat.le_of_ble_eq_true rfl) rfl rfl (fun x60 => ?_)
          refine s_iconst (pc := 63) (v := 2) dX11_unlike_63 rfl ?_
          refine s_icmp_ne (pc := 64) 71 dX11_unlike_64 rfl ?_ ?_
          · refine s_iconst (pc := 67) (v := 1) dX11_unlike_67 rfl ?_
            refine s_goto (pc := 68) 72 dX11_unlike_68 rfl ?_
            refine s_iadd (pc := 72) dX11_unlike_72 ?_
            refine s_letI (fun u2_73 => ?_)
            refine s_istore_n (pc := 73) [(2, .int u2_73), (0, .ref (gA G 1)), (1, .int v1), (3, .int v3)] dX11_unlike_73 rfl (Nat.le_of_ble_eq_true rfl) rfl ?_
            refine s_iinc (pc := 74) 3 1 [(3, .int (v3 + 1)), (2, .int u2_73), (0, .ref (gA G 1)), (1, .int v1)] dX11_unlike_74 rfl rfl (Nat.le_of_ble_eq_true rfl) rfl ?_
            refine s_goto (pc := 77) 29 dX11_unlike_77 rfl ?_
            refine s_sub [2, 3, 1, 0] rfl ?_
            exact ih u2_73 (v3 + 1) P
          · refine s_iconst (pc := 71) (v := 0) dX11_unlike_71 rfl ?_
            refine s_iadd (pc := 72) dX11_unlike_72 ?_
            refine s_letI (fun u2_73 => ?_)
            refine s_istore_n (pc := 73) [(2, .int u2_73), (0, .ref (gA G 1)), (1, .int v1), (3, .int v3)] dX11_unlike_73 rfl (Nat.le_of_ble_eq_true rfl) rfl ?_
            refine s_iinc (pc := 74) 3 1 [(3, .int (v3 + 1)), (2, .int u2_73), (0, .ref (gA G 1)), (1, .int v1)] dX11_unlike_74 rfl rfl (Nat.le_of_ble_eq_true rfl) rfl ?_
            refine s_goto (pc := 77) 29 dX11_unlike_77 rfl ?_
            refine s_sub [2, 3, 1, 0] rfl ?_
            exact ih u2_73 (v3 + 1) P
def Mo_unlike_13   (v1 : Int32) (s0 : Int32) (P : PH) : Option (Int32 × PH) :=
  (some (sI P 1 5 s0)).bind fun (P13 : PH) =>
  if (P13.1 1 5) ≤ 0 then
    Mo_unlike_29 v1 bigN (0 : Int32) (0 : Int32) P13
  else
    some ((0 : Int32), P13)
set_option maxRecDepth 100000 in
set_option maxHeartbeats 4000000 in
theorem Mo_unlike_13_sem {G : GT} {l : Launch} (hG : GOK G l)  (v1 : Int32) (s0 : Int32) (P : PH)   : Sem G l miX11_unlike 0 0 (rn tIH) 13 [(0, .ref (gA G 1)), (1, .int v1)] [.int s0, .ref (gA G 1)] P (Mo_unlike_13 v1 s0 P) := by
  unfold Mo_unlike_13
  refine s_putI (pc := 13) dX11_unlike_13 (fp_X11_86 hG) kd_1 ?_
  refine s_letP (fun P13 => ?_)
  refine s_aload_n (pc := 16) 0 dX11_unlike_16 rfl rfl ?_
  refine s_getI (pc := 17) dX11_unlike_17 (fi_X11_86 hG) kd_1 ?_
  refine s_if_le (pc := 20) 25 dX11_unlike_20 rfl ?_ ?_
  · refine s_iconst (pc := 25) (v := 0) dX11_unlike_25 rfl ?_
    refine s_istore_n (pc := 26) [(2, .int ((0 : Int32))), (0, .ref (gA G 1)), (1, .int v1)] dX11_unlike_26 rfl (Nat.le_of_ble_eq_true rfl) rfl ?_
    refine s_iconst (pc := 27) (v := 0) dX11_unlike_27 rfl ?_
    refine s_istore_n (pc := 28) [(3, .int ((0 : Int32))), (2, .int ((0 : Int32))), (0, .ref (gA G 1)), (1, .int v1)] dX11_unlike_28 rfl (Nat.le_of_ble_eq_true rfl) rfl ?_
    refine s_sub [2, 3, 1, 0] rfl ?_
    exact Mo_unlike_29_sem hG v1 bigN (0 : Int32) (0 : Int32) P13
  · refine s_iconst (pc := 23) (v := 0) dX11_unlike_23 rfl ?_
    exact s_iret (pc := 24) dX11_unlike_24 rfl rfl
def Mo_unlike  (v1 : Int32) (P : PH) : Option (Int32 × PH) :=
  (Mo_isHole v1 P).bind fun (x2 : Int32) =>
  if x2 = 0 then
    Mo_unlike_13 v1 (1 : Int32) P
  else
    Mo_unlike_13 v1 (0 : Int32) P
set_option maxRecDepth 100000 in
set_option maxHeartbeats 4000000 in
theorem Mo_unlike_ok {G : GT} {l : Launch} (hG : GOK G l)  (v1 : Int32) (P : PH) : OkN G l yX11_unlike miX11_unlike 0 0 tIH [.ref (gA G 1), .int v1] P (Mo_unlike v1 P) := by
  refine okN_of hG _ [(0, .ref (gA G 1)), (1, .int v1)] rfl rfl rfl (Nat.le_of_ble_eq_true rfl) rfl ?_
  unfold Mo_unlike
  refine s_aload_n (pc := 0) 0 dX11_unlike_0 rfl rfl ?_
  refine s_iload_n (pc := 1) 1 dX11_unlike_1 rfl rfl ?_
  refine s_callS (k := 0) (n := 0) (pc := 2) [.int v1] (fun x2 => .int x2 :: [.ref (gA G 1)]) (fun _ => P) dX11_unlike_2 (cS_X11_273 hG) (Nat.le_of_ble_eq_true rfl) rfl (Mo_isHole_ok hG v1 P) rfl (fun _ => rfl) (fun _ => rfl) (Nat.le_of_ble_eq_true rfl) rfl rfl (fun x2 => ?_)
  refine s_if_eq (pc := 5) 12 dX11_unlike_5 rfl ?_ ?_
  · refine s_iconst (pc := 12) (v := 1) dX11_unlike_12 rfl ?_
    exact Mo_unlike_13_sem hG v1 (1 : Int32) P
  · refine s_iconst (pc := 8) (v := 0) dX11_unlike_8 rfl ?_
    refine s_goto (pc := 9) 13 dX11_unlike_9 rfl ?_
    exact Mo_unlike_13_sem hG v1 (0 : Int32) P
def Mo_tray_69   (v1 : Int32)  : Nat → Int32 → PH → Option (PH)
  | 0 => fun _ _ => none
  | n + 1 => fun v4 P =>
    if (40 : Int32) ≤ v4 then
      some P
    else
      gdI (((40 : Int32) * v1) + v4) 160 <|
      (some (sL P 110 (((40 : Int32) * v1) + v4).toNatClampNeg (0 : Int64))).bind fun (P88 : PH) =>
      Mo_tray_69 v1 n (v4 + 1) P88
set_option maxRecDepth 100000 in
set_option maxHeartbeats 4000000 in
theorem Mo_tray_69_sem {G : GT} {l : Launch} (hG : GOK G l)  (v1 : Int32)    : ∀ (n : Nat) (v4 : Int32) (P : PH), Sem G l miX11_tray 0 0 (rn tVH) 69 [(0, .ref (gA G 1)), (1, .int v1), (4, .int v4)] [] P (Mo_tray_69 v1 n v4 P) := by
  intro n
  induction n with
  | zero => intro v4 P; exact s_none rfl
  | succ n ih =>
    intro v4 P
    rw [Mo_tray_69]
    refine s_iload (pc := 69) 2 dX11_tray_69 rfl ?_
    refine s_bipush (pc := 71) (v := 40) dX11_tray_71 rfl ?_
    refine s_icmp_ge (pc := 73) 95 dX11_tray_73 rfl ?_ ?_
    · exact s_vret (pc := 95) dX11_tray_95 rfl rfl
    · refine s_aload_n (pc := 76) 0 dX11_tray_76 rfl rfl ?_
      refine s_getR (pc := 77) 110 dX11_tray_77 (fi_X11_82 hG) kd_1 rfl ?_
      refine s_bipush (pc := 80) (v := 40) dX11_tray_80 rfl ?_
      refine s_iload_n (pc := 82) 1 dX11_tray_82 rfl rfl ?_
      refine s_imul (pc := 83) dX11_tray_83 ?_
      refine s_iload (pc := 84) 2 dX11_tray_84 rfl ?_
      refine s_iadd (pc := 86) dX11_tray_86 ?_
      refine s_lconst (pc := 87) (v := 0) dX11_tray_87 rfl ?_
      refine s_last (pc := 88) 160 dX11_tray_88 kd_110 ln_110 ?_
      refine s_letP (fun P88 => ?_)
      refine s_iinc (pc := 89) 2 1 [(4, .int (v4 + 1)), (0, .ref (gA G 1)), (1, .int v1)] dX11_tray_89 rfl rfl (Nat.le_of_ble_eq_true rfl) rfl ?_
      refine s_goto (pc := 92) 69 dX11_tray_92 rfl ?_
      refine s_sub [1, 2, 0] rfl ?_
      exact ih (v4 + 1) P88
def Mo_tray_41   (v1 : Int32) (v2 : Int32) (v3 : Int32) (s0 : Int32) (P : PH) : Option (PH) :=
  (some (sI P 1 5 s0)).bind fun (P41 : PH) =>
  if (P41.1 1 5) ≤ 0 then
    gdI v1 4 <|
    (some (sI P41 108 v1.toNatClampNeg v2)).bind fun (P58 : PH) =>
    gdI v1 4 <|
    (some (sI P58 109 v1.toNatClampNeg v3)).bind fun (P65 : PH) =>
    Mo_tray_69 v1 bigN (0 : Int32) P65
  else
    some P41
set_option maxRecDepth 100000 in
set_option maxHeartbeats 4000000 in
theorem Mo_tray_41_sem {G : GT} {l : Launch} (hG : GOK G l)  (v1 : Int32) (v2 : Int32) (v3 : Int32) (s0 : Int32) (P : PH)   : Sem G l miX11_tray 0 0 (rn tVH) 41 [(0, .ref (gA G 1)), (1, .int v1), (2, .int v2), (3, .int v3)] [.int s0, .ref (gA G 1)] P (Mo_tray_41 v1 v2 v3 s0 P) := by
  unfold Mo_tray_41
  refine s_putI (pc := 41) dX11_tray_41 (fp_X11_86 hG) kd_1 ?_
  refine s_letP (fun P41 => ?_)
  refine s_aload_n (pc := 44) 0 dX11_tray_44 rfl rfl ?_
  refine s_getI (pc := 45) dX11_tray_45 (fi_X11_86 hG) kd_1 ?_
  refine s_if_le (pc := 48) 52 dX11_tray_48 rfl ?_ ?_
  · refine s_aload_n (pc := 52) 0 dX11_tray_52 rfl rfl ?_
    refine s_getR (pc := 53) 108 dX11_tray_53 (fi_X11_76 hG) kd_1 rfl ?_
    refine s_iload_n (pc := 56) 1 dX11_tray_56 rfl rfl ?_
    refine s_iload_n (pc := 57) 2 dX11_tray_57 rfl rfl ?_
    refine s_iast (pc := 58) 4 dX11_tray_58 kd_108 ln_108 ?_
    refine s_letP (fun P58 => ?_)
    refine s_aload_n (pc := 59) 0 dX11_tray_59 rfl rfl ?_
    refine s_getR (pc := 60) 109 dX11_tray_60 (fi_X11_79 hG) kd_1 rfl ?_
    refine s_iload_n (pc := 63) 1 dX11_tray_63 rfl rfl ?_
    refine s_iload_n (pc := 64) 3 dX11_tray_64 rfl rfl ?_
    refine s_iast (pc := 65) 4 dX11_tray_65 kd_109 ln_109 ?_
    refine s_letP (fun P65 => ?_)
    refine s_iconst (pc := 66) (v := 0) dX11_tray_66 rfl ?_
    refine s_istore (pc := 67) [(4, .int ((0 : Int32))), (0, .ref (gA G 1)), (1, .int v1), (2, .int v2), (3, .int v3)] dX11_tray_67 (Nat.le_of_ble_eq_true rfl) rfl ?_
    refine s_sub [1, 2, 0] rfl ?_
    exact Mo_tray_69_sem hG v1 bigN (0 : Int32) P65
  · exact s_vret (pc := 51) dX11_tray_51 rfl rfl
def Mo_tray  (v1 : Int32) (v2 : Int32) (v3 : Int32) (P : PH) : Option (PH) :=
  (Mo_isTray v1 P).bind fun (x2 : Int32) =>
  if x2 = 0 then
    Mo_tray_41 v1 v2 v3 (1 : Int32) P
  else
    (Mo_within v2.toInt64 (0 : Int64) (3 : Int64) P).bind fun (x18 : Int32) =>
    if x18 = 0 then
      Mo_tray_41 v1 v2 v3 (2 : Int32) P
    else
      (Mo_within v3.toInt64 (0 : Int64) (40 : Int64) P).bind fun (x30 : Int32) =>
      if x30 = 0 then
        Mo_tray_41 v1 v2 v3 (2 : Int32) P
      else
        Mo_tray_41 v1 v2 v3 (0 : Int32) P
set_option maxRecDepth 100000 in
set_option maxHeartbeats 4000000 in
theorem Mo_tray_ok {G : GT} {l : Launch} (hG : GOK G l)  (v1 : Int32) (v2 : Int32) (v3 : Int32) (P : PH) : OkN G l yX11_tray miX11_tray 0 0 tVH [.ref (gA G 1), .int v1, .int v2, .int v3] P (Mo_tray v1 v2 v3 P) := by
  refine okN_of hG _ [(0, .ref (gA G 1)), (1, .int v1), (2, .int v2), (3, .int v3)] rfl rfl rfl (Nat.le_of_ble_eq_true rfl) rfl ?_
  unfold Mo_tray
  refine s_aload_n (pc := 0) 0 dX11_tray_0 rfl rfl ?_
  refine s_iload_n (pc := 1) 1 dX11_tray_1 rfl rfl ?_
  refine s_callS (k := 0) (n := 0) (pc := 2) [.int v1] (fun x2 => .int x2 :: [.ref (gA G 1)]) (fun _ => P) dX11_tray_2 (cS_X11_356 hG) (Nat.le_of_ble_eq_true rfl) rfl (Mo_isTray_ok hG v1 P) rfl (fun _ => rfl) (fun _ => rfl) (Nat.le_of_ble_eq_true rfl) rfl rfl (fun x2 => ?_)
  refine s_if_ne (pc := 5) 12 dX11_tray_5 rfl ?_ ?_
  · refine s_iconst (pc := 8) (v := 1) dX11_tray_8 rfl ?_
    refine s_goto (pc := 9) 41 dX11_tray_9 rfl ?_
    exact Mo_tray_41_sem hG v1 v2 v3 (1 : Int32) P
  · refine s_iload_n (pc := 12) 2 dX11_tray_12 rfl rfl ?_
    refine s_i2l (pc := 13) dX11_tray_13 ?_
    refine s_lconst (pc := 14) (v := 0) dX11_tray_14 rfl ?_
    refine s_ldc2 (pc := 15) (v := 3) dX11_tray_15 (gw_X11_106 hG) ?_
    refine s_callS (k := 0) (n := 0) (pc := 18) [.long (v2.toInt64), .long ((0 : Int64)), .long ((3 : Int64))] (fun x18 => .int x18 :: [.ref (gA G 1)]) (fun _ => P) dX11_tray_18 (cS_X11_98 hG) (Nat.le_of_ble_eq_true rfl) rfl (Mo_within_ok hG v2.toInt64 (0 : Int64) (3 : Int64) P) rfl (fun _ => rfl) (fun _ => rfl) (Nat.le_of_ble_eq_true rfl) rfl rfl (fun x18 => ?_)
    refine s_if_eq (pc := 21) 36 dX11_tray_21 rfl ?_ ?_
    · refine s_iconst (pc := 36) (v := 2) dX11_tray_36 rfl ?_
      refine s_goto (pc := 37) 41 dX11_tray_37 rfl ?_
      exact Mo_tray_41_sem hG v1 v2 v3 (2 : Int32) P
    · refine s_iload_n (pc := 24) 3 dX11_tray_24 rfl rfl ?_
      refine s_i2l (pc := 25) dX11_tray_25 ?_
      refine s_lconst (pc := 26) (v := 0) dX11_tray_26 rfl ?_
      refine s_ldc2 (pc := 27) (v := 40) dX11_tray_27 (gw_X11_427 hG) ?_
      refine s_callS (k := 0) (n := 0) (pc := 30) [.long (v3.toInt64), .long ((0 : Int64)), .long ((40 : Int64))] (fun x30 => .int x30 :: [.ref (gA G 1)]) (fun _ => P) dX11_tray_30 (cS_X11_98 hG) (Nat.le_of_ble_eq_true rfl) rfl (Mo_within_ok hG v3.toInt64 (0 : Int64) (40 : Int64) P) rfl (fun _ => rfl) (fun _ => rfl) (Nat.le_of_ble_eq_true rfl) rfl rfl (fun x30 => ?_)
      refine s_if_ne (pc := 33) 40 dX11_tray_33 rfl ?_ ?_
      · refine s_iconst (pc := 36) (v := 2) dX11_tray_36 rfl ?_
        refine s_goto (pc := 37) 41 dX11_tray_37 rfl ?_
        exact Mo_tray_41_sem hG v1 v2 v3 (2 : Int32) P
      · refine s_iconst (pc := 40) (v := 0) dX11_tray_40 rfl ?_
        exact Mo_tray_41_sem hG v1 v2 v3 (0 : Int32) P
def Mo_write  (v1 : Int32) (v2 : Int32) (v3 : Int64) (P : PH) : Option (Int64 × PH) :=
  (some (sI P 1 5 (0 : Int32))).bind fun (P2 : PH) =>
  (Mo_isTray v1 P2).bind fun (x6 : Int32) =>
  if x6 = 0 then
    (Mo_fails (1 : Int32) P2).bind fun (x14 : Int32 × PH) =>
    some ((x14.1).toInt64, x14.2)
  else
    gdI v1 4 <|
    if (P2.1 108 v1.toNatClampNeg) = (-1 : Int32) then
      (Mo_fails (2 : Int32) P2).bind fun (x31 : Int32 × PH) =>
      some ((x31.1).toInt64, x31.2)
    else
      gdI v1 4 <|
      (Mo_within v2.toInt64 (0 : Int64) (((P2.1 109 v1.toNatClampNeg) - (1 : Int32)).toInt64) P2).bind fun (x48 : Int32) =>
      if x48 = 0 then
        (Mo_fails (3 : Int32) P2).bind fun (x56 : Int32 × PH) =>
        some ((x56.1).toInt64, x56.2)
      else
        gdI v1 4 <|
        (some ((64 : Int32) - ((8 : Int32) <<< ((P2.1 108 v1.toNatClampNeg) &&& 31)))).bind fun (u5_73 : Int32) =>
        gdI (((40 : Int32) * v1) + v2) 160 <|
        (some (sL P2 110 (((40 : Int32) * v1) + v2).toNatClampNeg ((v3 <<< (u5_73.toInt64 &&& 63)) >>> (u5_73.toInt64 &&& 63)))).bind fun (P92 : PH) =>
        gdI (((40 : Int32) * v1) + v2) 160 <|
        some (P92.2 110 (((40 : Int32) * v1) + v2).toNatClampNeg, P92)
set_option maxRecDepth 100000 in
set_option maxHeartbeats 4000000 in
theorem Mo_write_ok {G : GT} {l : Launch} (hG : GOK G l)  (v1 : Int32) (v2 : Int32) (v3 : Int64) (P : PH) : OkN G l yX11_write miX11_write 0 0 tLH [.ref (gA G 1), .int v1, .int v2, .long v3] P (Mo_write v1 v2 v3 P) := by
  refine okN_of hG _ [(0, .ref (gA G 1)), (1, .int v1), (2, .int v2), (3, .long v3)] rfl rfl rfl (Nat.le_of_ble_eq_true rfl) rfl ?_
  unfold Mo_write
  refine s_aload_n (pc := 0) 0 dX11_write_0 rfl rfl ?_
  refine s_iconst (pc := 1) (v := 0) dX11_write_1 rfl ?_
  refine s_putI (pc := 2) dX11_write_2 (fp_X11_86 hG) kd_1 ?_
  refine s_letP (fun P2 => ?_)
  refine s_iload_n (pc := 5) 1 dX11_write_5 rfl rfl ?_
  refine s_callS (k := 0) (n := 0) (pc := 6) [.int v1] (fun x6 => .int x6 :: []) (fun _ => P2) dX11_write_6 (cS_X11_356 hG) (Nat.le_of_ble_eq_true rfl) rfl (Mo_isTray_ok hG v1 P2) rfl (fun _ => rfl) (fun _ => rfl) (Nat.le_of_ble_eq_true rfl) rfl rfl (fun x6 => ?_)
  refine s_if_ne (pc := 9) 19 dX11_write_9 rfl ?_ ?_
  · refine s_aload_n (pc := 12) 0 dX11_write_12 rfl rfl ?_
    refine s_iconst (pc := 13) (v := 1) dX11_write_13 rfl ?_
    refine s_callV (k := 0) (n := 0) (pc := 14) [.int ((1 : Int32))] (fun x14 => .int (x14.1) :: []) (fun x14 => x14.2) dX11_write_14 (cV_X11_245 hG) (Nat.le_of_ble_eq_true rfl) rfl kd_1 (Mo_fails_ok hG (1 : Int32) P2) rfl (fun _ => rfl) (fun _ => rfl) (Nat.le_of_ble_eq_true rfl) rfl rfl (fun x14 => ?_)
    refine s_i2l (pc := 17) dX11_write_17 ?_
    exact s_lret (pc := 18) dX11_write_18 rfl rfl
  · refine s_aload_n (pc := 19) 0 dX11_write_19 rfl rfl ?_
    refine s_getR (pc := 20) 108 dX11_write_20 (fi_X11_76 hG) kd_1 rfl ?_
    refine s_iload_n (pc := 23) 1 dX11_write_23 rfl rfl ?_
    refine s_iald (pc := 24) 4 dX11_write_24 kd_108 ln_108 ?_
    refine s_iconst (pc := 25) (v := -1) dX11_write_25 rfl ?_
    refine s_icmp_ne (pc := 26) 36 dX11_write_26 rfl ?_ ?_
    · refine s_aload_n (pc := 29) 0 dX11_write_29 rfl rfl ?_
      refine s_iconst (pc := 30) (v := 2) dX11_write_30 rfl ?_
      refine s_callV (k := 0) (n := 0) (pc := 31) [.int ((2 : Int32))] (fun x31 => .int (x31.1) :: []) (fun x31 => x31.2) dX11_write_31 (cV_X11_245 hG) (Nat.le_of_ble_eq_true rfl) rfl kd_1 (Mo_fails_ok hG (2 : Int32) P2) rfl (fun _ => rfl) (fun _ => rfl) (Nat.le_of_ble_eq_true rfl) rfl rfl (fun x31 => ?_)
      refine s_i2l (pc := 34) dX11_write_34 ?_
      exact s_lret (pc := 35) dX11_write_35 rfl rfl
    · refine s_iload_n (pc := 36) 2 dX11_write_36 rfl rfl ?_
      refine s_i2l (pc := 37) dX11_write_37 ?_
      refine s_lconst (pc := 38) (v := 0) dX11_write_38 rfl ?_
      refine s_aload_n (pc := 39) 0 dX11_write_39 rfl rfl ?_
      refine s_getR (pc := 40) 109 dX11_write_40 (fi_X11_79 hG) kd_1 rfl ?_
      refine s_iload_n (pc := 43) 1 dX11_write_43 rfl rfl ?_
      refine s_iald (pc := 44) 4 dX11_write_44 kd_109 ln_109 ?_
      refine s_iconst (pc := 45) (v := 1) dX11_write_45 rfl ?_
      refine s_isub (pc := 46) dX11_write_46 ?_
      refine s_i2l (pc := 47) dX11_write_47 ?_
      refine s_callS (k := 0) (n := 0) (pc := 48) [.long (v2.toInt64), .long ((0 : Int64)), .long (((P2.1 109 v1.toNatClampNeg) - (1 : Int32)).toInt64)] (fun x48 => .int x48 :: []) (fun _ => P2) dX11_write_48 (cS_X11_98 hG) (Nat.le_of_ble_eq_true rfl) rfl (Mo_within_ok hG v2.toInt64 (0 : Int64) (((P2.1 109 v1.toNatClampNeg) - (1 : Int32)).toInt64) P2) rfl (fun _ => rfl) (fun _ => rfl) (Nat.le_of_ble_eq_true rfl) rfl rfl (fun x48 => ?_)
      refine s_if_ne (pc := 51) 61 dX11_write_51 rfl ?_ ?_
      · refine s_aload_n (pc := 54) 0 dX11_write_54 rfl rfl ?_
        refine s_iconst (pc := 55) (v := 3) dX11_write_55 rfl ?_
        refine s_callV (k := 0) (n := 0) (pc := 56) [.int ((3 : Int32))] (fun x56 => .int (x56.1) :: []) (fun x56 => x56.2) dX11_write_56 (cV_X11_245 hG) (Nat.le_of_ble_eq_true rfl) rfl kd_1 (Mo_fails_ok hG (3 : Int32) P2) rfl (fun _ => rfl) (fun _ => rfl) (Nat.le_of_ble_eq_true rfl) rfl rfl (fun x56 => ?_)
        refine s_i2l (pc := 59) dX11_write_59 ?_
        exact s_lret (pc := 60) dX11_write_60 rfl rfl
      · refine s_bipush (pc := 61) (v := 64) dX11_write_61 rfl ?_
        refine s_bipush (pc := 63) (v := 8) dX11_write_63 rfl ?_
        refine s_aload_n (pc := 65) 0 dX11_write_65 rfl rfl ?_
        refine s_getR (pc := 66) 108 dX11_write_66 (fi_X11_76 hG) kd_1 rfl ?_
        refine s_iload_n (pc := 69) 1 dX11_write_69 rfl rfl ?_
        refine s_iald (pc := 70) 4 dX11_write_70 kd_108 ln_108 ?_
        refine s_ishl (pc := 71) dX11_write_71 ?_
        refine s_isub (pc := 72) dX11_write_72 ?_
        refine s_letI (fun u5_73 => ?_)
        refine s_istore (pc := 73) [(5, .int u5_73), (0, .ref (gA G 1)), (1, .int v1), (2, .int v2), (3, .long v3)] dX11_write_73 (Nat.le_of_ble_eq_true rfl) rfl ?_
        refine s_aload_n (pc := 75) 1 dX11_write_75 rfl rfl ?_
        refine s_getR (pc := 76) 110 dX11_write_76 (fi_X11_82 hG) kd_1 rfl ?_
        refine s_bipush (pc := 79) (v := 40) dX11_write_79 rfl ?_
        refine s_iload_n (pc := 81) 2 dX11_write_81 rfl rfl ?_
        refine s_imul (pc := 82) dX11_write_82 ?_
        refine s_iload_n (pc := 83) 3 dX11_write_83 rfl rfl ?_
        refine s_iadd (pc := 84) dX11_write_84 ?_
        refine s_lload_n (pc := 85) 4 dX11_write_85 rfl rfl ?_
        refine s_iload (pc := 86) 0 dX11_write_86 rfl ?_
        refine s_lshl (pc := 88) dX11_write_88 ?_
        refine s_iload (pc := 89) 0 dX11_write_89 rfl ?_
        refine s_lshr (pc := 91) dX11_write_91 ?_
        refine s_last (pc := 92) 160 dX11_write_92 kd_110 ln_110 ?_
        refine s_letP (fun P92 => ?_)
        refine s_aload_n (pc := 93) 1 dX11_write_93 rfl rfl ?_
        refine s_getR (pc := 94) 110 dX11_write_94 (fi_X11_82 hG) kd_1 rfl ?_
        refine s_bipush (pc := 97) (v := 40) dX11_write_97 rfl ?_
        refine s_iload_n (pc := 99) 2 dX11_write_99 rfl rfl ?_
        refine s_imul (pc := 100) dX11_write_100 ?_
        refine s_iload_n (pc := 101) 3 dX11_write_101 rfl rfl ?_
        refine s_iadd (pc := 102) dX11_write_102 ?_
        refine s_lald (pc := 103) 160 dX11_write_103 kd_110 ln_110 ?_
        exact s_lret (pc := 104) dX11_write_104 rfl rfl
def Mo_image_38   (v1 : Int32)  : Nat → Int32 → PH → Option (PH)
  | 0 => fun _ _ => none
  | n + 1 => fun v2 P =>
    if (512 : Int32) ≤ v2 then
      some P
    else
      gdI v2 512 <|
      gdI (((512 : Int32) * v1) + v2) 1536 <|
      (some (sI P 90 (((512 : Int32) * v1) + v2).toNatClampNeg (P.1 88 v2.toNatClampNeg))).bind fun (P62 : PH) =>
      Mo_image_38 v1 n (v2 + 1) P62
set_option maxRecDepth 100000 in
set_option maxHeartbeats 4000000 in
theorem Mo_image_38_sem {G : GT} {l : Launch} (hG : GOK G l)  (v1 : Int32)    : ∀ (n : Nat) (v2 : Int32) (P : PH), Sem G l miX11_image 0 0 (rn tVH) 38 [(0, .ref (gA G 1)), (1, .int v1), (2, .int v2)] [] P (Mo_image_38 v1 n v2 P) := by
  intro n
  induction n with
  | zero => intro v2 P; exact s_none rfl
  | succ n ih =>
    intro v2 P
    rw [Mo_image_38]
    refine s_iload_n (pc := 38) 2 dX11_image_38 rfl rfl ?_
    refine s_sipush (pc := 39) (v := 512) dX11_image_39 rfl ?_
    refine s_icmp_ge (pc := 42) 69 dX11_image_42 rfl ?_ ?_
    · exact s_vret (pc := 69) dX11_image_69 rfl rfl
    · refine s_aload_n (pc := 45) 0 dX11_image_45 rfl rfl ?_
      refine s_getR (pc := 46) 90 dX11_image_46 (fi_X11_16 hG) kd_1 rfl ?_
      refine s_sipush (pc := 49) (v := 512) dX11_image_49 rfl ?_
      refine s_iload_n (pc := 52) 1 dX11_image_52 rfl rfl ?_
      refine s_imul (pc := 53) dX11_image_53 ?_
      refine s_iload_n (pc := 54) 2 dX11_image_54 rfl rfl ?_
      refine s_iadd (pc := 55) dX11_image_55 ?_
      refine s_aload_n (pc := 56) 0 dX11_image_56 rfl rfl ?_
      refine s_getR (pc := 57) 88 dX11_image_57 (fi_X11_9 hG) kd_1 rfl ?_
      refine s_iload_n (pc := 60) 2 dX11_image_60 rfl rfl ?_
      refine s_iald (pc := 61) 512 dX11_image_61 kd_88 ln_88 ?_
      refine s_iast (pc := 62) 1536 dX11_image_62 kd_90 ln_90 ?_
      refine s_letP (fun P62 => ?_)
      refine s_iinc (pc := 63) 2 1 [(2, .int (v2 + 1)), (0, .ref (gA G 1)), (1, .int v1)] dX11_image_63 rfl rfl (Nat.le_of_ble_eq_true rfl) rfl ?_
      refine s_goto (pc := 66) 38 dX11_image_66 rfl ?_
      refine s_sub [1, 2, 0] rfl ?_
      exact ih (v2 + 1) P62
def Mo_image_18   (v1 : Int32) (s0 : Int32) (P : PH) : Option (PH) :=
  (some (sI P 1 5 s0)).bind fun (P18 : PH) =>
  if (P18.1 1 5) ≤ 0 then
    gdI v1 3 <|
    (some (sI P18 92 v1.toNatClampNeg (vp_nar .boolean (1 : Int32)))).bind fun (P35 : PH) =>
    Mo_image_38 v1 bigN (0 : Int32) P35
  else
    some P18
set_option maxRecDepth 100000 in
set_option maxHeartbeats 4000000 in
theorem Mo_image_18_sem {G : GT} {l : Launch} (hG : GOK G l)  (v1 : Int32) (s0 : Int32) (P : PH)   : Sem G l miX11_image 0 0 (rn tVH) 18 [(0, .ref (gA G 1)), (1, .int v1)] [.int s0, .ref (gA G 1)] P (Mo_image_18 v1 s0 P) := by
  unfold Mo_image_18
  refine s_putI (pc := 18) dX11_image_18 (fp_X11_86 hG) kd_1 ?_
  refine s_letP (fun P18 => ?_)
  refine s_aload_n (pc := 21) 0 dX11_image_21 rfl rfl ?_
  refine s_getI (pc := 22) dX11_image_22 (fi_X11_86 hG) kd_1 ?_
  refine s_if_le (pc := 25) 29 dX11_image_25 rfl ?_ ?_
  · refine s_aload_n (pc := 29) 0 dX11_image_29 rfl rfl ?_
    refine s_getR (pc := 30) 92 dX11_image_30 (fi_X11_22 hG) kd_1 rfl ?_
    refine s_iload_n (pc := 33) 1 dX11_image_33 rfl rfl ?_
    refine s_iconst (pc := 34) (v := 1) dX11_image_34 rfl ?_
    refine s_zast (pc := 35) 3 dX11_image_35 kd_92 ln_92 ?_
    refine s_letP (fun P35 => ?_)
    refine s_iconst (pc := 36) (v := 0) dX11_image_36 rfl ?_
    refine s_istore_n (pc := 37) [(2, .int ((0 : Int32))), (0, .ref (gA G 1)), (1, .int v1)] dX11_image_37 rfl (Nat.le_of_ble_eq_true rfl) rfl ?_
    refine s_sub [1, 2, 0] rfl ?_
    exact Mo_image_38_sem hG v1 bigN (0 : Int32) P35
  · exact s_vret (pc := 28) dX11_image_28 rfl rfl
def Mo_image  (v1 : Int32) (P : PH) : Option (PH) :=
  (Mo_within v1.toInt64 (0 : Int64) (2 : Int64) P).bind fun (x7 : Int32) =>
  if x7 = 0 then
    Mo_image_18 v1 (1 : Int32) P
  else
    Mo_image_18 v1 (0 : Int32) P
set_option maxRecDepth 100000 in
set_option maxHeartbeats 4000000 in
theorem Mo_image_ok {G : GT} {l : Launch} (hG : GOK G l)  (v1 : Int32) (P : PH) : OkN G l yX11_image miX11_image 0 0 tVH [.ref (gA G 1), .int v1] P (Mo_image v1 P) := by
  refine okN_of hG _ [(0, .ref (gA G 1)), (1, .int v1)] rfl rfl rfl (Nat.le_of_ble_eq_true rfl) rfl ?_
  unfold Mo_image
  refine s_aload_n (pc := 0) 0 dX11_image_0 rfl rfl ?_
  refine s_iload_n (pc := 1) 1 dX11_image_1 rfl rfl ?_
  refine s_i2l (pc := 2) dX11_image_2 ?_
  refine s_lconst (pc := 3) (v := 0) dX11_image_3 rfl ?_
  refine s_ldc2 (pc := 4) (v := 2) dX11_image_4 (gw_X11_393 hG) ?_
  refine s_callS (k := 0) (n := 0) (pc := 7) [.long (v1.toInt64), .long ((0 : Int64)), .long ((2 : Int64))] (fun x7 => .int x7 :: [.ref (gA G 1)]) (fun _ => P) dX11_image_7 (cS_X11_98 hG) (Nat.le_of_ble_eq_true rfl) rfl (Mo_within_ok hG v1.toInt64 (0 : Int64) (2 : Int64) P) rfl (fun _ => rfl) (fun _ => rfl) (Nat.le_of_ble_eq_true rfl) rfl rfl (fun x7 => ?_)
  refine s_if_eq (pc := 10) 17 dX11_image_10 rfl ?_ ?_
  · refine s_iconst (pc := 17) (v := 1) dX11_image_17 rfl ?_
    exact Mo_image_18_sem hG v1 (1 : Int32) P
  · refine s_iconst (pc := 13) (v := 0) dX11_image_13 rfl ?_
    refine s_goto (pc := 14) 18 dX11_image_14 rfl ?_
    exact Mo_image_18_sem hG v1 (0 : Int32) P
def Mo_restore_44   (v1 : Int32)  : Nat → Int32 → PH → Option (PH)
  | 0 => fun _ _ => none
  | n + 1 => fun v2 P =>
    if (512 : Int32) ≤ v2 then
      some P
    else
      gdI (((512 : Int32) * v1) + v2) 1536 <|
      gdI v2 512 <|
      (some (sI P 88 v2.toNatClampNeg (P.1 90 (((512 : Int32) * v1) + v2).toNatClampNeg))).bind fun (P68 : PH) =>
      Mo_restore_44 v1 n (v2 + 1) P68
set_option maxRecDepth 100000 in
set_option maxHeartbeats 4000000 in
theorem Mo_restore_44_sem {G : GT} {l : Launch} (hG : GOK G l)  (v1 : Int32)    : ∀ (n : Nat) (v2 : Int32) (P : PH), Sem G l miX11_restore 0 0 (rn tVH) 44 [(0, .ref (gA G 1)), (1, .int v1), (2, .int v2)] [] P (Mo_restore_44 v1 n v2 P) := by
  intro n
  induction n with
  | zero => intro v2 P; exact s_none rfl
  | succ n ih =>
    intro v2 P
    rw [Mo_restore_44]
    refine s_iload_n (pc := 44) 2 dX11_restore_44 rfl rfl ?_
    refine s_sipush (pc := 45) (v := 512) dX11_restore_45 rfl ?_
    refine s_icmp_ge (pc := 48) 75 dX11_restore_48 rfl ?_ ?_
    · exact s_vret (pc := 75) dX11_restore_75 rfl rfl
    · refine s_aload_n (pc := 51) 0 dX11_restore_51 rfl rfl ?_
      refine s_getR (pc := 52) 88 dX11_restore_52 (fi_X11_9 hG) kd_1 rfl ?_
      refine s_iload_n (pc := 55) 2 dX11_restore_55 rfl rfl ?_
      refine s_aload_n (pc := 56) 0 dX11_restore_56 rfl rfl ?_
      refine s_getR (pc := 57) 90 dX11_restore_57 (fi_X11_16 hG) kd_1 rfl ?_
      refine s_sipush (pc := 60) (v := 512) dX11_restore_60 rfl ?_
      refine s_iload_n (pc := 63) 1 dX11_restore_63 rfl rfl ?_
      refine s_imul (pc := 64) dX11_restore_64 ?_
      refine s_iload_n (pc := 65) 2 dX11_restore_65 rfl rfl ?_
      refine s_iadd (pc := 66) dX11_restore_66 ?_
      refine s_iald (pc := 67) 1536 dX11_restore_67 kd_90 ln_90 ?_
      refine s_iast (pc := 68) 512 dX11_restore_68 kd_88 ln_88 ?_
      refine s_letP (fun P68 => ?_)
      refine s_iinc (pc := 69) 2 1 [(2, .int (v2 + 1)), (0, .ref (gA G 1)), (1, .int v1)] dX11_restore_69 rfl rfl (Nat.le_of_ble_eq_true rfl) rfl ?_
      refine s_goto (pc := 72) 44 dX11_restore_72 rfl ?_
      refine s_sub [1, 2, 0] rfl ?_
      exact ih (v2 + 1) P68
def Mo_restore  (v1 : Int32) (P : PH) : Option (PH) :=
  (Mo_within v1.toInt64 (0 : Int64) (2 : Int64) P).bind fun (x7 : Int32) =>
  if x7 = 0 then
    (some (sI P 1 5 (1 : Int32))).bind fun (P31 : PH) =>
    if (P31.1 1 5) ≤ 0 then
      Mo_restore_44 v1 bigN (0 : Int32) P31
    else
      some P31
  else
    gdI v1 3 <|
    if (P.1 92 v1.toNatClampNeg) = 0 then
      (some (sI P 1 5 (2 : Int32))).bind fun (P31 : PH) =>
      if (P31.1 1 5) ≤ 0 then
        Mo_restore_44 v1 bigN (0 : Int32) P31
      else
        some P31
    else
      (some (sI P 1 5 (0 : Int32))).bind fun (P31 : PH) =>
      if (P31.1 1 5) ≤ 0 then
        Mo_restore_44 v1 bigN (0 : Int32) P31
      else
        some P31
set_option maxRecDepth 100000 in
set_option maxHeartbeats 4000000 in
theorem Mo_restore_ok {G : GT} {l : Launch} (hG : GOK G l)  (v1 : Int32) (P : PH) : OkN G l yX11_restore miX11_restore 0 0 tVH [.ref (gA G 1), .int v1] P (Mo_restore v1 P) := by
  refine okN_of hG _ [(0, .ref (gA G 1)), (1, .int v1)] rfl rfl rfl (Nat.le_of_ble_eq_true rfl) rfl ?_
  unfold Mo_restore
  refine s_aload_n (pc := 0) 0 dX11_restore_0 rfl rfl ?_
  refine s_iload_n (pc := 1) 1 dX11_restore_1 rfl rfl ?_
  refine s_i2l (pc := 2) dX11_restore_2 ?_
  refine s_lconst (pc := 3) (v := 0) dX11_restore_3 rfl ?_
  refine s_ldc2 (pc := 4) (v := 2) dX11_restore_4 (gw_X11_393 hG) ?_
  refine s_callS (k := 0) (n := 0) (pc := 7) [.long (v1.toInt64), .long ((0 : Int64)), .long ((2 : Int64))] (fun x7 => .int x7 :: [.ref (gA G 1)]) (fun _ => P) dX11_restore_7 (cS_X11_98 hG) (Nat.le_of_ble_eq_true rfl) rfl (Mo_within_ok hG v1.toInt64 (0 : Int64) (2 : Int64) P) rfl (fun _ => rfl) (fun _ => rfl) (Nat.le_of_ble_eq_true rfl) rfl rfl (fun x7 => ?_)
  refine s_if_ne (pc := 10) 17 dX11_restore_10 rfl ?_ ?_
  · refine s_iconst (pc := 13) (v := 1) dX11_restore_13 rfl ?_
    refine s_goto (pc := 14) 31 dX11_restore_14 rfl ?_
    refine s_putI (pc := 31) dX11_restore_31 (fp_X11_86 hG) kd_1 ?_
    refine s_letP (fun P31 => ?_)
    refine s_aload_n (pc := 34) 0 dX11_restore_34 rfl rfl ?_
    refine s_getI (pc := 35) dX11_restore_35 (fi_X11_86 hG) kd_1 ?_
    refine s_if_le (pc := 38) 42 dX11_restore_38 rfl ?_ ?_
    · refine s_iconst (pc := 42) (v := 0) dX11_restore_42 rfl ?_
      refine s_istore_n (pc := 43) [(2, .int ((0 : Int32))), (0, .ref (gA G 1)), (1, .int v1)] dX11_restore_43 rfl (Nat.le_of_ble_eq_true rfl) rfl ?_
      refine s_sub [1, 2, 0] rfl ?_
      exact Mo_restore_44_sem hG v1 bigN (0 : Int32) P31
    · exact s_vret (pc := 41) dX11_restore_41 rfl rfl
  · refine s_aload_n (pc := 17) 0 dX11_restore_17 rfl rfl ?_
    refine s_getR (pc := 18) 92 dX11_restore_18 (fi_X11_22 hG) kd_1 rfl ?_
    refine s_iload_n (pc := 21) 1 dX11_restore_21 rfl rfl ?_
    refine s_zald (pc := 22) 3 dX11_restore_22 kd_92 ln_92 ?_
    refine s_if_ne (pc := 23) 30 dX11_restore_23 rfl ?_ ?_
    · refine s_iconst (pc := 26) (v := 2) dX11_restore_26 rfl ?_
      refine s_goto (pc := 27) 31 dX11_restore_27 rfl ?_
      refine s_putI (pc := 31) dX11_restore_31 (fp_X11_86 hG) kd_1 ?_
      refine s_letP (fun P31 => ?_)
      refine s_aload_n (pc := 34) 0 dX11_restore_34 rfl rfl ?_
      refine s_getI (pc := 35) dX11_restore_35 (fi_X11_86 hG) kd_1 ?_
      refine s_if_le (pc := 38) 42 dX11_restore_38 rfl ?_ ?_
      · refine s_iconst (pc := 42) (v := 0) dX11_restore_42 rfl ?_
        refine s_istore_n (pc := 43) [(2, .int ((0 : Int32))), (0, .ref (gA G 1)), (1, .int v1)] dX11_restore_43 rfl (Nat.le_of_ble_eq_true rfl) rfl ?_
        refine s_sub [1, 2, 0] rfl ?_
        exact Mo_restore_44_sem hG v1 bigN (0 : Int32) P31
      · exact s_vret (pc := 41) dX11_restore_41 rfl rfl
    · refine s_iconst (pc := 30) (v := 0) dX11_restore_30 rfl ?_
      refine s_putI (pc := 31) dX11_restore_31 (fp_X11_86 hG) kd_1 ?_
      refine s_letP (fun P31 => ?_)
      refine s_aload_n (pc := 34) 0 dX11_restore_34 rfl rfl ?_
      refine s_getI (pc := 35) dX11_restore_35 (fi_X11_86 hG) kd_1 ?_
      refine s_if_le (pc := 38) 42 dX11_restore_38 rfl ?_ ?_
      · refine s_iconst (pc := 42) (v := 0) dX11_restore_42 rfl ?_
        refine s_istore_n (pc := 43) [(2, .int ((0 : Int32))), (0, .ref (gA G 1)), (1, .int v1)] dX11_restore_43 rfl (Nat.le_of_ble_eq_true rfl) rfl ?_
        refine s_sub [1, 2, 0] rfl ?_
        exact Mo_restore_44_sem hG v1 bigN (0 : Int32) P31
      · exact s_vret (pc := 41) dX11_restore_41 rfl rfl
def Mo_count_42   (v1 : Int32) (v2 : Int32) (P : PH) : Option (Int32 × PH) :=
  if v1 = 0 then
    gdI (0 : Int32) 512 <|
    some (P.1 88 (0 : Int32).toNatClampNeg, P)
  else
  if v1 = 1 then
    (Mo_knots P).bind fun (x84 : Int32) =>
    some (x84, P)
  else
  if v1 = 2 then
    gdI (1 : Int32) 512 <|
    some (P.1 88 (1 : Int32).toNatClampNeg, P)
  else
  if v1 = 3 then
    some (v2, P)
  else
  if v1 = 4 then
    some (P.1 1 7, P)
  else
    some ((-1 : Int32), P)
set_option maxRecDepth 100000 in
set_option maxHeartbeats 4000000 in
theorem Mo_count_42_sem {G : GT} {l : Launch} (hG : GOK G l)  (v1 : Int32) (v2 : Int32) (P : PH)   : Sem G l miX11_count 0 0 (rn tIH) 42 [(0, .ref (gA G 1)), (1, .int v1), (2, .int v2)] [] P (Mo_count_42 v1 v2 P) := by
  unfold Mo_count_42
  refine s_iload_n (pc := 42) 1 dX11_count_42 rfl rfl ?_
  refine s_sw (fun hx0 => ?_) (fun hx0 => ?_)
  · refine s_tin (pc := 43) 76 dX11_count_43 (by rw [hx0]; decide) (by rw [hx0]; decide) (by rw [hx0]; rfl) rfl ?_
    refine s_aload_n (pc := 76) 0 dX11_count_76 rfl rfl ?_
    refine s_getR (pc := 77) 88 dX11_count_77 (fi_X11_9 hG) kd_1 rfl ?_
    refine s_iconst (pc := 80) (v := 0) dX11_count_80 rfl ?_
    refine s_iald (pc := 81) 512 dX11_count_81 kd_88 ln_88 ?_
    exact s_iret (pc := 82) dX11_count_82 rfl rfl
  refine s_sw (fun hx1 => ?_) (fun hx1 => ?_)
  · refine s_tin (pc := 43) 83 dX11_count_43 (by rw [hx1]; decide) (by rw [hx1]; decide) (by rw [hx1]; rfl) rfl ?_
    refine s_aload_n (pc := 83) 0 dX11_count_83 rfl rfl ?_
    refine s_callV (k := 0) (n := 0) (pc := 84) [] (fun x84 => .int x84 :: []) (fun _ => P) dX11_count_84 (cV_X11_404 hG) (Nat.le_of_ble_eq_true rfl) rfl kd_1 (Mo_knots_ok hG P) rfl (fun _ => rfl) (fun _ => rfl) (Nat.le_of_ble_eq_true rfl) rfl rfl (fun x84 => ?_)
    exact s_iret (pc := 87) dX11_count_87 rfl rfl
  refine s_sw (fun hx2 => ?_) (fun hx2 => ?_)
  · refine s_tin (pc := 43) 88 dX11_count_43 (by rw [hx2]; decide) (by rw [hx2]; decide) (by rw [hx2]; rfl) rfl ?_
    refine s_aload_n (pc := 88) 0 dX11_count_88 rfl rfl ?_
    refine s_getR (pc := 89) 88 dX11_count_89 (fi_X11_9 hG) kd_1 rfl ?_
    refine s_iconst (pc := 92) (v := 1) dX11_count_92 rfl ?_
    refine s_iald (pc := 93) 512 dX11_count_93 kd_88 ln_88 ?_
    exact s_iret (pc := 94) dX11_count_94 rfl rfl
  refine s_sw (fun hx3 => ?_) (fun hx3 => ?_)
  · refine s_tin (pc := 43) 95 dX11_count_43 (by rw [hx3]; decide) (by rw [hx3]; decide) (by rw [hx3]; rfl) rfl ?_
    refine s_iload_n (pc := 95) 2 dX11_count_95 rfl rfl ?_
    exact s_iret (pc := 96) dX11_count_96 rfl rfl
  refine s_sw (fun hx4 => ?_) (fun hx4 => ?_)
  · refine s_tin (pc := 43) 97 dX11_count_43 (by rw [hx4]; decide) (by rw [hx4]; decide) (by rw [hx4]; rfl) rfl ?_
    refine s_aload_n (pc := 97) 0 dX11_count_97 rfl rfl ?_
    refine s_getI (pc := 98) dX11_count_98 (fi_X11_116 hG) kd_1 ?_
    exact s_iret (pc := 101) dX11_count_101 rfl rfl
  refine s_tout (pc := 43) 102 dX11_count_43 (Classical.byContradiction fun hq => ?_) rfl ?_
  · have h9 : Int32.toInt v1 = 0 ∨ Int32.toInt v1 = 1 ∨ Int32.toInt v1 = 2 ∨ Int32.toInt v1 = 3 ∨ Int32.toInt v1 = 4 := by omega
    rcases h9 with h9 | h9 | h9 | h9 | h9
    · exact hx0 (Int32.toInt_inj.mp h9)
    · exact hx1 (Int32.toInt_inj.mp h9)
    · exact hx2 (Int32.toInt_inj.mp h9)
    · exact hx3 (Int32.toInt_inj.mp h9)
    · exact hx4 (Int32.toInt_inj.mp h9)
  · refine s_iconst (pc := 102) (v := -1) dX11_count_102 rfl ?_
    exact s_iret (pc := 103) dX11_count_103 rfl rfl
def Mo_count_9   (v1 : Int32)  : Nat → Int32 → Int32 → PH → Option (Int32 × PH)
  | 0 => fun _ _ _ => none
  | n + 1 => fun v2 v3 P =>
    gdI (0 : Int32) 512 <|
    if (P.1 88 (0 : Int32).toNatClampNeg) ≤ v3 then
      Mo_count_42 v1 v2 P
    else
      (Mo_worked v3 P).bind fun (x22 : Int32) =>
      if x22 = (3 : Int32) then
        (some (v2 + (1 : Int32))).bind fun (u2_35 : Int32) =>
        Mo_count_9 v1 n u2_35 (v3 + 1) P
      else
        (some (v2 + (0 : Int32))).bind fun (u2_35 : Int32) =>
        Mo_count_9 v1 n u2_35 (v3 + 1) P
set_option maxRecDepth 100000 in
set_option maxHeartbeats 4000000 in
theorem Mo_count_9_sem {G : GT} {l : Launch} (hG : GOK G l)  (v1 : Int32)    : ∀ (n : Nat) (v2 : Int32) (v3 : Int32) (P : PH), Sem G l miX11_count 0 0 (rn tIH) 9 [(0, .ref (gA G 1)), (1, .int v1), (2, .int v2), (3, .int v3)] [] P (Mo_count_9 v1 n v2 v3 P) := by
  intro n
  induction n with
  | zero => intro v2 v3 P; exact s_none rfl
  | succ n ih =>
    intro v2 v3 P
    rw [Mo_count_9]
    refine s_iload_n (pc := 9) 3 dX11_count_9 rfl rfl ?_
    refine s_aload_n (pc := 10) 0 dX11_count_10 rfl rfl ?_
    refine s_getR (pc := 11) 88 dX11_count_11 (fi_X11_9 hG) kd_1 rfl ?_
    refine s_iconst (pc := 14) (v := 0) dX11_count_14 rfl ?_
    refine s_iald (pc := 15) 512 dX11_count_15 kd_88 ln_88 ?_
    refine s_icmp_ge (pc := 16) 42 dX11_count_16 rfl ?_ ?_
    · refine s_sub [0, 1, 2] rfl ?_
      exact Mo_count_42_sem hG v1 v2 P
    · refine s_iload_n (pc := 19) 2 dX11_count_19 rfl rfl ?_
      refine s_aload_n (pc := 20) 0 dX11_count_20 rfl rfl ?_
      refine s_iload_n (pc := 21) 3 dX11_count_21 rfl rfl ?_
      refine s_callV (k := 0) (n := 0) (pc := 22) [.int v3] (fun x22 => .int x22 :: [.int v2]) (fun _ => P) dX11_count_22 (cV_X11_270 hG) (Nat.le_of_ble_eq_true rfl) rfl kd_1 (Mo_worked_ok hG v3 P) rfl (fun _ => rfl) (fun _ => rfl) (Nat.le_of_ble_eq_true rfl) rfl rfl (fun x22 => ?_)
      refine s_iconst (pc := 25) (v := 3) dX11_count_25 rfl ?_
      refine s_icmp_ne (pc := 26) 33 dX11_count_26 rfl ?_ ?_
      · refine s_iconst (pc := 29) (v := 1) dX11_count_29 rfl ?_
        refine s_goto (pc := 30) 34 dX11_count_30 rfl ?_
        refine s_iadd (pc := 34) dX11_count_34 ?_
        refine s_letI (fun u2_35 => ?_)
        refine s_istore_n (pc := 35) [(2, .int u2_35), (0, .ref (gA G 1)), (1, .int v1), (3, .int v3)] dX11_count_35 rfl (Nat.le_of_ble_eq_true rfl) rfl ?_
        refine s_iinc (pc := 36) 3 1 [(3, .int (v3 + 1)), (2, .int u2_35), (0, .ref (gA G 1)), (1, .int v1)] dX11_count_36 rfl rfl (Nat.le_of_ble_eq_true rfl) rfl ?_
        refine s_goto (pc := 39) 9 dX11_count_39 rfl ?_
        refine s_sub [2, 3, 1, 0] rfl ?_
        exact ih u2_35 (v3 + 1) P
      · refine s_iconst (pc := 33) (v := 0) dX11_count_33 rfl ?_
        refine s_iadd (pc := 34) dX11_count_34 ?_
        refine s_letI (fun u2_35 => ?_)
        refine s_istore_n (pc := 35) [(2, .int u2_35), (0, .ref (gA G 1)), (1, .int v1), (3, .int v3)] dX11_count_35 rfl (Nat.le_of_ble_eq_true rfl) rfl ?_
        refine s_iinc (pc := 36) 3 1 [(3, .int (v3 + 1)), (2, .int u2_35), (0, .ref (gA G 1)), (1, .int v1)] dX11_count_36 rfl rfl (Nat.le_of_ble_eq_true rfl) rfl ?_
        refine s_goto (pc := 39) 9 dX11_count_39 rfl ?_
        refine s_sub [2, 3, 1, 0] rfl ?_
        exact ih u2_35 (v3 + 1) P
def Mo_count  (v1 : Int32) (P : PH) : Option (Int32 × PH) :=
  (some (sI P 1 5 (0 : Int32))).bind fun (P2 : PH) =>
  Mo_count_9 v1 bigN (0 : Int32) (0 : Int32) P2
set_option maxRecDepth 100000 in
set_option maxHeartbeats 4000000 in
theorem Mo_count_ok {G : GT} {l : Launch} (hG : GOK G l)  (v1 : Int32) (P : PH) : OkN G l yX11_count miX11_count 0 0 tIH [.ref (gA G 1), .int v1] P (Mo_count v1 P) := by
  refine okN_of hG _ [(0, .ref (gA G 1)), (1, .int v1)] rfl rfl rfl (Nat.le_of_ble_eq_true rfl) rfl ?_
  unfold Mo_count
  refine s_aload_n (pc := 0) 0 dX11_count_0 rfl rfl ?_
  refine s_iconst (pc := 1) (v := 0) dX11_count_1 rfl ?_
  refine s_putI (pc := 2) dX11_count_2 (fp_X11_86 hG) kd_1 ?_
  refine s_letP (fun P2 => ?_)
  refine s_iconst (pc := 5) (v := 0) dX11_count_5 rfl ?_
  refine s_istore_n (pc := 6) [(2, .int ((0 : Int32))), (0, .ref (gA G 1)), (1, .int v1)] dX11_count_6 rfl (Nat.le_of_ble_eq_true rfl) rfl ?_
  refine s_iconst (pc := 7) (v := 0) dX11_count_7 rfl ?_
  refine s_istore_n (pc := 8) [(3, .int ((0 : Int32))), (2, .int ((0 : Int32))), (0, .ref (gA G 1)), (1, .int v1)] dX11_count_8 rfl (Nat.le_of_ble_eq_true rfl) rfl ?_
  refine s_sub [2, 3, 1, 0] rfl ?_
  exact Mo_count_9_sem hG v1 bigN (0 : Int32) (0 : Int32) P2
