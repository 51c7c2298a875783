def Mo_barsNow   (P : PH) : Option (Int32 × PH) :=
  gdI (3 : Int32) 512 <|
  (Mo_hole P).bind fun (x8 : Int32) =>
  gdI (6 : Int32) 512 <|
  (Mo_isOver (P.1 88 (6 : Int32).toNatClampNeg) P).bind fun (x19 : Int32) =>
  (Mo_bars (P.1 88 (3 : Int32).toNatClampNeg) x8 x19 P).bind fun (x22 : Int32 × PH) =>
  some (x22.1, x22.2)
set_option maxRecDepth 100000 in
set_option maxHeartbeats 4000000 in
theorem Mo_barsNow_ok {G : GT} {l : Launch} (hG : GOK G l)   (P : PH) : OkN G l yX11_barsNow miX11_barsNow 0 0 tIH [.ref (gA G 1)] P (Mo_barsNow P) := by
  refine okN_of hG _ [(0, .ref (gA G 1))] rfl rfl rfl (Nat.le_of_ble_eq_true rfl) rfl ?_
  unfold Mo_barsNow
  refine s_aload_n (pc := 0) 0 dX11_barsNow_0 rfl rfl ?_
  refine s_aload_n (pc := 1) 0 dX11_barsNow_1 rfl rfl ?_
  refine s_getR (pc := 2) 88 dX11_barsNow_2 (fi_X11_9 hG) kd_1 rfl ?_
  refine s_iconst (pc := 5) (v := 3) dX11_barsNow_5 rfl ?_
  refine s_iald (pc := 6) 512 dX11_barsNow_6 kd_88 ln_88 ?_
  refine s_aload_n (pc := 7) 0 dX11_barsNow_7 rfl rfl ?_
  refine s_callV (k := 0) (n := 0) (pc := 8) [] (fun x8 => .int x8 :: [.int (P.1 88 (3 : Int32).toNatClampNeg), .ref (gA G 1)]) (fun _ => P) dX11_barsNow_8 (cV_X11_330 hG) (Nat.le_of_ble_eq_true rfl) rfl kd_1 (Mo_hole_ok hG P) rfl (fun _ => rfl) (fun _ => rfl) (Nat.le_of_ble_eq_true rfl) rfl rfl (fun x8 => ?_)
  refine s_aload_n (pc := 11) 0 dX11_barsNow_11 rfl rfl ?_
  refine s_aload_n (pc := 12) 0 dX11_barsNow_12 rfl rfl ?_
  refine s_getR (pc := 13) 88 dX11_barsNow_13 (fi_X11_9 hG) kd_1 rfl ?_
  refine s_bipush (pc := 16) (v := 6) dX11_barsNow_16 rfl ?_
  refine s_iald (pc := 18) 512 dX11_barsNow_18 kd_88 ln_88 ?_
  refine s_callV (k := 0) (n := 0) (pc := 19) [.int (P.1 88 (6 : Int32).toNatClampNeg)] (fun x19 => .int x19 :: [.int x8, .int (P.1 88 (3 : Int32).toNatClampNeg), .ref (gA G 1)]) (fun _ => P) dX11_barsNow_19 (cV_X11_333 hG) (Nat.le_of_ble_eq_true rfl) rfl kd_1 (Mo_isOver_ok hG (P.1 88 (6 : Int32).toNatClampNeg) P) rfl (fun _ => rfl) (fun _ => rfl) (Nat.le_of_ble_eq_true rfl) rfl rfl (fun x19 => ?_)
  refine s_callV (k := 0) (n := 0) (pc := 22) [.int (P.1 88 (3 : Int32).toNatClampNeg), .int x8, .int x19] (fun x22 => .int (x22.1) :: []) (fun x22 => x22.2) dX11_barsNow_22 (cV_X11_377 hG) (Nat.le_of_ble_eq_true rfl) rfl kd_1 (Mo_bars_ok hG (P.1 88 (3 : Int32).toNatClampNeg) x8 x19 P) rfl (fun _ => rfl) (fun _ => rfl) (Nat.le_of_ble_eq_true rfl) rfl rfl (fun x22 => ?_)
  exact s_iret (pc := 25) dX11_barsNow_25 rfl rfl
def Mo_barred_27   (v1 : Int32) (s0 : Int32) (P : PH) : Option (Int32 × PH) :=
  (some (sI P 1 5 s0)).bind fun (P27 : PH) =>
  if (P27.1 1 5) ≤ 0 then
    (Mo_barsNow P27).bind fun (x40 : Int32 × PH) =>
    if v1 = 0 then
      some (x40.1, x40.2)
    else
      some (x40.2.1 1 29, x40.2)
  else
    some ((0 : Int32), P27)
set_option maxRecDepth 100000 in
set_option maxHeartbeats 4000000 in
theorem Mo_barred_27_sem {G : GT} {l : Launch} (hG : GOK G l)  (v1 : Int32) (s0 : Int32) (P : PH)   : Sem G l miX11_barred 0 0 (rn tIH) 27 [(0, .ref (gA G 1)), (1, .int v1)] [.int s0, .ref (gA G 1)] P (Mo_barred_27 v1 s0 P) := by
  unfold Mo_barred_27
  refine s_putI (pc := 27) dX11_barred_27 (fp_X11_86 hG) kd_1 ?_
  refine s_letP (fun P27 => ?_)
  refine s_aload_n (pc := 30) 0 dX11_barred_30 rfl rfl ?_
  refine s_getI (pc := 31) dX11_barred_31 (fi_X11_86 hG) kd_1 ?_
  refine s_if_le (pc := 34) 39 dX11_barred_34 rfl ?_ ?_
  · refine s_aload_n (pc := 39) 0 dX11_barred_39 rfl rfl ?_
    refine s_callV (k := 0) (n := 0) (pc := 40) [] (fun x40 => .int (x40.1) :: []) (fun x40 => x40.2) dX11_barred_40 (cV_X11_381 hG) (Nat.le_of_ble_eq_true rfl) rfl kd_1 (Mo_barsNow_ok hG P27) rfl (fun _ => rfl) (fun _ => rfl) (Nat.le_of_ble_eq_true rfl) rfl rfl (fun x40 => ?_)
    refine s_istore_n (pc := 43) [(2, .int (x40.1)), (0, .ref (gA G 1)), (1, .int v1)] dX11_barred_43 rfl (Nat.le_of_ble_eq_true rfl) rfl ?_
    refine s_iload_n (pc := 44) 2 dX11_barred_44 rfl rfl ?_
    refine s_if_ne (pc := 45) 52 dX11_barred_45 rfl ?_ ?_
    · refine s_iload_n (pc := 48) 0 dX11_barred_48 rfl rfl ?_
      refine s_goto (pc := 49) 56 dX11_barred_49 rfl ?_
      exact s_iret (pc := 56) dX11_barred_56 rfl rfl
    · refine s_aload_n (pc := 52) 1 dX11_barred_52 rfl rfl ?_
      refine s_getI (pc := 53) dX11_barred_53 (fi_X11_368 hG) kd_1 ?_
      exact s_iret (pc := 56) dX11_barred_56 rfl rfl
  · refine s_iconst (pc := 37) (v := 0) dX11_barred_37 rfl ?_
    exact s_iret (pc := 38) dX11_barred_38 rfl rfl
def Mo_barred  (v1 : Int32) (P : PH) : Option (Int32 × PH) :=
  (Mo_isThere P).bind fun (x2 : Int32) =>
  if x2 = 0 then
    Mo_barred_27 v1 (1 : Int32) P
  else
    (Mo_within v1.toInt64 (0 : Int64) (1 : Int64) P).bind fun (x16 : Int32) =>
    if x16 = 0 then
      Mo_barred_27 v1 (2 : Int32) P
    else
      Mo_barred_27 v1 (0 : Int32) P
set_option maxRecDepth 100000 in
set_option maxHeartbeats 4000000 in
theorem Mo_barred_ok {G : GT} {l : Launch} (hG : GOK G l)  (v1 : Int32) (P : PH) : OkN G l yX11_barred miX11_barred 0 0 tIH [.ref (gA G 1), .int v1] P (Mo_barred v1 P) := by
  refine okN_of hG _ [(0, .ref (gA G 1)), (1, .int v1)] rfl rfl rfl (Nat.le_of_ble_eq_true rfl) rfl ?_
  unfold Mo_barred
  refine s_aload_n (pc := 0) 0 dX11_barred_0 rfl rfl ?_
  refine s_aload_n (pc := 1) 0 dX11_barred_1 rfl rfl ?_
  refine s_callV (k := 0) (n := 0) (pc := 2) [] (fun x2 => .int x2 :: [.ref (gA G 1)]) (fun _ => P) dX11_barred_2 (cV_X11_326 hG) (Nat.le_of_ble_eq_true rfl) rfl kd_1 (Mo_isThere_ok hG P) rfl (fun _ => rfl) (fun _ => rfl) (Nat.le_of_ble_eq_true rfl) rfl rfl (fun x2 => ?_)
  refine s_if_ne (pc := 5) 12 dX11_barred_5 rfl ?_ ?_
  · refine s_iconst (pc := 8) (v := 1) dX11_barred_8 rfl ?_
    refine s_goto (pc := 9) 27 dX11_barred_9 rfl ?_
    exact Mo_barred_27_sem hG v1 (1 : Int32) P
  · refine s_iload_n (pc := 12) 1 dX11_barred_12 rfl rfl ?_
    refine s_i2l (pc := 13) dX11_barred_13 ?_
    refine s_lconst (pc := 14) (v := 0) dX11_barred_14 rfl ?_
    refine s_lconst (pc := 15) (v := 1) dX11_barred_15 rfl ?_
    refine s_callS (k := 0) (n := 0) (pc := 16) [.long (v1.toInt64), .long ((0 : Int64)), .long ((1 : Int64))] (fun x16 => .int x16 :: [.ref (gA G 1)]) (fun _ => P) dX11_barred_16 (cS_X11_98 hG) (Nat.le_of_ble_eq_true rfl) rfl (Mo_within_ok hG v1.toInt64 (0 : Int64) (1 : Int64) P) rfl (fun _ => rfl) (fun _ => rfl) (Nat.le_of_ble_eq_true rfl) rfl rfl (fun x16 => ?_)
    refine s_if_eq (pc := 19) 26 dX11_barred_19 rfl ?_ ?_
    · refine s_iconst (pc := 26) (v := 2) dX11_barred_26 rfl ?_
      exact Mo_barred_27_sem hG v1 (2 : Int32) P
    · refine s_iconst (pc := 22) (v := 0) dX11_barred_22 rfl ?_
      refine s_goto (pc := 23) 27 dX11_barred_23 rfl ?_
      exact Mo_barred_27_sem hG v1 (0 : Int32) P
def Mo_ending_13   (s0 : Int32) (P : PH) : Option (Int32 × PH) :=
  (some (sI P 1 5 s0)).bind fun (P13 : PH) =>
  if (P13.1 1 5) ≤ 0 then
    (Mo_barsNow P13).bind fun (x26 : Int32 × PH) =>
    if x26.1 = 0 then
      some (x26.2.1 1 30, x26.2)
    else
      some ((-1 : Int32), x26.2)
  else
    some ((0 : Int32), P13)
set_option maxRecDepth 100000 in
set_option maxHeartbeats 4000000 in
theorem Mo_ending_13_sem {G : GT} {l : Launch} (hG : GOK G l)  (s0 : Int32) (P : PH)   : Sem G l miX11_ending 0 0 (rn tIH) 13 [(0, .ref (gA G 1))] [.int s0, .ref (gA G 1)] P (Mo_ending_13 s0 P) := by
  unfold Mo_ending_13
  refine s_putI (pc := 13) dX11_ending_13 (fp_X11_86 hG) kd_1 ?_
  refine s_letP (fun P13 => ?_)
  refine s_aload_n (pc := 16) 0 dX11_ending_16 rfl rfl ?_
  refine s_getI (pc := 17) dX11_ending_17 (fi_X11_86 hG) kd_1 ?_
  refine s_if_le (pc := 20) 25 dX11_ending_20 rfl ?_ ?_
  · refine s_aload_n (pc := 25) 0 dX11_ending_25 rfl rfl ?_
    refine s_callV (k := 0) (n := 0) (pc := 26) [] (fun x26 => .int (x26.1) :: []) (fun x26 => x26.2) dX11_ending_26 (cV_X11_381 hG) (Nat.le_of_ble_eq_true rfl) rfl kd_1 (Mo_barsNow_ok hG P13) rfl (fun _ => rfl) (fun _ => rfl) (Nat.le_of_ble_eq_true rfl) rfl rfl (fun x26 => ?_)
    refine s_if_ne (pc := 29) 39 dX11_ending_29 rfl ?_ ?_
    · refine s_aload_n (pc := 32) 0 dX11_ending_32 rfl rfl ?_
      refine s_getI (pc := 33) dX11_ending_33 (fi_X11_371 hG) kd_1 ?_
      refine s_goto (pc := 36) 40 dX11_ending_36 rfl ?_
      exact s_iret (pc := 40) dX11_ending_40 rfl rfl
    · refine s_iconst (pc := 39) (v := -1) dX11_ending_39 rfl ?_
      exact s_iret (pc := 40) dX11_ending_40 rfl rfl
  · refine s_iconst (pc := 23) (v := 0) dX11_ending_23 rfl ?_
    exact s_iret (pc := 24) dX11_ending_24 rfl rfl
def Mo_ending   (P : PH) : Option (Int32 × PH) :=
  (Mo_isThere P).bind fun (x2 : Int32) =>
  if x2 = 0 then
    Mo_ending_13 (1 : Int32) P
  else
    Mo_ending_13 (0 : Int32) P
set_option maxRecDepth 100000 in
set_option maxHeartbeats 4000000 in
theorem Mo_ending_ok {G : GT} {l : Launch} (hG : GOK G l)   (P : PH) : OkN G l yX11_ending miX11_ending 0 0 tIH [.ref (gA G 1)] P (Mo_ending P) := by
  refine okN_of hG _ [(0, .ref (gA G 1))] rfl rfl rfl (Nat.le_of_ble_eq_true rfl) rfl ?_
  unfold Mo_ending
  refine s_aload_n (pc := 0) 0 dX11_ending_0 rfl rfl ?_
  refine s_aload_n (pc := 1) 0 dX11_ending_1 rfl rfl ?_
  refine s_callV (k := 0) (n := 0) (pc := 2) [] (fun x2 => .int x2 :: [.ref (gA G 1)]) (fun _ => P) dX11_ending_2 (cV_X11_326 hG) (Nat.le_of_ble_eq_true rfl) rfl kd_1 (Mo_isThere_ok hG P) rfl (fun _ => rfl) (fun _ => rfl) (Nat.le_of_ble_eq_true rfl) rfl rfl (fun x2 => ?_)
  refine s_if_eq (pc := 5) 12 dX11_ending_5 rfl ?_ ?_
  · refine s_iconst (pc := 12) (v := 1) dX11_ending_12 rfl ?_
    exact Mo_ending_13_sem hG (1 : Int32) P
  · refine s_iconst (pc := 8) (v := 0) dX11_ending_8 rfl ?_
    refine s_goto (pc := 9) 13 dX11_ending_9 rfl ?_
    exact Mo_ending_13_sem hG (0 : Int32) P
def Mo_goesWell  (v1 : Int32) (P : PH) : Option (Int32 × PH) :=
  (Mo_whyNot v1.toInt64 P).bind fun (x3 : Int32) =>
  if x3 = 0 then
    (Mo_goes v1 P).bind fun (x13 : PH) =>
    (Mo_barsNow x13).bind fun (x17 : Int32 × PH) =>
    if x17.1 = 0 then
      gdP ((1 : Int32) = 0 ∨ (1 : Int32) = 1) <|
      some ((1 : Int32), x17.2)
    else
      (Mo_backs x17.2).bind fun (x26 : PH) =>
      gdP ((0 : Int32) = 0 ∨ (0 : Int32) = 1) <|
      some ((0 : Int32), x26)
  else
    gdP ((0 : Int32) = 0 ∨ (0 : Int32) = 1) <|
    some ((0 : Int32), P)
set_option maxRecDepth 100000 in
set_option maxHeartbeats 4000000 in
theorem Mo_goesWell_ok {G : GT} {l : Launch} (hG : GOK G l)  (v1 : Int32) (P : PH) : OkN G l yX11_goesWell miX11_goesWell 0 0 tIH [.ref (gA G 1), .int v1] P (Mo_goesWell v1 P) := by
  refine okN_of hG _ [(0, .ref (gA G 1)), (1, .int v1)] rfl rfl rfl (Nat.le_of_ble_eq_true rfl) rfl ?_
  unfold Mo_goesWell
  refine s_aload_n (pc := 0) 0 dX11_goesWell_0 rfl rfl ?_
  refine s_iload_n (pc := 1) 1 dX11_goesWell_1 rfl rfl ?_
  refine s_i2l (pc := 2) dX11_goesWell_2 ?_
  refine s_callV (k := 0) (n := 0) (pc := 3) [.long (v1.toInt64)] (fun x3 => .int x3 :: []) (fun _ => P) dX11_goesWell_3 (cV_X11_344 hG) (Nat.le_of_ble_eq_true rfl) rfl kd_1 (Mo_whyNot_ok hG v1.toInt64 P) rfl (fun _ => rfl) (fun _ => rfl) (Nat.le_of_ble_eq_true rfl) rfl rfl (fun x3 => ?_)
  refine s_if_eq (pc := 6) 11 dX11_goesWell_6 rfl ?_ ?_
  · refine s_aload_n (pc := 11) 0 dX11_goesWell_11 rfl rfl ?_
    refine s_iload_n (pc := 12) 1 dX11_goesWell_12 rfl rfl ?_
    refine s_callV (k := 0) (n := 0) (pc := 13) [.int v1] (fun _ => []) (fun x13 => x13) dX11_goesWell_13 (cV_X11_348 hG) (Nat.le_of_ble_eq_true rfl) rfl kd_1 (Mo_goes_ok hG v1 P) rfl (fun _ => rfl) (fun _ => rfl) (Nat.le_of_ble_eq_true rfl) rfl rfl (fun x13 => ?_)
    refine s_aload_n (pc := 16) 0 dX11_goesWell_16 rfl rfl ?_
    refine s_callV (k := 0) (n := 0) (pc := 17) [] (fun x17 => .int (x17.1) :: []) (fun x17 => x17.2) dX11_goesWell_17 (cV_X11_381 hG) (Nat.le_of_ble_eq_true rfl) rfl kd_1 (Mo_barsNow_ok hG x13) rfl (fun _ => rfl) (fun _ => rfl) (Nat.le_of_ble_eq_true rfl) rfl rfl (fun x17 => ?_)
    refine s_if_ne (pc := 20) 25 dX11_goesWell_20 rfl ?_ ?_
    · refine s_iconst (pc := 23) (v := 1) dX11_goesWell_23 rfl ?_
      exact s_zret (pc := 24) dX11_goesWell_24 rfl rfl
    · refine s_aload_n (pc := 25) 0 dX11_goesWell_25 rfl rfl ?_
      refine s_callV (k := 0) (n := 0) (pc := 26) [] (fun _ => []) (fun x26 => x26) dX11_goesWell_26 (cV_X11_351 hG) (Nat.le_of_ble_eq_true rfl) rfl kd_1 (Mo_backs_ok hG x17.2) rfl (fun _ => rfl) (fun _ => rfl) (Nat.le_of_ble_eq_true rfl) rfl rfl (fun x26 => ?_)
      refine s_iconst (pc := 29) (v := 0) dX11_goesWell_29 rfl ?_
      exact s_zret (pc := 30) dX11_goesWell_30 rfl rfl
  · refine s_iconst (pc := 9) (v := 0) dX11_goesWell_9 rfl ?_
    exact s_zret (pc := 10) dX11_goesWell_10 rfl rfl
def Mo_works_26  (r11 : Int32 → PH → Option (Int32 × PH)) (v1 : Int32)  : Nat → Int32 → PH → Option (Int32 × PH)
  | 0 => fun _ _ => none
  | n + 1 => fun v2 P =>
    (Mo_goesWell v2 P).bind fun (x28 : Int32 × PH) =>
    if x28.1 = 0 then
      Mo_works_26 r11 v1 n (v2 + 1) x28.2
    else
      r11 (v1 + 1) x28.2
set_option maxRecDepth 100000 in
set_option maxHeartbeats 4000000 in
theorem Mo_works_26_sem {G : GT} {l : Launch} (hG : GOK G l)  (v1 : Int32)   (r11 : Int32 → PH → Option (Int32 × PH)) (hr11 : ∀ (v1 : Int32) (P : PH), Sem G l miX11_works 0 0 (rn tIH) 11 [(0, .ref (gA G 1)), (1, .int v1)] [] P (r11 v1 P)) : ∀ (n : Nat) (v2 : Int32) (P : PH), Sem G l miX11_works 0 0 (rn tIH) 26 [(0, .ref (gA G 1)), (1, .int v1), (2, .int v2)] [] P (Mo_works_26 r11 v1 n v2 P) := by
  intro n
  induction n with
  | zero => intro v2 P; exact s_none rfl
  | succ n ih =>
    intro v2 P
    rw [Mo_works_26]
    refine s_aload_n (pc := 26) 0 dX11_works_26 rfl rfl ?_
    refine s_iload_n (pc := 27) 2 dX11_works_27 rfl rfl ?_
    refine s_callV (k := 0) (n := 0) (pc := 28) [.int v2] (fun x28 => .int (x28.1) :: []) (fun x28 => x28.2) dX11_works_28 (cV_X11_384 hG) (Nat.le_of_ble_eq_true rfl) rfl kd_1 (Mo_goesWell_ok hG v2 P) rfl (fun _ => rfl) (fun _ => rfl) (Nat.le_of_ble_eq_true rfl) rfl rfl (fun x28 => ?_)
    refine s_if_ne (pc := 31) 40 dX11_works_31 rfl ?_ ?_
    · refine s_iinc (pc := 34) 2 1 [(2, .int (v2 + 1)), (0, .ref (gA G 1)), (1, .int v1)] dX11_works_34 rfl rfl (Nat.le_of_ble_eq_true rfl) rfl ?_
      refine s_goto (pc := 37) 26 dX11_works_37 rfl ?_
      refine s_sub [1, 2, 0] rfl ?_
      exact ih (v2 + 1) x28.2
    · refine s_iinc (pc := 40) 1 1 [(1, .int (v1 + 1)), (0, .ref (gA G 1)), (2, .int v2)] dX11_works_40 rfl rfl (Nat.le_of_ble_eq_true rfl) rfl ?_
      refine s_goto (pc := 43) 11 dX11_works_43 rfl ?_
      refine s_sub [1, 0] rfl ?_
      exact hr11 (v1 + 1) x28.2
def Mo_works_11     : Nat → Int32 → PH → Option (Int32 × PH)
  | 0 => fun _ _ => none
  | n + 1 => fun v1 P =>
    gdI (3 : Int32) 512 <|
    (Mo_leftOf (P.1 88 (3 : Int32).toNatClampNeg) P).bind fun (x18 : Int32) =>
    if x18 ≤ 0 then
      some (v1, P)
    else
      Mo_works_26 (Mo_works_11  n) v1 bigN (0 : Int32) P
set_option maxRecDepth 100000 in
set_option maxHeartbeats 4000000 in
theorem Mo_works_11_sem {G : GT} {l : Launch} (hG : GOK G l)      : ∀ (n : Nat) (v1 : Int32) (P : PH), Sem G l miX11_works 0 0 (rn tIH) 11 [(0, .ref (gA G 1)), (1, .int v1)] [] P (Mo_works_11  n v1 P) := by
  intro n
  induction n with
  | zero => intro v1 P; exact s_none rfl
  | succ n ih =>
    intro v1 P
    rw [Mo_works_11]
    refine s_aload_n (pc := 11) 0 dX11_works_11 rfl rfl ?_
    refine s_aload_n (pc := 12) 0 dX11_works_12 rfl rfl ?_
    refine s_getR (pc := 13) 88 dX11_works_13 (fi_X11_9 hG) kd_1 rfl ?_
    refine s_iconst (pc := 16) (v := 3) dX11_works_16 rfl ?_
    refine s_iald (pc := 17) 512 dX11_works_17 kd_88 ln_88 ?_
    refine s_callV (k := 0) (n := 0) (pc := 18) [.int (P.1 88 (3 : Int32).toNatClampNeg)] (fun x18 => .int x18 :: []) (fun _ => P) dX11_works_18 (cV_X11_365 hG) (Nat.le_of_ble_eq_true rfl) rfl kd_1 (Mo_leftOf_ok hG (P.1 88 (3 : Int32).toNatClampNeg) P) rfl (fun _ => rfl) (fun _ => rfl) (Nat.le_of_ble_eq_true rfl) rfl rfl (fun x18 => ?_)
    refine s_if_le (pc := 21) 46 dX11_works_21 rfl ?_ ?_
    · refine s_iload_n (pc := 46) 1 dX11_works_46 rfl rfl ?_
      exact s_iret (pc := 47) dX11_works_47 rfl rfl
    · refine s_iconst (pc := 24) (v := 0) dX11_works_24 rfl ?_
      refine s_istore_n (pc := 25) [(2, .int ((0 : Int32))), (0, .ref (gA G 1)), (1, .int v1)] dX11_works_25 rfl (Nat.le_of_ble_eq_true rfl) rfl ?_
      refine s_sub [1, 2, 0] rfl ?_
      exact Mo_works_26_sem hG v1 (Mo_works_11  n) ih bigN (0 : Int32) P
def Mo_works   (P : PH) : Option (Int32 × PH) :=
  (Mo_barsNow P).bind fun (x1 : Int32 × PH) =>
  if x1.1 = 0 then
    Mo_works_11  bigN (0 : Int32) x1.2
  else
    some ((-1 : Int32), x1.2)
set_option maxRecDepth 100000 in
set_option maxHeartbeats 4000000 in
theorem Mo_works_ok {G : GT} {l : Launch} (hG : GOK G l)   (P : PH) : OkN G l yX11_works miX11_works 0 0 tIH [.ref (gA G 1)] P (Mo_works P) := by
  refine okN_of hG _ [(0, .ref (gA G 1))] rfl rfl rfl (Nat.le_of_ble_eq_true rfl) rfl ?_
  unfold Mo_works
  refine s_aload_n (pc := 0) 0 dX11_works_0 rfl rfl ?_
  refine s_callV (k := 0) (n := 0) (pc := 1) [] (fun x1 => .int (x1.1) :: []) (fun x1 => x1.2) dX11_works_1 (cV_X11_381 hG) (Nat.le_of_ble_eq_true rfl) rfl kd_1 (Mo_barsNow_ok hG P) rfl (fun _ => rfl) (fun _ => rfl) (Nat.le_of_ble_eq_true rfl) rfl rfl (fun x1 => ?_)
  refine s_if_eq (pc := 4) 9 dX11_works_4 rfl ?_ ?_
  · refine s_iconst (pc := 9) (v := 0) dX11_works_9 rfl ?_
    refine s_istore_n (pc := 10) [(1, .int ((0 : Int32))), (0, .ref (gA G 1))] dX11_works_10 rfl (Nat.le_of_ble_eq_true rfl) rfl ?_
    refine s_sub [1, 0] rfl ?_
    exact Mo_works_11_sem hG  bigN (0 : Int32) x1.2
  · refine s_iconst (pc := 7) (v := -1) dX11_works_7 rfl ?_
    exact s_iret (pc := 8) dX11_works_8 rfl rfl
def Mo_working_92   (s0 : Int32) (P : PH) : Option (Int32 × PH) :=
  (Mo_copies 91 88 P).bind fun (x102 : PH) =>
  some (s0, x102)
set_option maxRecDepth 100000 in
set_option maxHeartbeats 4000000 in
theorem Mo_working_92_sem {G : GT} {l : Launch} (hG : GOK G l)  (s0 : Int32) (P : PH)   : Sem G l miX11_working 0 0 (rn tIH) 92 [(0, .ref (gA G 1))] [.int s0] P (Mo_working_92 s0 P) := by
  unfold Mo_working_92
  refine s_istore (pc := 92) [(4, .int s0), (0, .ref (gA G 1))] dX11_working_92 (Nat.le_of_ble_eq_true rfl) rfl ?_
  refine s_aload_n (pc := 94) 1 dX11_working_94 rfl rfl ?_
  refine s_getR (pc := 95) 91 dX11_working_95 (fi_X11_19 hG) kd_1 rfl ?_
  refine s_aload_n (pc := 98) 1 dX11_working_98 rfl rfl ?_
  refine s_getR (pc := 99) 88 dX11_working_99 (fi_X11_9 hG) kd_1 rfl ?_
  refine s_callS (k := 0) (n := 0) (pc := 102) [.ref (gA G 91), .ref (gA G 88)] (fun _ => []) (fun x102 => x102) dX11_working_102 (cS_X11_254 hG) (Nat.le_of_ble_eq_true rfl) rfl (Mo_copies_ok hG 91 ⟨kd_91, ln_91⟩ 88 ⟨kd_88, ln_88⟩ P) rfl (fun _ => rfl) (fun _ => rfl) (Nat.le_of_ble_eq_true rfl) rfl rfl (fun x102 => ?_)
  refine s_iload (pc := 105) 0 dX11_working_105 rfl ?_
  exact s_iret (pc := 107) dX11_working_107 rfl rfl
def Mo_working_13   (v1 : Int32) (s0 : Int32) (P : PH) : Option (Int32 × PH) :=
  (some (sI P 1 5 s0)).bind fun (P13 : PH) =>
  if (P13.1 1 5) ≤ 0 then
    (Mo_copies 88 91 P13).bind fun (x33 : PH) =>
    gdI (6 : Int32) 512 <|
    (some (x33.1 88 (6 : Int32).toNatClampNeg)).bind fun (u2_43 : Int32) =>
    (Mo_works x33).bind fun (x45 : Int32 × PH) =>
    if v1 = (-1 : Int32) then
      Mo_working_92 x45.1 x45.2
    else
      if x45.1 = (-1 : Int32) then
        Mo_working_92 x45.1 x45.2
      else
        (Mo_within v1.toInt64 (0 : Int64) (((x45.1) - (1 : Int32)).toInt64) x45.2).bind fun (x70 : Int32) =>
        if x70 = 0 then
          Mo_working_92 (-1 : Int32) x45.2
        else
          gdI (((392 : Int32) + u2_43) + v1) 512 <|
          Mo_working_92 (x45.2.1 88 (((392 : Int32) + u2_43) + v1).toNatClampNeg) x45.2
  else
    some ((0 : Int32), P13)
set_option maxRecDepth 100000 in
set_option maxHeartbeats 4000000 in
theorem Mo_working_13_sem {G : GT} {l : Launch} (hG : GOK G l)  (v1 : Int32) (s0 : Int32) (P : PH)   : Sem G l miX11_working 0 0 (rn tIH) 13 [(0, .ref (gA G 1)), (1, .int v1)] [.int s0, .ref (gA G 1)] P (Mo_working_13 v1 s0 P) := by
  unfold Mo_working_13
  refine s_putI (pc := 13) dX11_working_13 (fp_X11_86 hG) kd_1 ?_
  refine s_letP (fun P13 => ?_)
  refine s_aload_n (pc := 16) 0 dX11_working_16 rfl rfl ?_
  refine s_getI (pc := 17) dX11_working_17 (fi_X11_86 hG) kd_1 ?_
  refine s_if_le (pc := 20) 25 dX11_working_20 rfl ?_ ?_
  · refine s_aload_n (pc := 25) 0 dX11_working_25 rfl rfl ?_
    refine s_getR (pc := 26) 88 dX11_working_26 (fi_X11_9 hG) kd_1 rfl ?_
    refine s_aload_n (pc := 29) 0 dX11_working_29 rfl rfl ?_
    refine s_getR (pc := 30) 91 dX11_working_30 (fi_X11_19 hG) kd_1 rfl ?_
    refine s_callS (k := 0) (n := 0) (pc := 33) [.ref (gA G 88), .ref (gA G 91)] (fun _ => []) (fun x33 => x33) dX11_working_33 (cS_X11_254 hG) (Nat.le_of_ble_eq_true rfl) rfl (Mo_copies_ok hG 88 ⟨kd_88, ln_88⟩ 91 ⟨kd_91, ln_91⟩ P13) rfl (fun _ => rfl) (fun _ => rfl) (Nat.le_of_ble_eq_true rfl) rfl rfl (fun x33 => ?_)
    refine s_aload_n (pc := 36) 0 dX11_working_36 rfl rfl ?_
    refine s_getR (pc := 37) 88 dX11_working_37 (fi_X11_9 hG) kd_1 rfl ?_
    refine s_bipush (pc := 40) (v := 6) dX11_working_40 rfl ?_
    refine s_iald (pc := 42) 512 dX11_working_42 kd_88 ln_88 ?_
    refine s_letI (fun u2_43 => ?_)
    refine s_istore_n (pc := 43) [(2, .int u2_43), (0, .ref (gA G 1)), (1, .int v1)] dX11_working_43 rfl (Nat.le_of_ble_eq_true rfl) rfl ?_
    refine s_aload_n (pc := 44) 1 dX11_working_44 rfl rfl ?_
    refine s_callV (k := 0) (n := 0) (pc := 45) [] (fun x45 => .int (x45.1) :: []) (fun x45 => x45.2) dX11_working_45 (cV_X11_387 hG) (Nat.le_of_ble_eq_true rfl) rfl kd_1 (Mo_works_ok hG x33) rfl (fun _ => rfl) (fun _ => rfl) (Nat.le_of_ble_eq_true rfl) rfl rfl (fun x45 => ?_)
    refine s_istore_n (pc := 48) [(3, .int (x45.1)), (2, .int u2_43), (0, .ref (gA G 1)), (1, .int v1)] dX11_working_48 rfl (Nat.le_of_ble_eq_true rfl) rfl ?_
    refine s_iload_n (pc := 49) 3 dX11_working_49 rfl rfl ?_
    refine s_iconst (pc := 50) (v := -1) dX11_working_50 rfl ?_
    refine s_icmp_eq (pc := 51) 59 dX11_working_51 rfl ?_ ?_
    · refine s_iload_n (pc := 59) 0 dX11_working_59 rfl rfl ?_
      refine s_goto (pc := 60) 92 dX11_working_60 rfl ?_
      refine s_sub [2] rfl ?_
      exact Mo_working_92_sem hG x45.1 x45.2
    · refine s_iload_n (pc := 54) 0 dX11_working_54 rfl rfl ?_
      refine s_iconst (pc := 55) (v := -1) dX11_working_55 rfl ?_
      refine s_icmp_ne (pc := 56) 63 dX11_working_56 rfl ?_ ?_
      · refine s_iload_n (pc := 59) 0 dX11_working_59 rfl rfl ?_
        refine s_goto (pc := 60) 92 dX11_working_60 rfl ?_
        refine s_sub [2] rfl ?_
        exact Mo_working_92_sem hG x45.1 x45.2
      · refine s_iload_n (pc := 63) 3 dX11_working_63 rfl rfl ?_
        refine s_i2l (pc := 64) dX11_working_64 ?_
        refine s_lconst (pc := 65) (v := 0) dX11_working_65 rfl ?_
        refine s_iload_n (pc := 66) 0 dX11_working_66 rfl rfl ?_
        refine s_iconst (pc := 67) (v := 1) dX11_working_67 rfl ?_
        refine s_isub (pc := 68) dX11_working_68 ?_
        refine s_i2l (pc := 69) dX11_working_69 ?_
        refine s_callS (k := 0) (n := 0) (pc := 70) [.long (v1.toInt64), .long ((0 : Int64)), .long (((x45.1) - (1 : Int32)).toInt64)] (fun x70 => .int x70 :: []) (fun _ => x45.2) dX11_working_70 (cS_X11_98 hG) (Nat.le_of_ble_eq_true rfl) rfl (Mo_within_ok hG v1.toInt64 (0 : Int64) (((x45.1) - (1 : Int32)).toInt64) x45.2) rfl (fun _ => rfl) (fun _ => rfl) (Nat.le_of_ble_eq_true rfl) rfl rfl (fun x70 => ?_)
        refine s_if_eq (pc := 73) 91 dX11_working_73 rfl ?_ ?_
        · refine s_iconst (pc := 91) (v := -1) dX11_working_91 rfl ?_
          refine s_sub [2] rfl ?_
          exact Mo_working_92_sem hG (-1 : Int32) x45.2
        · refine s_aload_n (pc := 76) 2 dX11_working_76 rfl rfl ?_
          refine s_getR (pc := 77) 88 dX11_working_77 (fi_X11_9 hG) kd_1 rfl ?_
          refine s_sipush (pc := 80) (v := 392) dX11_working_80 rfl ?_
          refine s_iload_n (pc := 83) 1 dX11_working_83 rfl rfl ?_
          refine s_iadd (pc := 84) dX11_working_84 ?_
          refine s_iload_n (pc := 85) 3 dX11_working_85 rfl rfl ?_
          refine s_iadd (pc := 86) dX11_working_86 ?_
          refine s_iald (pc := 87) 512 dX11_working_87 kd_88 ln_88 ?_
          refine s_goto (pc := 88) 92 dX11_working_88 rfl ?_
          refine s_sub [2] rfl ?_
          exact Mo_working_92_sem hG (x45.2.1 88 (((392 : Int32) + u2_43) + v1).toNatClampNeg) x45.2
  · refine s_iconst (pc := 23) (v := 0) dX11_working_23 rfl ?_
    exact s_iret (pc := 24) dX11_working_24 rfl rfl
def Mo_working  (v1 : Int32) (P : PH) : Option (Int32 × PH) :=
  (Mo_isThere P).bind fun (x2 : Int32) =>
  if x2 = 0 then
    Mo_working_13 v1 (1 : Int32) P
  else
    Mo_working_13 v1 (0 : Int32) P
set_option maxRecDepth 100000 in
set_option maxHeartbeats 4000000 in
theorem Mo_working_ok {G : GT} {l : Launch} (hG : GOK G l)  (v1 : Int32) (P : PH) : OkN G l yX11_working miX11_working 0 0 tIH [.ref (gA G 1), .int v1] P (Mo_working v1 P) := by
  refine okN_of hG _ [(0, .ref (gA G 1)), (1, .int v1)] rfl rfl rfl (Nat.le_of_ble_eq_true rfl) rfl ?_
  unfold Mo_working
  refine s_aload_n (pc := 0) 0 dX11_working_0 rfl rfl ?_
  refine s_aload_n (pc := 1) 0 dX11_working_1 rfl rfl ?_
  refine s_callV (k := 0) (n := 0) (pc := 2) [] (fun x2 => .int x2 :: [.ref (gA G 1)]) (fun _ => P) dX11_working_2 (cV_X11_326 hG) (Nat.le_of_ble_eq_true rfl) rfl kd_1 (Mo_isThere_ok hG P) rfl (fun _ => rfl) (fun _ => rfl) (Nat.le_of_ble_eq_true rfl) rfl rfl (fun x2 => ?_)
  refine s_if_eq (pc := 5) 12 dX11_working_5 rfl ?_ ?_
  · refine s_iconst (pc := 12) (v := 1) dX11_working_12 rfl ?_
    exact Mo_working_13_sem hG v1 (1 : Int32) P
  · refine s_iconst (pc := 8) (v := 0) dX11_working_8 rfl ?_
    refine s_goto (pc := 9) 13 dX11_working_9 rfl ?_
    exact Mo_working_13_sem hG v1 (0 : Int32) P
def Mo_work_13   (s0 : Int32) (P : PH) : Option (Int32 × PH) :=
  (some (sI P 1 5 s0)).bind fun (P13 : PH) =>
  if (P13.1 1 5) ≤ 0 then
    (Mo_works P13).bind fun (x28 : Int32 × PH) =>
    some (x28.1, x28.2)
  else
    some ((0 : Int32), P13)
set_option maxRecDepth 100000 in
set_option maxHeartbeats 4000000 in
theorem Mo_work_13_sem {G : GT} {l : Launch} (hG : GOK G l)  (s0 : Int32) (P : PH)   : Sem G l miX11_work 0 0 (rn tIH) 13 [(0, .ref (gA G 1))] [.int s0, .ref (gA G 1)] P (Mo_work_13 s0 P) := by
  unfold Mo_work_13
  refine s_putI (pc := 13) dX11_work_13 (fp_X11_86 hG) kd_1 ?_
  refine s_letP (fun P13 => ?_)
  refine s_aload_n (pc := 16) 0 dX11_work_16 rfl rfl ?_
  refine s_getI (pc := 17) dX11_work_17 (fi_X11_86 hG) kd_1 ?_
  refine s_if_le (pc := 20) 27 dX11_work_20 rfl ?_ ?_
  · refine s_aload_n (pc := 27) 0 dX11_work_27 rfl rfl ?_
    refine s_callV (k := 0) (n := 0) (pc := 28) [] (fun x28 => .int (x28.1) :: []) (fun x28 => x28.2) dX11_work_28 (cV_X11_387 hG) (Nat.le_of_ble_eq_true rfl) rfl kd_1 (Mo_works_ok hG P13) rfl (fun _ => rfl) (fun _ => rfl) (Nat.le_of_ble_eq_true rfl) rfl rfl (fun x28 => ?_)
    exact s_iret (pc := 31) dX11_work_31 rfl rfl
  · refine s_iconst (pc := 23) (v := 0) dX11_work_23 rfl ?_
    refine s_goto (pc := 24) 31 dX11_work_24 rfl ?_
    exact s_iret (pc := 31) dX11_work_31 rfl rfl
def Mo_work   (P : PH) : Option (Int32 × PH) :=
  (Mo_isThere P).bind fun (x2 : Int32) =>
  if x2 = 0 then
    Mo_work_13 (1 : Int32) P
  else
    Mo_work_13 (0 : Int32) P
set_option maxRecDepth 100000 in
set_option maxHeartbeats 4000000 in
theorem Mo_work_ok {G : GT} {l : Launch} (hG : GOK G l)   (P : PH) : OkN G l yX11_work miX11_work 0 0 tIH [.ref (gA G 1)] P (Mo_work P) := by
  refine okN_of hG _ [(0, .ref (gA G 1))] rfl rfl rfl (Nat.le_of_ble_eq_true rfl) rfl ?_
  unfold Mo_work
  refine s_aload_n (pc := 0) 0 dX11_work_0 rfl rfl ?_
  refine s_aload_n (pc := 1) 0 dX11_work_1 rfl rfl ?_
  refine s_callV (k := 0) (n := 0) (pc := 2) [] (fun x2 => .int x2 :: [.ref (gA G 1)]) (fun _ => P) dX11_work_2 (cV_X11_326 hG) (Nat.le_of_ble_eq_true rfl) rfl kd_1 (Mo_isThere_ok hG P) rfl (fun _ => rfl) (fun _ => rfl) (Nat.le_of_ble_eq_true rfl) rfl rfl (fun x2 => ?_)
  refine s_if_eq (pc := 5) 12 dX11_work_5 rfl ?_ ?_
  · refine s_iconst (pc := 12) (v := 1) dX11_work_12 rfl ?_
    exact Mo_work_13_sem hG (1 : Int32) P
  · refine s_iconst (pc := 8) (v := 0) dX11_work_8 rfl ?_
    refine s_goto (pc := 9) 13 dX11_work_9 rfl ?_
    exact Mo_work_13_sem hG (0 : Int32) P
def Mo_waysOn_19 (rec : PH → Option (Int32 × PH))    : Nat → Int32 → Int32 → PH → Option (Int32 × PH)
  | 0 => fun _ _ _ => none
  | n + 1 => fun v1 v2 P =>
    if (8 : Int32) ≤ v2 then
      some (v1, P)
    else
      (Mo_goesWell v2 P).bind fun (x27 : Int32 × PH) =>
      if x27.1 = 0 then
        Mo_waysOn_19 rec n v1 (v2 + 1) x27.2
      else
        (rec x27.2).bind fun (x38 : Int32 × PH) =>
        (some (v1 + (x38.1))).bind fun (u1_42 : Int32) =>
        (Mo_backs x38.2).bind fun (x44 : PH) =>
        Mo_waysOn_19 rec n u1_42 (v2 + 1) x44
set_option maxRecDepth 100000 in
set_option maxHeartbeats 4000000 in
theorem Mo_waysOn_19_sem {G : GT} {l : Launch} (hG : GOK G l) (d : Nat) (rec : PH → Option (Int32 × PH)) (hrec : ∀  (P : PH), OkN G l yX11_waysOn (miX11_waysOn (d)) 0 0 tIH [.ref (gA G 1)] P (rec  P))     : ∀ (n : Nat) (v1 : Int32) (v2 : Int32) (P : PH), Sem G l (miX11_waysOn (d + 1)) 0 0 (rn tIH) 19 [(0, .ref (gA G 1)), (1, .int v1), (2, .int v2)] [] P (Mo_waysOn_19 rec n v1 v2 P) := by
  intro n
  induction n with
  | zero => intro v1 v2 P; exact s_none rfl
  | succ n ih =>
    intro v1 v2 P
    rw [Mo_waysOn_19]
    refine s_iload_n (pc := 19) 2 dX11_waysOn_19 rfl rfl ?_
    refine s_bipush (pc := 20) (v := 8) dX11_waysOn_20 rfl ?_
    refine s_icmp_ge (pc := 22) 53 dX11_waysOn_22 rfl ?_ ?_
    · refine s_iload_n (pc := 53) 1 dX11_waysOn_53 rfl rfl ?_
      exact s_iret (pc := 54) dX11_waysOn_54 rfl rfl
    · refine s_aload_n (pc := 25) 0 dX11_waysOn_25 rfl rfl ?_
      refine s_iload_n (pc := 26) 2 dX11_waysOn_26 rfl rfl ?_
      refine s_callV (k := 0) (n := 0) (pc := 27) [.int v2] (fun x27 => .int (x27.1) :: []) (fun x27 => x27.2) dX11_waysOn_27 (cV_X11_384 hG) (by simp only [hiOf, miX11_waysOn, miX11_goesWell]; omega) rfl kd_1 (Mo_goesWell_ok hG v2 P) rfl (fun _ => rfl) (fun _ => rfl) (Nat.le_of_ble_eq_true rfl) rfl rfl (fun x27 => ?_)
      refine s_if_ne (pc := 30) 36 dX11_waysOn_30 rfl ?_ ?_
      · refine s_goto (pc := 33) 47 dX11_waysOn_33 rfl ?_
        refine s_iinc (pc := 47) 2 1 [(2, .int (v2 + 1)), (0, .ref (gA G 1)), (1, .int v1)] dX11_waysOn_47 rfl rfl (Nat.le_of_ble_eq_true rfl) rfl ?_
        refine s_goto (pc := 50) 19 dX11_waysOn_50 rfl ?_
        refine s_sub [1, 2, 0] rfl ?_
        exact ih v1 (v2 + 1) x27.2
      · refine s_iload_n (pc := 36) 1 dX11_waysOn_36 rfl rfl ?_
        refine s_aload_n (pc := 37) 0 dX11_waysOn_37 rfl rfl ?_
        refine s_callV (k := 0) (n := 0) (pc := 38) [] (fun x38 => .int (x38.1) :: [.int v1]) (fun x38 => x38.2) dX11_waysOn_38 (cV_X11_390 hG d) (by simp only [hiOf, miX11_waysOn, miX11_waysOn]; omega) rfl kd_1 (hrec x27.2) rfl (fun _ => rfl) (fun _ => rfl) (Nat.le_of_ble_eq_true rfl) rfl rfl (fun x38 => ?_)
        refine s_iadd (pc := 41) dX11_waysOn_41 ?_
        refine s_letI (fun u1_42 => ?_)
        refine s_istore_n (pc := 42) [(1, .int u1_42), (0, .ref (gA G 1)), (2, .int v2)] dX11_waysOn_42 rfl (Nat.le_of_ble_eq_true rfl) rfl ?_
        refine s_aload_n (pc := 43) 1 dX11_waysOn_43 rfl rfl ?_
        refine s_callV (k := 0) (n := 0) (pc := 44) [] (fun _ => []) (fun x44 => x44) dX11_waysOn_44 (cV_X11_351 hG) (by simp only [hiOf, miX11_waysOn, miX11_backs]; omega) rfl kd_1 (Mo_backs_ok hG x38.2) rfl (fun _ => rfl) (fun _ => rfl) (Nat.le_of_ble_eq_true rfl) rfl rfl (fun x44 => ?_)
        refine s_iinc (pc := 47) 2 1 [(2, .int (v2 + 1)), (1, .int u1_42), (0, .ref (gA G 1))] dX11_waysOn_47 rfl rfl (Nat.le_of_ble_eq_true rfl) rfl ?_
        refine s_goto (pc := 50) 19 dX11_waysOn_50 rfl ?_
        refine s_sub [2, 1, 0] rfl ?_
        exact ih u1_42 (v2 + 1) x44
def Mo_waysOn_step (rec : PH → Option (Int32 × PH))  (P : PH) : Option (Int32 × PH) :=
  gdI (3 : Int32) 512 <|
  (Mo_leftOf (P.1 88 (3 : Int32).toNatClampNeg) P).bind fun (x7 : Int32) =>
  if x7 = 0 then
    some ((1 : Int32), P)
  else
    Mo_waysOn_19 rec bigN (0 : Int32) (0 : Int32) P
def Mo_waysOn : Nat → PH → Option (Int32 × PH)
  | 0 => fun _ => none
  | d + 1 => fun P => Mo_waysOn_step (Mo_waysOn d) P
set_option maxRecDepth 100000 in
set_option maxHeartbeats 4000000 in
theorem Mo_waysOn_step_ok {G : GT} {l : Launch} (hG : GOK G l) (d : Nat) (rec : PH → Option (Int32 × PH)) (hrec : ∀  (P : PH), OkN G l yX11_waysOn (miX11_waysOn (d)) 0 0 tIH [.ref (gA G 1)] P (rec  P))  (P : PH) : OkN G l yX11_waysOn (miX11_waysOn (d + 1)) 0 0 tIH [.ref (gA G 1)] P (Mo_waysOn_step rec P) := by
  refine okN_of hG _ [(0, .ref (gA G 1))] rfl rfl rfl (Nat.le_of_ble_eq_true rfl) rfl ?_
  unfold Mo_waysOn_step
  refine s_aload_n (pc := 0) 0 dX11_waysOn_0 rfl rfl ?_
  refine s_aload_n (pc := 1) 0 dX11_waysOn_1 rfl rfl ?_
  refine s_getR (pc := 2) 88 dX11_waysOn_2 (fi_X11_9 hG) kd_1 rfl ?_
  refine s_iconst (pc := 5) (v := 3) dX11_waysOn_5 rfl ?_
  refine s_iald (pc := 6) 512 dX11_waysOn_6 kd_88 ln_88 ?_
  refine s_callV (k := 0) (n := 0) (pc := 7) [.int (P.1 88 (3 : Int32).toNatClampNeg)] (fun x7 => .int x7 :: []) (fun _ => P) dX11_waysOn_7 (cV_X11_365 hG) (by simp only [hiOf, miX11_waysOn, miX11_leftOf]; omega) rfl kd_1 (Mo_leftOf_ok hG (P.1 88 (3 : Int32).toNatClampNeg) P) rfl (fun _ => rfl) (fun _ => rfl) (Nat.le_of_ble_eq_true rfl) rfl rfl (fun x7 => ?_)
  refine s_if_ne (pc := 10) 15 dX11_waysOn_10 rfl ?_ ?_
  · refine s_iconst (pc := 13) (v := 1) dX11_waysOn_13 rfl ?_
    exact s_iret (pc := 14) dX11_waysOn_14 rfl rfl
  · refine s_iconst (pc := 15) (v := 0) dX11_waysOn_15 rfl ?_
    refine s_istore_n (pc := 16) [(1, .int ((0 : Int32))), (0, .ref (gA G 1))] dX11_waysOn_16 rfl (Nat.le_of_ble_eq_true rfl) rfl ?_
    refine s_iconst (pc := 17) (v := 0) dX11_waysOn_17 rfl ?_
    refine s_istore_n (pc := 18) [(2, .int ((0 : Int32))), (1, .int ((0 : Int32))), (0, .ref (gA G 1))] dX11_waysOn_18 rfl (Nat.le_of_ble_eq_true rfl) rfl ?_
    refine s_sub [2, 1, 0] rfl ?_
    exact Mo_waysOn_19_sem hG d rec hrec bigN (0 : Int32) (0 : Int32) P
set_option maxRecDepth 100000 in
set_option maxHeartbeats 4000000 in
theorem Mo_waysOn_ok {G : GT} {l : Launch} (hG : GOK G l) : ∀ (d : Nat)  (P : PH), OkN G l yX11_waysOn (miX11_waysOn d) 0 0 tIH [.ref (gA G 1)] P (Mo_waysOn d P) := by
  intro d
  induction d with
  | zero => intro  P z hz; cases hz
  | succ d ih => intro  P; exact Mo_waysOn_step_ok hG d (Mo_waysOn d) ih  P
def Mo_ways_13   (s0 : Int32) (P : PH) : Option (Int32 × PH) :=
  (some (sI P 1 5 s0)).bind fun (P13 : PH) =>
  if (P13.1 1 5) ≤ 0 then
    gdI (3 : Int32) 512 <|
    (Mo_leftOf (P13.1 88 (3 : Int32).toNatClampNeg) P13).bind fun (x32 : Int32) =>
    if x32 ≤ (16 : Int32) then
      (Mo_barsNow P13).bind fun (x44 : Int32 × PH) =>
      if x44.1 = 0 then
        (Mo_waysOn 20 x44.2).bind fun (x51 : Int32 × PH) =>
        some (x51.1, x51.2)
      else
        some ((0 : Int32), x44.2)
    else
      some ((-2 : Int32), P13)
  else
    some ((0 : Int32), P13)
set_option maxRecDepth 100000 in
set_option maxHeartbeats 4000000 in
theorem Mo_ways_13_sem {G : GT} {l : Launch} (hG : GOK G l)  (s0 : Int32) (P : PH)   : Sem G l miX11_ways 0 0 (rn tIH) 13 [(0, .ref (gA G 1))] [.int s0, .ref (gA G 1)] P (Mo_ways_13 s0 P) := by
  unfold Mo_ways_13
  refine s_putI (pc := 13) dX11_ways_13 (fp_X11_86 hG) kd_1 ?_
  refine s_letP (fun P13 => ?_)
  refine s_aload_n (pc := 16) 0 dX11_ways_16 rfl rfl ?_
  refine s_getI (pc := 17) dX11_ways_17 (fi_X11_86 hG) kd_1 ?_
  refine s_if_le (pc := 20) 25 dX11_ways_20 rfl ?_ ?_
  · refine s_aload_n (pc := 25) 0 dX11_ways_25 rfl rfl ?_
    refine s_aload_n (pc := 26) 0 dX11_ways_26 rfl rfl ?_
    refine s_getR (pc := 27) 88 dX11_ways_27 (fi_X11_9 hG) kd_1 rfl ?_
    refine s_iconst (pc := 30) (v := 3) dX11_ways_30 rfl ?_
    refine s_iald (pc := 31) 512 dX11_ways_31 kd_88 ln_88 ?_
    refine s_callV (k := 0) (n := 0) (pc := 32) [.int (P13.1 88 (3 : Int32).toNatClampNeg)] (fun x32 => .int x32 :: []) (fun _ => P13) dX11_ways_32 (cV_X11_365 hG) (Nat.le_of_ble_eq_true rfl) rfl kd_1 (Mo_leftOf_ok hG (P13.1 88 (3 : Int32).toNatClampNeg) P13) rfl (fun _ => rfl) (fun _ => rfl) (Nat.le_of_ble_eq_true rfl) rfl rfl (fun x32 => ?_)
    refine s_bipush (pc := 35) (v := 16) dX11_ways_35 rfl ?_
    refine s_icmp_le (pc := 37) 43 dX11_ways_37 rfl ?_ ?_
    · refine s_aload_n (pc := 43) 0 dX11_ways_43 rfl rfl ?_
      refine s_callV (k := 0) (n := 0) (pc := 44) [] (fun x44 => .int (x44.1) :: []) (fun x44 => x44.2) dX11_ways_44 (cV_X11_381 hG) (Nat.le_of_ble_eq_true rfl) rfl kd_1 (Mo_barsNow_ok hG P13) rfl (fun _ => rfl) (fun _ => rfl) (Nat.le_of_ble_eq_true rfl) rfl rfl (fun x44 => ?_)
      refine s_if_ne (pc := 47) 57 dX11_ways_47 rfl ?_ ?_
      · refine s_aload_n (pc := 50) 0 dX11_ways_50 rfl rfl ?_
        refine s_callV (k := 0) (n := 0) (pc := 51) [] (fun x51 => .int (x51.1) :: []) (fun x51 => x51.2) dX11_ways_51 (cV_X11_390 hG 20) (by simp only [hiOf, miX11_ways, miX11_waysOn]; omega) rfl kd_1 (Mo_waysOn_ok hG 20 x44.2) rfl (fun _ => rfl) (fun _ => rfl) (Nat.le_of_ble_eq_true rfl) rfl rfl (fun x51 => ?_)
        refine s_goto (pc := 54) 58 dX11_ways_54 rfl ?_
        exact s_iret (pc := 58) dX11_ways_58 rfl rfl
      · refine s_iconst (pc := 57) (v := 0) dX11_ways_57 rfl ?_
        exact s_iret (pc := 58) dX11_ways_58 rfl rfl
    · refine s_bipush (pc := 40) (v := (-2)) dX11_ways_40 rfl ?_
      exact s_iret (pc := 42) dX11_ways_42 rfl rfl
  · refine s_iconst (pc := 23) (v := 0) dX11_ways_23 rfl ?_
    exact s_iret (pc := 24) dX11_ways_24 rfl rfl
def Mo_ways   (P : PH) : Option (Int32 × PH) :=
  (Mo_isThere P).bind fun (x2 : Int32) =>
  if x2 = 0 then
    Mo_ways_13 (1 : Int32) P
  else
    Mo_ways_13 (0 : Int32) P
set_option maxRecDepth 100000 in
set_option maxHeartbeats 4000000 in
theorem Mo_ways_ok {G : GT} {l : Launch} (hG : GOK G l)   (P : PH) : OkN G l yX11_ways miX11_ways 0 0 tIH [.ref (gA G 1)] P (Mo_ways P) := by
  refine okN_of hG _ [(0, .ref (gA G 1))] rfl rfl rfl (Nat.le_of_ble_eq_true rfl) rfl ?_
  unfold Mo_ways
  refine s_aload_n (pc := 0) 0 dX11_ways_0 rfl rfl ?_
  refine s_aload_n (pc := 1) 0 dX11_ways_1 rfl rfl ?_
  refine s_callV (k := 0) (n := 0) (pc := 2) [] (fun x2 => .int x2 :: [.ref (gA G 1)]) (fun _ => P) dX11_ways_2 (cV_X11_326 hG) (Nat.le_of_ble_eq_true rfl) rfl kd_1 (Mo_isThere_ok hG P) rfl (fun _ => rfl) (fun _ => rfl) (Nat.le_of_ble_eq_true rfl) rfl rfl (fun x2 => ?_)
  refine s_if_eq (pc := 5) 12 dX11_ways_5 rfl ?_ ?_
  · refine s_iconst (pc := 12) (v := 1) dX11_ways_12 rfl ?_
    exact Mo_ways_13_sem hG (1 : Int32) P
  · refine s_iconst (pc := 8) (v := 0) dX11_ways_8 rfl ?_
    refine s_goto (pc := 9) 13 dX11_ways_9 rfl ?_
    exact Mo_ways_13_sem hG (0 : Int32) P
def Mo_isWell_142  (r122 : Int32 → PH → Option (Int32 × PH)) (v1 : Int32) (v2 : Int32) (v3 : Int32) (v5 : Int32) (v6 : Int32) (P : PH) : Option (Int32 × PH) :=
  (Mo_holeBehind v6 P).bind fun (x150 : Int32) =>
  gdI ((392 : Int32) + v6) 512 <|
  (Mo_find 88 x150 (P.1 88 ((392 : Int32) + v6).toNatClampNeg) P).bind fun (x164 : Int32) =>
  (Mo_isOver v6 P).bind fun (x170 : Int32) =>
  (Mo_turns x164 x170 P).bind fun (x173 : PH) =>
  r122 (v6 + 1) x173
set_option maxRecDepth 100000 in
set_option maxHeartbeats 4000000 in
theorem Mo_isWell_142_sem {G : GT} {l : Launch} (hG : GOK G l)  (v1 : Int32) (v2 : Int32) (v3 : Int32) (v5 : Int32) (v6 : Int32) (P : PH)  (r122 : Int32 → PH → Option (Int32 × PH)) (hr122 : ∀ (v6 : Int32) (P : PH), Sem G l miX11_isWell 0 0 (rn tIH) 122 [(0, .ref (gA G 1)), (1, .int v1), (2, .int v2), (3, .int v3), (5, .int v5), (6, .int v6)] [] P (r122 v6 P)) : Sem G l miX11_isWell 0 0 (rn tIH) 142 [(0, .ref (gA G 1)), (1, .int v1), (2, .int v2), (3, .int v3), (5, .int v5), (6, .int v6)] [] P (Mo_isWell_142 r122 v1 v2 v3 v5 v6 P) := by
  unfold Mo_isWell_142
  refine s_aload_n (pc := 142) 0 dX11_isWell_142 rfl rfl ?_
  refine s_aload_n (pc := 143) 0 dX11_isWell_143 rfl rfl ?_
  refine s_getR (pc := 144) 88 dX11_isWell_144 (fi_X11_9 hG) kd_1 rfl ?_
  refine s_aload_n (pc := 147) 0 dX11_isWell_147 rfl rfl ?_
  refine s_iload (pc := 148) 5 dX11_isWell_148 rfl ?_
  refine s_callV (k := 0) (n := 0) (pc := 150) [.int v6] (fun x150 => .int x150 :: [.ref (gA G 88), .ref (gA G 1)]) (fun _ => P) dX11_isWell_150 (cV_X11_323 hG) (Nat.le_of_ble_eq_true rfl) rfl kd_1 (Mo_holeBehind_ok hG v6 P) rfl (fun _ => rfl) (fun _ => rfl) (Nat.le_of_ble_eq_true rfl) rfl rfl (fun x150 => ?_)
  refine s_aload_n (pc := 153) 0 dX11_isWell_153 rfl rfl ?_
  refine s_getR (pc := 154) 88 dX11_isWell_154 (fi_X11_9 hG) kd_1 rfl ?_
  refine s_sipush (pc := 157) (v := 392) dX11_isWell_157 rfl ?_
  refine s_iload (pc := 160) 5 dX11_isWell_160 rfl ?_
  refine s_iadd (pc := 162) dX11_isWell_162 ?_
  refine s_iald (pc := 163) 512 dX11_isWell_163 kd_88 ln_88 ?_
  refine s_callS (k := 0) (n := 0) (pc := 164) [.ref (gA G 88), .int x150, .int (P.1 88 ((392 : Int32) + v6).toNatClampNeg)] (fun x164 => .int x164 :: [.ref (gA G 1)]) (fun _ => P) dX11_isWell_164 (cS_X11_236 hG) (Nat.le_of_ble_eq_true rfl) rfl (Mo_find_ok hG 88 ⟨kd_88, ln_88⟩ x150 (P.1 88 ((392 : Int32) + v6).toNatClampNeg) P) rfl (fun _ => rfl) (fun _ => rfl) (Nat.le_of_ble_eq_true rfl) rfl rfl (fun x164 => ?_)
  refine s_aload_n (pc := 167) 0 dX11_isWell_167 rfl rfl ?_
  refine s_iload (pc := 168) 5 dX11_isWell_168 rfl ?_
  refine s_callV (k := 0) (n := 0) (pc := 170) [.int v6] (fun x170 => .int x170 :: [.int x164, .ref (gA G 1)]) (fun _ => P) dX11_isWell_170 (cV_X11_333 hG) (Nat.le_of_ble_eq_true rfl) rfl kd_1 (Mo_isOver_ok hG v6 P) rfl (fun _ => rfl) (fun _ => rfl) (Nat.le_of_ble_eq_true rfl) rfl rfl (fun x170 => ?_)
  refine s_callV (k := 0) (n := 0) (pc := 173) [.int x164, .int x170] (fun _ => []) (fun x173 => x173) dX11_isWell_173 (cV_X11_340 hG) (Nat.le_of_ble_eq_true rfl) rfl kd_1 (Mo_turns_ok hG x164 x170 P) rfl (fun _ => rfl) (fun _ => rfl) (Nat.le_of_ble_eq_true rfl) rfl rfl (fun x173 => ?_)
  refine s_iinc (pc := 176) 5 1 [(6, .int (v6 + 1)), (0, .ref (gA G 1)), (1, .int v1), (2, .int v2), (3, .int v3), (5, .int v5)] dX11_isWell_176 rfl rfl (Nat.le_of_ble_eq_true rfl) rfl ?_
  refine s_goto (pc := 179) 122 dX11_isWell_179 rfl ?_
  refine s_sub [1, 2, 3, 4, 5, 0] rfl ?_
  exact hr122 (v6 + 1) x173
def Mo_isWell_122   (v1 : Int32) (v2 : Int32) (v3 : Int32) (v5 : Int32)  : Nat → Int32 → PH → Option (Int32 × PH)
  | 0 => fun _ _ => none
  | n + 1 => fun v6 P =>
    if v3 ≤ v6 then
      gdP (v5 = 0 ∨ v5 = 1) <|
      some (v5, P)
    else
      if v6 < v1 then
        Mo_isWell_142 (Mo_isWell_122 v1 v2 v3 v5 n) v1 v2 v3 v5 v6 P
      else
        if v6 < (v3 - v2) then
          Mo_isWell_122 v1 v2 v3 v5 n (v6 + 1) P
        else
          Mo_isWell_142 (Mo_isWell_122 v1 v2 v3 v5 n) v1 v2 v3 v5 v6 P
set_option maxRecDepth 100000 in
set_option maxHeartbeats 4000000 in
theorem Mo_isWell_122_sem {G : GT} {l : Launch} (hG : GOK G l)  (v1 : Int32) (v2 : Int32) (v3 : Int32) (v5 : Int32)    : ∀ (n : Nat) (v6 : Int32) (P : PH), Sem G l miX11_isWell 0 0 (rn tIH) 122 [(0, .ref (gA G 1)), (1, .int v1), (2, .int v2), (3, .int v3), (5, .int v5), (6, .int v6)] [] P (Mo_isWell_122 v1 v2 v3 v5 n v6 P) := by
  intro n
  induction n with
  | zero => intro v6 P; exact s_none rfl
  | succ n ih =>
    intro v6 P
    rw [Mo_isWell_122]
    refine s_iload (pc := 122) 5 dX11_isWell_122 rfl ?_
    refine s_iload_n (pc := 124) 3 dX11_isWell_124 rfl rfl ?_
    refine s_icmp_ge (pc := 125) 182 dX11_isWell_125 rfl ?_ ?_
    · refine s_iload (pc := 182) 4 dX11_isWell_182 rfl ?_
      exact s_zret (pc := 184) dX11_isWell_184 rfl rfl
    · refine s_iload (pc := 128) 5 dX11_isWell_128 rfl ?_
      refine s_iload_n (pc := 130) 1 dX11_isWell_130 rfl rfl ?_
      refine s_icmp_lt (pc := 131) 142 dX11_isWell_131 rfl ?_ ?_
      · exact Mo_isWell_142_sem hG v1 v2 v3 v5 v6 P (Mo_isWell_122 v1 v2 v3 v5 n) ih
      · refine s_iload (pc := 134) 5 dX11_isWell_134 rfl ?_
        refine s_iload_n (pc := 136) 3 dX11_isWell_136 rfl rfl ?_
        refine s_iload_n (pc := 137) 2 dX11_isWell_137 rfl rfl ?_
        refine s_isub (pc := 138) dX11_isWell_138 ?_
        refine s_icmp_lt (pc := 139) 176 dX11_isWell_139 rfl ?_ ?_
        · refine s_iinc (pc := 176) 5 1 [(6, .int (v6 + 1)), (0, .ref (gA G 1)), (1, .int v1), (2, .int v2), (3, .int v3), (5, .int v5)] dX11_isWell_176 rfl rfl (Nat.le_of_ble_eq_true rfl) rfl ?_
          refine s_goto (pc := 179) 122 dX11_isWell_179 rfl ?_
          refine s_sub [1, 2, 3, 4, 5, 0] rfl ?_
          exact ih (v6 + 1) P
        · exact Mo_isWell_142_sem hG v1 v2 v3 v5 v6 P (Mo_isWell_122 v1 v2 v3 v5 n) ih
def Mo_isWell_85   (v1 : Int32) (v2 : Int32) (v3 : Int32) (s0 : Int32) (P : PH) : Option (Int32 × PH) :=
  gdI (3 : Int32) 512 <|
  (Mo_holeBehind s0 P).bind fun (x97 : Int32) =>
  (Mo_isOver s0 P).bind fun (x103 : Int32) =>
  (Mo_bars (P.1 88 (3 : Int32).toNatClampNeg) x97 x103 P).bind fun (x106 : Int32 × PH) =>
  if x106.1 = 0 then
    Mo_isWell_122 v1 v2 v3 (1 : Int32) bigN (0 : Int32) x106.2
  else
    Mo_isWell_122 v1 v2 v3 (0 : Int32) bigN (0 : Int32) x106.2
set_option maxRecDepth 100000 in
set_option maxHeartbeats 4000000 in
theorem Mo_isWell_85_sem {G : GT} {l : Launch} (hG : GOK G l)  (v1 : Int32) (v2 : Int32) (v3 : Int32) (s0 : Int32) (P : PH)   : Sem G l miX11_isWell 0 0 (rn tIH) 85 [(0, .ref (gA G 1)), (1, .int v1), (2, .int v2), (3, .int v3)] [.int s0] P (Mo_isWell_85 v1 v2 v3 s0 P) := by
  unfold Mo_isWell_85
  refine s_istore (pc := 85) [(4, .int s0), (0, .ref (gA G 1)), (1, .int v1), (2, .int v2), (3, .int v3)] dX11_isWell_85 (Nat.le_of_ble_eq_true rfl) rfl ?_
  refine s_aload_n (pc := 87) 1 dX11_isWell_87 rfl rfl ?_
  refine s_aload_n (pc := 88) 1 dX11_isWell_88 rfl rfl ?_
  refine s_getR (pc := 89) 88 dX11_isWell_89 (fi_X11_9 hG) kd_1 rfl ?_
  refine s_iconst (pc := 92) (v := 3) dX11_isWell_92 rfl ?_
  refine s_iald (pc := 93) 512 dX11_isWell_93 kd_88 ln_88 ?_
  refine s_aload_n (pc := 94) 1 dX11_isWell_94 rfl rfl ?_
  refine s_iload (pc := 95) 0 dX11_isWell_95 rfl ?_
  refine s_callV (k := 0) (n := 0) (pc := 97) [.int s0] (fun x97 => .int x97 :: [.int (P.1 88 (3 : Int32).toNatClampNeg), .ref (gA G 1)]) (fun _ => P) dX11_isWell_97 (cV_X11_323 hG) (Nat.le_of_ble_eq_true rfl) rfl kd_1 (Mo_holeBehind_ok hG s0 P) rfl (fun _ => rfl) (fun _ => rfl) (Nat.le_of_ble_eq_true rfl) rfl rfl (fun x97 => ?_)
  refine s_aload_n (pc := 100) 1 dX11_isWell_100 rfl rfl ?_
  refine s_iload (pc := 101) 0 dX11_isWell_101 rfl ?_
  refine s_callV (k := 0) (n := 0) (pc := 103) [.int s0] (fun x103 => .int x103 :: [.int x97, .int (P.1 88 (3 : Int32).toNatClampNeg), .ref (gA G 1)]) (fun _ => P) dX11_isWell_103 (cV_X11_333 hG) (Nat.le_of_ble_eq_true rfl) rfl kd_1 (Mo_isOver_ok hG s0 P) rfl (fun _ => rfl) (fun _ => rfl) (Nat.le_of_ble_eq_true rfl) rfl rfl (fun x103 => ?_)
  refine s_callV (k := 0) (n := 0) (pc := 106) [.int (P.1 88 (3 : Int32).toNatClampNeg), .int x97, .int x103] (fun x106 => .int (x106.1) :: []) (fun x106 => x106.2) dX11_isWell_106 (cV_X11_377 hG) (Nat.le_of_ble_eq_true rfl) rfl kd_1 (Mo_bars_ok hG (P.1 88 (3 : Int32).toNatClampNeg) x97 x103 P) rfl (fun _ => rfl) (fun _ => rfl) (Nat.le_of_ble_eq_true rfl) rfl rfl (fun x106 => ?_)
  refine s_if_ne (pc := 109) 116 dX11_isWell_109 rfl ?_ ?_
  · refine s_iconst (pc := 112) (v := 1) dX11_isWell_112 rfl ?_
    refine s_goto (pc := 113) 117 dX11_isWell_113 rfl ?_
    refine s_istore (pc := 117) [(5, .int ((1 : Int32))), (4, .int s0), (0, .ref (gA G 1)), (1, .int v1), (2, .int v2), (3, .int v3)] dX11_isWell_117 (Nat.le_of_ble_eq_true rfl) rfl ?_
    refine s_iconst (pc := 119) (v := 0) dX11_isWell_119 rfl ?_
    refine s_istore (pc := 120) [(6, .int ((0 : Int32))), (5, .int ((1 : Int32))), (4, .int s0), (0, .ref (gA G 1)), (1, .int v1), (2, .int v2), (3, .int v3)] dX11_isWell_120 (Nat.le_of_ble_eq_true rfl) rfl ?_
    refine s_sub [3, 4, 5, 6, 1, 0] rfl ?_
    exact Mo_isWell_122_sem hG v1 v2 v3 (1 : Int32) bigN (0 : Int32) x106.2
  · refine s_iconst (pc := 116) (v := 0) dX11_isWell_116 rfl ?_
    refine s_istore (pc := 117) [(5, .int ((0 : Int32))), (4, .int s0), (0, .ref (gA G 1)), (1, .int v1), (2, .int v2), (3, .int v3)] dX11_isWell_117 (Nat.le_of_ble_eq_true rfl) rfl ?_
    refine s_iconst (pc := 119) (v := 0) dX11_isWell_119 rfl ?_
    refine s_istore (pc := 120) [(6, .int ((0 : Int32))), (5, .int ((0 : Int32))), (4, .int s0), (0, .ref (gA G 1)), (1, .int v1), (2, .int v2), (3, .int v3)] dX11_isWell_120 (Nat.le_of_ble_eq_true rfl) rfl ?_
    refine s_sub [3, 4, 5, 6, 1, 0] rfl ?_
    exact Mo_isWell_122_sem hG v1 v2 v3 (0 : Int32) bigN (0 : Int32) x106.2
def Mo_isWell_71   (v1 : Int32) (v2 : Int32) (v3 : Int32) (P : PH) : Option (Int32 × PH) :=
  if (v1 + v2) = v3 then
    Mo_isWell_85 v1 v2 v3 (0 : Int32) P
  else
    Mo_isWell_85 v1 v2 v3 (v3 - v2) P
set_option maxRecDepth 100000 in
set_option maxHeartbeats 4000000 in
theorem Mo_isWell_71_sem {G : GT} {l : Launch} (hG : GOK G l)  (v1 : Int32) (v2 : Int32) (v3 : Int32) (P : PH)   : Sem G l miX11_isWell 0 0 (rn tIH) 71 [(0, .ref (gA G 1)), (1, .int v1), (2, .int v2), (3, .int v3)] [] P (Mo_isWell_71 v1 v2 v3 P) := by
  unfold Mo_isWell_71
  refine s_iload_n (pc := 71) 1 dX11_isWell_71 rfl rfl ?_
  refine s_iload_n (pc := 72) 2 dX11_isWell_72 rfl rfl ?_
  refine s_iadd (pc := 73) dX11_isWell_73 ?_
  refine s_iload_n (pc := 74) 3 dX11_isWell_74 rfl rfl ?_
  refine s_icmp_ne (pc := 75) 82 dX11_isWell_75 rfl ?_ ?_
  · refine s_iconst (pc := 78) (v := 0) dX11_isWell_78 rfl ?_
    refine s_goto (pc := 79) 85 dX11_isWell_79 rfl ?_
    exact Mo_isWell_85_sem hG v1 v2 v3 (0 : Int32) P
  · refine s_iload_n (pc := 82) 3 dX11_isWell_82 rfl rfl ?_
    refine s_iload_n (pc := 83) 2 dX11_isWell_83 rfl rfl ?_
    refine s_isub (pc := 84) dX11_isWell_84 ?_
    exact Mo_isWell_85_sem hG v1 v2 v3 (v3 - v2) P
def Mo_isWell_31  (r11 : Int32 → PH → Option (Int32 × PH)) (v1 : Int32) (v2 : Int32) (v3 : Int32) (v4 : Int32) (P : PH) : Option (Int32 × PH) :=
  (Mo_holeBehind v4 P).bind fun (x39 : Int32) =>
  gdI ((392 : Int32) + v4) 512 <|
  (Mo_find 88 x39 (P.1 88 ((392 : Int32) + v4).toNatClampNeg) P).bind fun (x53 : Int32) =>
  (Mo_isOver v4 P).bind fun (x59 : Int32) =>
  (Mo_turns x53 x59 P).bind fun (x62 : PH) =>
  r11 (v4 + 1) x62
set_option maxRecDepth 100000 in
set_option maxHeartbeats 4000000 in
theorem Mo_isWell_31_sem {G : GT} {l : Launch} (hG : GOK G l)  (v1 : Int32) (v2 : Int32) (v3 : Int32) (v4 : Int32) (P : PH)  (r11 : Int32 → PH → Option (Int32 × PH)) (hr11 : ∀ (v4 : Int32) (P : PH), Sem G l miX11_isWell 0 0 (rn tIH) 11 [(0, .ref (gA G 1)), (1, .int v1), (2, .int v2), (3, .int v3), (4, .int v4)] [] P (r11 v4 P)) : Sem G l miX11_isWell 0 0 (rn tIH) 31 [(0, .ref (gA G 1)), (1, .int v1), (2, .int v2), (3, .int v3), (4, .int v4)] [] P (Mo_isWell_31 r11 v1 v2 v3 v4 P) := by
  unfold Mo_isWell_31
  refine s_aload_n (pc := 31) 0 dX11_isWell_31 rfl rfl ?_
  refine s_aload_n (pc := 32) 0 dX11_isWell_32 rfl rfl ?_
  refine s_getR (pc := 33) 88 dX11_isWell_33 (fi_X11_9 hG) kd_1 rfl ?_
  refine s_aload_n (pc := 36) 0 dX11_isWell_36 rfl rfl ?_
  refine s_iload (pc := 37) 4 dX11_isWell_37 rfl ?_
  refine s_callV (k := 0) (n := 0) (pc := 39) [.int v4] (fun x39 => .int x39 :: [.ref (gA G 88), .ref (gA G 1)]) (fun _ => P) dX11_isWell_39 (cV_X11_323 hG) (Nat.le_of_ble_eq_true rfl) rfl kd_1 (Mo_holeBehind_ok hG v4 P) rfl (fun _ => rfl) (fun _ => rfl) (Nat.le_of_ble_eq_true rfl) rfl rfl (fun x39 => ?_)
  refine s_aload_n (pc := 42) 0 dX11_isWell_42 rfl rfl ?_
  refine s_getR (pc := 43) 88 dX11_isWell_43 (fi_X11_9 hG) kd_1 rfl ?_
  refine s_sipush (pc := 46) (v := 392) dX11_isWell_46 rfl ?_
  refine s_iload (pc := 49) 4 dX11_isWell_49 rfl ?_
  refine s_iadd (pc := 51) dX11_isWell_51 ?_
  refine s_iald (pc := 52) 512 dX11_isWell_52 kd_88 ln_88 ?_
  refine s_callS (k := 0) (n := 0) (pc := 53) [.ref (gA G 88), .int x39, .int (P.1 88 ((392 : Int32) + v4).toNatClampNeg)] (fun x53 => .int x53 :: [.ref (gA G 1)]) (fun _ => P) dX11_isWell_53 (cS_X11_236 hG) (Nat.le_of_ble_eq_true rfl) rfl (Mo_find_ok hG 88 ⟨kd_88, ln_88⟩ x39 (P.1 88 ((392 : Int32) + v4).toNatClampNeg) P) rfl (fun _ => rfl) (fun _ => rfl) (Nat.le_of_ble_eq_true rfl) rfl rfl (fun x53 => ?_)
  refine s_aload_n (pc := 56) 0 dX11_isWell_56 rfl rfl ?_
  refine s_iload (pc := 57) 4 dX11_isWell_57 rfl ?_
  refine s_callV (k := 0) (n := 0) (pc := 59) [.int v4] (fun x59 => .int x59 :: [.int x53, .ref (gA G 1)]) (fun _ => P) dX11_isWell_59 (cV_X11_333 hG) (Nat.le_of_ble_eq_true rfl) rfl kd_1 (Mo_isOver_ok hG v4 P) rfl (fun _ => rfl) (fun _ => rfl) (Nat.le_of_ble_eq_true rfl) rfl rfl (fun x59 => ?_)
  refine s_callV (k := 0) (n := 0) (pc := 62) [.int x53, .int x59] (fun _ => []) (fun x62 => x62) dX11_isWell_62 (cV_X11_340 hG) (Nat.le_of_ble_eq_true rfl) rfl kd_1 (Mo_turns_ok hG x53 x59 P) rfl (fun _ => rfl) (fun _ => rfl) (Nat.le_of_ble_eq_true rfl) rfl rfl (fun x62 => ?_)
  refine s_iinc (pc := 65) 4 1 [(4, .int (v4 + 1)), (0, .ref (gA G 1)), (1, .int v1), (2, .int v2), (3, .int v3)] dX11_isWell_65 rfl rfl (Nat.le_of_ble_eq_true rfl) rfl ?_
  refine s_goto (pc := 68) 11 dX11_isWell_68 rfl ?_
  refine s_sub [1, 2, 3, 4, 0] rfl ?_
  exact hr11 (v4 + 1) x62
def Mo_isWell_11   (v1 : Int32) (v2 : Int32) (v3 : Int32)  : Nat → Int32 → PH → Option (Int32 × PH)
  | 0 => fun _ _ => none
  | n + 1 => fun v4 P =>
    if v3 ≤ v4 then
      Mo_isWell_71 v1 v2 v3 P
    else
      if v4 < v1 then
        Mo_isWell_31 (Mo_isWell_11 v1 v2 v3 n) v1 v2 v3 v4 P
      else
        if v4 < (v3 - v2) then
          Mo_isWell_11 v1 v2 v3 n (v4 + 1) P
        else
          Mo_isWell_31 (Mo_isWell_11 v1 v2 v3 n) v1 v2 v3 v4 P
set_option maxRecDepth 100000 in
set_option maxHeartbeats 4000000 in
theorem Mo_isWell_11_sem {G : GT} {l : Launch} (hG : GOK G l)  (v1 : Int32) (v2 : Int32) (v3 : Int32)    : ∀ (n : Nat) (v4 : Int32) (P : PH), Sem G l miX11_isWell 0 0 (rn tIH) 11 [(0, .ref (gA G 1)), (1, .int v1), (2, .int v2), (3, .int v3), (4, .int v4)] [] P (Mo_isWell_11 v1 v2 v3 n v4 P) := by
  intro n
  induction n with
  | zero => intro v4 P; exact s_none rfl
  | succ n ih =>
    intro v4 P
    rw [Mo_isWell_11]
    refine s_iload (pc := 11) 4 dX11_isWell_11 rfl ?_
    refine s_iload_n (pc := 13) 3 dX11_isWell_13 rfl rfl ?_
    refine s_icmp_ge (pc := 14) 71 dX11_isWell_14 rfl ?_ ?_
    · refine s_sub [0, 1, 2, 3] rfl ?_
      exact Mo_isWell_71_sem hG v1 v2 v3 P
    · refine s_iload (pc := 17) 4 dX11_isWell_17 rfl ?_
      refine s_iload_n (pc := 19) 1 dX11_isWell_19 rfl rfl ?_
      refine s_icmp_lt (pc := 20) 31 dX11_isWell_20 rfl ?_ ?_
      · exact Mo_isWell_31_sem hG v1 v2 v3 v4 P (Mo_isWell_11 v1 v2 v3 n) ih
      · refine s_iload (pc := 23) 4 dX11_isWell_23 rfl ?_
        refine s_iload_n (pc := 25) 3 dX11_isWell_25 rfl rfl ?_
        refine s_iload_n (pc := 26) 2 dX11_isWell_26 rfl rfl ?_
        refine s_isub (pc := 27) dX11_isWell_27 ?_
        refine s_icmp_lt (pc := 28) 65 dX11_isWell_28 rfl ?_ ?_
        · refine s_iinc (pc := 65) 4 1 [(4, .int (v4 + 1)), (0, .ref (gA G 1)), (1, .int v1), (2, .int v2), (3, .int v3)] dX11_isWell_65 rfl rfl (Nat.le_of_ble_eq_true rfl) rfl ?_
          refine s_goto (pc := 68) 11 dX11_isWell_68 rfl ?_
          refine s_sub [1, 2, 3, 4, 0] rfl ?_
          exact ih (v4 + 1) P
        · exact Mo_isWell_31_sem hG v1 v2 v3 v4 P (Mo_isWell_11 v1 v2 v3 n) ih
def Mo_isWell  (v1 : Int32) (v2 : Int32) (P : PH) : Option (Int32 × PH) :=
  gdI (6 : Int32) 512 <|
  (some (P.1 88 (6 : Int32).toNatClampNeg)).bind fun (u3_7 : Int32) =>
  Mo_isWell_11 v1 v2 u3_7 bigN (0 : Int32) P
set_option maxRecDepth 100000 in
set_option maxHeartbeats 4000000 in
theorem Mo_isWell_ok {G : GT} {l : Launch} (hG : GOK G l)  (v1 : Int32) (v2 : Int32) (P : PH) : OkN G l yX11_isWell miX11_isWell 0 0 tIH [.ref (gA G 1), .int v1, .int v2] P (Mo_isWell v1 v2 P) := by
  refine okN_of hG _ [(0, .ref (gA G 1)), (1, .int v1), (2, .int v2)] rfl rfl rfl (Nat.le_of_ble_eq_true rfl) rfl ?_
  unfold Mo_isWell
  refine s_aload_n (pc := 0) 0 dX11_isWell_0 rfl rfl ?_
  refine s_getR (pc := 1) 88 dX11_isWell_1 (fi_X11_9 hG) kd_1 rfl ?_
  refine s_bipush (pc := 4) (v := 6) dX11_isWell_4 rfl ?_
  refine s_iald (pc := 6) 512 dX11_isWell_6 kd_88 ln_88 ?_
  refine s_letI (fun u3_7 => ?_)
  refine s_istore_n (pc := 7) [(3, .int u3_7), (0, .ref (gA G 1)), (1, .int v1), (2, .int v2)] dX11_isWell_7 rfl (Nat.le_of_ble_eq_true rfl) rfl ?_
  refine s_iconst (pc := 8) (v := 0) dX11_isWell_8 rfl ?_
  refine s_istore (pc := 9) [(4, .int ((0 : Int32))), (3, .int u3_7), (0, .ref (gA G 1)), (1, .int v1), (2, .int v2)] dX11_isWell_9 (Nat.le_of_ble_eq_true rfl) rfl ?_
  refine s_sub [2, 3, 4, 1, 0] rfl ?_
  exact Mo_isWell_11_sem hG v1 v2 u3_7 bigN (0 : Int32) P
def Mo_unpicked_96   (v2 : Int32) (v4 : Int32) (v5 : Int32) (P : PH) : Option (Int32 × PH) :=
  if v2 = 0 then
    some (v4, P)
  else
    if v2 = (1 : Int32) then
      some (v5, P)
    else
      some (v4 - v5, P)
set_option maxRecDepth 100000 in
set_option maxHeartbeats 4000000 in
theorem Mo_unpicked_96_sem {G : GT} {l : Launch} (hG : GOK G l)  (v2 : Int32) (v4 : Int32) (v5 : Int32) (P : PH)   : Sem G l miX11_unpicked 0 0 (rn tIH) 96 [(2, .int v2), (4, .int v4), (5, .int v5)] [] P (Mo_unpicked_96 v2 v4 v5 P) := by
  unfold Mo_unpicked_96
  refine s_iload_n (pc := 96) 0 dX11_unpicked_96 rfl rfl ?_
  refine s_if_ne (pc := 97) 105 dX11_unpicked_97 rfl ?_ ?_
  · refine s_iload (pc := 100) 1 dX11_unpicked_100 rfl ?_
    refine s_goto (pc := 102) 120 dX11_unpicked_102 rfl ?_
    exact s_iret (pc := 120) dX11_unpicked_120 rfl rfl
  · refine s_iload_n (pc := 105) 0 dX11_unpicked_105 rfl rfl ?_
    refine s_iconst (pc := 106) (v := 1) dX11_unpicked_106 rfl ?_
    refine s_icmp_ne (pc := 107) 115 dX11_unpicked_107 rfl ?_ ?_
    · refine s_iload (pc := 110) 2 dX11_unpicked_110 rfl ?_
      refine s_goto (pc := 112) 120 dX11_unpicked_112 rfl ?_
      exact s_iret (pc := 120) dX11_unpicked_120 rfl rfl
    · refine s_iload (pc := 115) 1 dX11_unpicked_115 rfl ?_
      refine s_iload (pc := 117) 2 dX11_unpicked_117 rfl ?_
      refine s_isub (pc := 119) dX11_unpicked_119 ?_
      exact s_iret (pc := 120) dX11_unpicked_120 rfl rfl
def Mo_unpicked_79  (r52 : Int32 → PH → Option (Int32 × PH)) (r61 : Int32 → PH → Option (Int32 × PH)) (v1 : Int32) (v2 : Int32) (v3 : Int32) (v4 : Int32) (v5 : Int32) (s0 : Int32) (s1 : Int32) (P : PH) : Option (Int32 × PH) :=
  if s0 < s1 then
    r52 (v4 + 1) P
  else
    (Mo_isWell v5 (v4 - v5) P).bind fun (x90 : Int32 × PH) =>
    if x90.1 = 0 then
      r61 (v5 + 1) x90.2
    else
      Mo_unpicked_96 v2 v4 v5 x90.2
set_option maxRecDepth 100000 in
set_option maxHeartbeats 4000000 in
theorem Mo_unpicked_79_sem {G : GT} {l : Launch} (hG : GOK G l)  (v1 : Int32) (v2 : Int32) (v3 : Int32) (v4 : Int32) (v5 : Int32) (s0 : Int32) (s1 : Int32) (P : PH)  (r52 : Int32 → PH → Option (Int32 × PH)) (hr52 : ∀ (v4 : Int32) (P : PH), Sem G l miX11_unpicked 0 0 (rn tIH) 52 [(0, .ref (gA G 1)), (1, .int v1), (2, .int v2), (3, .int v3), (4, .int v4)] [] P (r52 v4 P)) (r61 : Int32 → PH → Option (Int32 × PH)) (hr61 : ∀ (v5 : Int32) (P : PH), Sem G l miX11_unpicked 0 0 (rn tIH) 61 [(0, .ref (gA G 1)), (1, .int v1), (2, .int v2), (3, .int v3), (4, .int v4), (5, .int v5)] [] P (r61 v5 P)) : Sem G l miX11_unpicked 0 0 (rn tIH) 79 [(0, .ref (gA G 1)), (1, .int v1), (2, .int v2), (3, .int v3), (4, .int v4), (5, .int v5)] [.int s0, .int s1] P (Mo_unpicked_79 r52 r61 v1 v2 v3 v4 v5 s0 s1 P) := by
  unfold Mo_unpicked_79
  refine s_icmp_gt (pc := 79) 127 dX11_unpicked_79 rfl ?_ ?_
  · refine s_iinc (pc := 127) 4 1 [(4, .int (v4 + 1)), (0, .ref (gA G 1)), (1, .int v1), (2, .int v2), (3, .int v3), (5, .int v5)] dX11_unpicked_127 rfl rfl (Nat.le_of_ble_eq_true rfl) rfl ?_
    refine s_goto (pc := 130) 52 dX11_unpicked_130 rfl ?_
    refine s_sub [1, 2, 3, 4, 0] rfl ?_
    exact hr52 (v4 + 1) P
  · refine s_aload_n (pc := 82) 0 dX11_unpicked_82 rfl rfl ?_
    refine s_iload (pc := 83) 5 dX11_unpicked_83 rfl ?_
    refine s_iload (pc := 85) 4 dX11_unpicked_85 rfl ?_
    refine s_iload (pc := 87) 5 dX11_unpicked_87 rfl ?_
    refine s_isub (pc := 89) dX11_unpicked_89 ?_
    refine s_callV (k := 0) (n := 0) (pc := 90) [.int v5, .int (v4 - v5)] (fun x90 => .int (x90.1) :: []) (fun x90 => x90.2) dX11_unpicked_90 (cV_X11_395 hG) (Nat.le_of_ble_eq_true rfl) rfl kd_1 (Mo_isWell_ok hG v5 (v4 - v5) P) rfl (fun _ => rfl) (fun _ => rfl) (Nat.le_of_ble_eq_true rfl) rfl rfl (fun x90 => ?_)
    refine s_if_eq (pc := 93) 121 dX11_unpicked_93 rfl ?_ ?_
    · refine s_iinc (pc := 121) 5 1 [(5, .int (v5 + 1)), (0, .ref (gA G 1)), (1, .int v1), (2, .int v2), (3, .int v3), (4, .int v4)] dX11_unpicked_121 rfl rfl (Nat.le_of_ble_eq_true rfl) rfl ?_
      refine s_goto (pc := 124) 61 dX11_unpicked_124 rfl ?_
      refine s_sub [1, 2, 3, 4, 5, 0] rfl ?_
      exact hr61 (v5 + 1) x90.2
    · refine s_sub [2, 4, 5] rfl ?_
      exact Mo_unpicked_96_sem hG v2 v4 v5 x90.2
def Mo_unpicked_61  (r52 : Int32 → PH → Option (Int32 × PH)) (v1 : Int32) (v2 : Int32) (v3 : Int32) (v4 : Int32)  : Nat → Int32 → PH → Option (Int32 × PH)
  | 0 => fun _ _ => none
  | n + 1 => fun v5 P =>
    if v1 = 0 then
      Mo_unpicked_79 r52 (Mo_unpicked_61 r52 v1 v2 v3 v4 n) v1 v2 v3 v4 v5 (0 : Int32) v5 P
    else
      if v3 ≤ v4 then
        Mo_unpicked_79 r52 (Mo_unpicked_61 r52 v1 v2 v3 v4 n) v1 v2 v3 v4 v5 (0 : Int32) v5 P
      else
        Mo_unpicked_79 r52 (Mo_unpicked_61 r52 v1 v2 v3 v4 n) v1 v2 v3 v4 v5 v4 v5 P
set_option maxRecDepth 100000 in
set_option maxHeartbeats 4000000 in
theorem Mo_unpicked_61_sem {G : GT} {l : Launch} (hG : GOK G l)  (v1 : Int32) (v2 : Int32) (v3 : Int32) (v4 : Int32)   (r52 : Int32 → PH → Option (Int32 × PH)) (hr52 : ∀ (v4 : Int32) (P : PH), Sem G l miX11_unpicked 0 0 (rn tIH) 52 [(0, .ref (gA G 1)), (1, .int v1), (2, .int v2), (3, .int v3), (4, .int v4)] [] P (r52 v4 P)) : ∀ (n : Nat) (v5 : Int32) (P : PH), Sem G l miX11_unpicked 0 0 (rn tIH) 61 [(0, .ref (gA G 1)), (1, .int v1), (2, .int v2), (3, .int v3), (4, .int v4), (5, .int v5)] [] P (Mo_unpicked_61 r52 v1 v2 v3 v4 n v5 P) := by
  intro n
  induction n with
  | zero => intro v5 P; exact s_none rfl
  | succ n ih =>
    intro v5 P
    rw [Mo_unpicked_61]
    refine s_iload (pc := 61) 5 dX11_unpicked_61 rfl ?_
    refine s_iload_n (pc := 63) 1 dX11_unpicked_63 rfl rfl ?_
    refine s_if_eq (pc := 64) 78 dX11_unpicked_64 rfl ?_ ?_
    · refine s_iconst (pc := 78) (v := 0) dX11_unpicked_78 rfl ?_
      exact Mo_unpicked_79_sem hG v1 v2 v3 v4 v5 (0 : Int32) v5 P r52 hr52 (Mo_unpicked_61 r52 v1 v2 v3 v4 n) ih
    · refine s_iload (pc := 67) 4 dX11_unpicked_67 rfl ?_
      refine s_iload_n (pc := 69) 3 dX11_unpicked_69 rfl rfl ?_
      refine s_icmp_ge (pc := 70) 78 dX11_unpicked_70 rfl ?_ ?_
      · refine s_iconst (pc := 78) (v := 0) dX11_unpicked_78 rfl ?_
        exact Mo_unpicked_79_sem hG v1 v2 v3 v4 v5 (0 : Int32) v5 P r52 hr52 (Mo_unpicked_61 r52 v1 v2 v3 v4 n) ih
      · refine s_iload (pc := 73) 4 dX11_unpicked_73 rfl ?_
        refine s_goto (pc := 75) 79 dX11_unpicked_75 rfl ?_
        exact Mo_unpicked_79_sem hG v1 v2 v3 v4 v5 v4 v5 P r52 hr52 (Mo_unpicked_61 r52 v1 v2 v3 v4 n) ih
def Mo_unpicked_52   (v1 : Int32) (v2 : Int32) (v3 : Int32)  : Nat → Int32 → PH → Option (Int32 × PH)
  | 0 => fun _ _ => none
  | n + 1 => fun v4 P =>
    if v3 < v4 then
      some ((-1 : Int32), P)
    else
      Mo_unpicked_61 (Mo_unpicked_52 v1 v2 v3 n) v1 v2 v3 v4 bigN (0 : Int32) P
set_option maxRecDepth 100000 in
set_option maxHeartbeats 4000000 in
theorem Mo_unpicked_52_sem {G : GT} {l : Launch} (hG : GOK G l)  (v1 : Int32) (v2 : Int32) (v3 : Int32)    : ∀ (n : Nat) (v4 : Int32) (P : PH), Sem G l miX11_unpicked 0 0 (rn tIH) 52 [(0, .ref (gA G 1)), (1, .int v1), (2, .int v2), (3, .int v3), (4, .int v4)] [] P (Mo_unpicked_52 v1 v2 v3 n v4 P) := by
  intro n
  induction n with
  | zero => intro v4 P; exact s_none rfl
  | succ n ih =>
    intro v4 P
    rw [Mo_unpicked_52]
    refine s_iload (pc := 52) 4 dX11_unpicked_52 rfl ?_
    refine s_iload_n (pc := 54) 3 dX11_unpicked_54 rfl rfl ?_
    refine s_icmp_gt (pc := 55) 133 dX11_unpicked_55 rfl ?_ ?_
    · refine s_iconst (pc := 133) (v := -1) dX11_unpicked_133 rfl ?_
      exact s_iret (pc := 134) dX11_unpicked_134 rfl rfl
    · refine s_iconst (pc := 58) (v := 0) dX11_unpicked_58 rfl ?_
      refine s_istore (pc := 59) [(5, .int ((0 : Int32))), (0, .ref (gA G 1)), (1, .int v1), (2, .int v2), (3, .int v3), (4, .int v4)] dX11_unpicked_59 (Nat.le_of_ble_eq_true rfl) rfl ?_
      refine s_sub [1, 2, 3, 4, 5, 0] rfl ?_
      exact Mo_unpicked_61_sem hG v1 v2 v3 v4 (Mo_unpicked_52 v1 v2 v3 n) ih bigN (0 : Int32) P
def Mo_unpicked_29   (v1 : Int32) (v2 : Int32) (s0 : Int32) (P : PH) : Option (Int32 × PH) :=
  (some (sI P 1 5 s0)).bind fun (P29 : PH) =>
  if (P29.1 1 5) ≤ 0 then
    gdI (6 : Int32) 512 <|
    (some (P29.1 88 (6 : Int32).toNatClampNeg)).bind fun (u3_48 : Int32) =>
    Mo_unpicked_52 v1 v2 u3_48 bigN (0 : Int32) P29
  else
    some ((0 : Int32), P29)
set_option maxRecDepth 100000 in
set_option maxHeartbeats 4000000 in
theorem Mo_unpicked_29_sem {G : GT} {l : Launch} (hG : GOK G l)  (v1 : Int32) (v2 : Int32) (s0 : Int32) (P : PH)   : Sem G l miX11_unpicked 0 0 (rn tIH) 29 [(0, .ref (gA G 1)), (1, .int v1), (2, .int v2)] [.int s0, .ref (gA G 1)] P (Mo_unpicked_29 v1 v2 s0 P) := by
  unfold Mo_unpicked_29
  refine s_putI (pc := 29) dX11_unpicked_29 (fp_X11_86 hG) kd_1 ?_
  refine s_letP (fun P29 => ?_)
  refine s_aload_n (pc := 32) 0 dX11_unpicked_32 rfl rfl ?_
  refine s_getI (pc := 33) dX11_unpicked_33 (fi_X11_86 hG) kd_1 ?_
  refine s_if_le (pc := 36) 41 dX11_unpicked_36 rfl ?_ ?_
  · refine s_aload_n (pc := 41) 0 dX11_unpicked_41 rfl rfl ?_
    refine s_getR (pc := 42) 88 dX11_unpicked_42 (fi_X11_9 hG) kd_1 rfl ?_
    refine s_bipush (pc := 45) (v := 6) dX11_unpicked_45 rfl ?_
    refine s_iald (pc := 47) 512 dX11_unpicked_47 kd_88 ln_88 ?_
    refine s_letI (fun u3_48 => ?_)
    refine s_istore_n (pc := 48) [(3, .int u3_48), (0, .ref (gA G 1)), (1, .int v1), (2, .int v2)] dX11_unpicked_48 rfl (Nat.le_of_ble_eq_true rfl) rfl ?_
    refine s_iconst (pc := 49) (v := 0) dX11_unpicked_49 rfl ?_
    refine s_istore (pc := 50) [(4, .int ((0 : Int32))), (3, .int u3_48), (0, .ref (gA G 1)), (1, .int v1), (2, .int v2)] dX11_unpicked_50 (Nat.le_of_ble_eq_true rfl) rfl ?_
    refine s_sub [2, 3, 4, 1, 0] rfl ?_
    exact Mo_unpicked_52_sem hG v1 v2 u3_48 bigN (0 : Int32) P29
  · refine s_iconst (pc := 39) (v := 0) dX11_unpicked_39 rfl ?_
    exact s_iret (pc := 40) dX11_unpicked_40 rfl rfl
def Mo_unpicked  (v1 : Int32) (v2 : Int32) (P : PH) : Option (Int32 × PH) :=
  (Mo_isThere P).bind fun (x2 : Int32) =>
  if x2 = 0 then
    Mo_unpicked_29 v1 v2 (1 : Int32) P
  else
    (Mo_within v2.toInt64 (0 : Int64) (2 : Int64) P).bind fun (x18 : Int32) =>
    if x18 = 0 then
      Mo_unpicked_29 v1 v2 (2 : Int32) P
    else
      Mo_unpicked_29 v1 v2 (0 : Int32) P
set_option maxRecDepth 100000 in
set_option maxHeartbeats 4000000 in
theorem Mo_unpicked_ok {G : GT} {l : Launch} (hG : GOK G l)  (v1 : Int32) (v2 : Int32) (P : PH) : OkN G l yX11_unpicked miX11_unpicked 0 0 tIH [.ref (gA G 1), .int v1, .int v2] P (Mo_unpicked v1 v2 P) := by
  refine okN_of hG _ [(0, .ref (gA G 1)), (1, .int v1), (2, .int v2)] rfl rfl rfl (Nat.le_of_ble_eq_true rfl) rfl ?_
  unfold Mo_unpicked
  refine s_aload_n (pc := 0) 0 dX11_unpicked_0 rfl rfl ?_
  refine s_aload_n (pc := 1) 0 dX11_unpicked_1 rfl rfl ?_
  refine s_callV (k := 0) (n := 0) (pc := 2) [] (fun x2 => .int x2 :: [.ref (gA G 1)]) (fun _ => P) dX11_unpicked_2 (cV_X11_326 hG) (Nat.le_of_ble_eq_true rfl) rfl kd_1 (Mo_isThere_ok hG P) rfl (fun _ => rfl) (fun _ => rfl) (Nat.le_of_ble_eq_true rfl) rfl rfl (fun x2 => ?_)
  refine s_if_ne (pc := 5) 12 dX11_unpicked_5 rfl ?_ ?_
  · refine s_iconst (pc := 8) (v := 1) dX11_unpicked_8 rfl ?_
    refine s_goto (pc := 9) 29 dX11_unpicked_9 rfl ?_
    exact Mo_unpicked_29_sem hG v1 v2 (1 : Int32) P
  · refine s_iload_n (pc := 12) 2 dX11_unpicked_12 rfl rfl ?_
    refine s_i2l (pc := 13) dX11_unpicked_13 ?_
    refine s_lconst (pc := 14) (v := 0) dX11_unpicked_14 rfl ?_
    refine s_ldc2 (pc := 15) (v := 2) dX11_unpicked_15 (gw_X11_393 hG) ?_
    refine s_callS (k := 0) (n := 0) (pc := 18) [.long (v2.toInt64), .long ((0 : Int64)), .long ((2 : Int64))] (fun x18 => .int x18 :: [.ref (gA G 1)]) (fun _ => P) dX11_unpicked_18 (cS_X11_98 hG) (Nat.le_of_ble_eq_true rfl) rfl (Mo_within_ok hG v2.toInt64 (0 : Int64) (2 : Int64) P) rfl (fun _ => rfl) (fun _ => rfl) (Nat.le_of_ble_eq_true rfl) rfl rfl (fun x18 => ?_)
    refine s_if_eq (pc := 21) 28 dX11_unpicked_21 rfl ?_ ?_
    · refine s_iconst (pc := 28) (v := 2) dX11_unpicked_28 rfl ?_
      exact Mo_unpicked_29_sem hG v1 v2 (2 : Int32) P
    · refine s_iconst (pc := 24) (v := 0) dX11_unpicked_24 rfl ?_
      refine s_goto (pc := 25) 29 dX11_unpicked_25 rfl ?_
      exact Mo_unpicked_29_sem hG v1 v2 (0 : Int32) P
def Mo_places_52  (r29 : Int32 → Int32 → PH → Option (Int32 × PH)) (v1 : Int32) (v3 : Int32) (s0 : Int32) (s1 : Int32) (P : PH) : Option (Int32 × PH) :=
  (Mo_bars v1 v3 (0 : Int32) P).bind fun (x56 : Int32 × PH) =>
  if x56.1 = 0 then
    (some (s1 + (s0 + (1 : Int32)))).bind fun (u2_69 : Int32) =>
    r29 u2_69 (v3 + 1) x56.2
  else
    (some (s1 + (s0 + (0 : Int32)))).bind fun (u2_69 : Int32) =>
    r29 u2_69 (v3 + 1) x56.2
set_option maxRecDepth 100000 in
set_option maxHeartbeats 4000000 in
theorem Mo_places_52_sem {G : GT} {l : Launch} (hG : GOK G l)  (v1 : Int32) (v3 : Int32) (s0 : Int32) (s1 : Int32) (P : PH)  (r29 : Int32 → Int32 → PH → Option (Int32 × PH)) (hr29 : ∀ (v2 : Int32) (v3 : Int32) (P : PH), Sem G l miX11_places 0 0 (rn tIH) 29 [(0, .ref (gA G 1)), (1, .int v1), (2, .int v2), (3, .int v3)] [] P (r29 v2 v3 P)) : Sem G l miX11_places 0 0 (rn tIH) 52 [(0, .ref (gA G 1)), (1, .int v1), (3, .int v3)] [.int s0, .int s1] P (Mo_places_52 r29 v1 v3 s0 s1 P) := by
  unfold Mo_places_52
  refine s_aload_n (pc := 52) 0 dX11_places_52 rfl rfl ?_
  refine s_iload_n (pc := 53) 1 dX11_places_53 rfl rfl ?_
  refine s_iload_n (pc := 54) 2 dX11_places_54 rfl rfl ?_
  refine s_iconst (pc := 55) (v := 0) dX11_places_55 rfl ?_
  refine s_callV (k := 0) (n := 0) (pc := 56) [.int v1, .int v3, .int ((0 : Int32))] (fun x56 => .int (x56.1) :: [.int s0, .int s1]) (fun x56 => x56.2) dX11_places_56 (cV_X11_377 hG) (Nat.le_of_ble_eq_true rfl) rfl kd_1 (Mo_bars_ok hG v1 v3 (0 : Int32) P) rfl (fun _ => rfl) (fun _ => rfl) (Nat.le_of_ble_eq_true rfl) rfl rfl (fun x56 => ?_)
  refine s_if_ne (pc := 59) 66 dX11_places_59 rfl ?_ ?_
  · refine s_iconst (pc := 62) (v := 1) dX11_places_62 rfl ?_
    refine s_goto (pc := 63) 67 dX11_places_63 rfl ?_
    refine s_iadd (pc := 67) dX11_places_67 ?_
    refine s_iadd (pc := 68) dX11_places_68 ?_
    refine s_letI (fun u2_69 => ?_)
    refine s_istore_n (pc := 69) [(2, .int u2_69), (0, .ref (gA G 1)), (1, .int v1), (3, .int v3)] dX11_places_69 rfl (Nat.le_of_ble_eq_true rfl) rfl ?_
    refine s_iinc (pc := 70) 3 1 [(3, .int (v3 + 1)), (2, .int u2_69), (0, .ref (gA G 1)), (1, .int v1)] dX11_places_70 rfl rfl (Nat.le_of_ble_eq_true rfl) rfl ?_
    refine s_goto (pc := 73) 29 dX11_places_73 rfl ?_
    refine s_sub [2, 3, 1, 0] rfl ?_
    exact hr29 u2_69 (v3 + 1) x56.2
  · refine s_iconst (pc := 66) (v := 0) dX11_places_66 rfl ?_
    refine s_iadd (pc := 67) dX11_places_67 ?_
    refine s_iadd (pc := 68) dX11_places_68 ?_
    refine s_letI (fun u2_69 => ?_)
    refine s_istore_n (pc := 69) [(2, .int u2_69), (0, .ref (gA G 1)), (1, .int v1), (3, .int v3)] dX11_places_69 rfl (Nat.le_of_ble_eq_true rfl) rfl ?_
    refine s_iinc (pc := 70) 3 1 [(3, .int (v3 + 1)), (2, .int u2_69), (0, .ref (gA G 1)), (1, .int v1)] dX11_places_70 rfl rfl (Nat.le_of_ble_eq_true rfl) rfl ?_
    refine s_goto (pc := 73) 29 dX11_places_73 rfl ?_
    refine s_sub [2, 3, 1, 0] rfl ?_
    exact hr29 u2_69 (v3 + 1) x56.2
def Mo_places_29   (v1 : Int32)  : Nat → Int32 → Int32 → PH → Option (Int32 × PH)
  | 0 => fun _ _ _ => none
  | n + 1 => fun v2 v3 P =>
    if (144 : Int32) ≤ v3 then
      some (v2, P)
    else
      (Mo_bars v1 v3 (1 : Int32) P).bind fun (x41 : Int32 × PH) =>
      if x41.1 = 0 then
        Mo_places_52 (Mo_places_29 v1 n) v1 v3 (1 : Int32) v2 x41.2
      else
        Mo_places_52 (Mo_places_29 v1 n) v1 v3 (0 : Int32) v2 x41.2
set_option maxRecDepth 100000 in
set_option maxHeartbeats 4000000 in
theorem Mo_places_29_sem {G : GT} {l : Launch} (hG : GOK G l)  (v1 : Int32)    : ∀ (n : Nat) (v2 : Int32) (v3 : Int32) (P : PH), Sem G l miX11_places 0 0 (rn tIH) 29 [(0, .ref (gA G 1)), (1, .int v1), (2, .int v2), (3, .int v3)] [] P (Mo_places_29 v1 n v2 v3 P) := by
  intro n
  induction n with
  | zero => intro v2 v3 P; exact s_none rfl
  | succ n ih =>
    intro v2 v3 P
    rw [Mo_places_29]
    refine s_iload_n (pc := 29) 3 dX11_places_29 rfl rfl ?_
    refine s_sipush (pc := 30) (v := 144) dX11_places_30 rfl ?_
    refine s_icmp_ge (pc := 33) 76 dX11_places_33 rfl ?_ ?_
    · refine s_iload_n (pc := 76) 2 dX11_places_76 rfl rfl ?_
      exact s_iret (pc := 77) dX11_places_77 rfl rfl
    · refine s_iload_n (pc := 36) 2 dX11_places_36 rfl rfl ?_
      refine s_aload_n (pc := 37) 0 dX11_places_37 rfl rfl ?_
      refine s_iload_n (pc := 38) 1 dX11_places_38 rfl rfl ?_
      refine s_iload_n (pc := 39) 3 dX11_places_39 rfl rfl ?_
      refine s_iconst (pc := 40) (v := 1) dX11_places_40 rfl ?_
      refine s_callV (k := 0) (n := 0) (pc := 41) [.int v1, .int v3, .int ((1 : Int32))] (fun x41 => .int (x41.1) :: [.int v2]) (fun x41 => x41.2) dX11_places_41 (cV_X11_377 hG) (Nat.le_of_ble_eq_true rfl) rfl kd_1 (Mo_bars_ok hG v1 v3 (1 : Int32) P) rfl (fun _ => rfl) (fun _ => rfl) (Nat.le_of_ble_eq_true rfl) rfl rfl (fun x41 => ?_)
      refine s_if_ne (pc := 44) 51 dX11_places_44 rfl ?_ ?_
      · refine s_iconst (pc := 47) (v := 1) dX11_places_47 rfl ?_
        refine s_goto (pc := 48) 52 dX11_places_48 rfl ?_
        refine s_sub [0, 1, 3] rfl ?_
        exact Mo_places_52_sem hG v1 v3 (1 : Int32) v2 x41.2 (Mo_places_29 v1 n) ih
      · refine s_iconst (pc := 51) (v := 0) dX11_places_51 rfl ?_
        refine s_sub [0, 1, 3] rfl ?_
        exact Mo_places_52_sem hG v1 v3 (0 : Int32) v2 x41.2 (Mo_places_29 v1 n) ih
def Mo_places_13   (v1 : Int32) (s0 : Int32) (P : PH) : Option (Int32 × PH) :=
  (some (sI P 1 5 s0)).bind fun (P13 : PH) =>
  if (P13.1 1 5) ≤ 0 then
    Mo_places_29 v1 bigN (0 : Int32) (0 : Int32) P13
  else
    some ((0 : Int32), P13)
set_option maxRecDepth 100000 in
set_option maxHeartbeats 4000000 in
theorem Mo_places_13_sem {G : GT} {l : Launch} (hG : GOK G l)  (v1 : Int32) (s0 : Int32) (P : PH)   : Sem G l miX11_places 0 0 (rn tIH) 13 [(0, .ref (gA G 1)), (1, .int v1)] [.int s0, .ref (gA G 1)] P (Mo_places_13 v1 s0 P) := by
  unfold Mo_places_13
  refine s_putI (pc := 13) dX11_places_13 (fp_X11_86 hG) kd_1 ?_
  refine s_letP (fun P13 => ?_)
  refine s_aload_n (pc := 16) 0 dX11_places_16 rfl rfl ?_
  refine s_getI (pc := 17) dX11_places_17 (fi_X11_86 hG) kd_1 ?_
  refine s_if_le (pc := 20) 25 dX11_places_20 rfl ?_ ?_
  · refine s_iconst (pc := 25) (v := 0) dX11_places_25 rfl ?_
    refine s_istore_n (pc := 26) [(2, .int ((0 : Int32))), (0, .ref (gA G 1)), (1, .int v1)] dX11_places_26 rfl (Nat.le_of_ble_eq_true rfl) rfl ?_
    refine s_iconst (pc := 27) (v := 0) dX11_places_27 rfl ?_
    refine s_istore_n (pc := 28) [(3, .int ((0 : Int32))), (2, .int ((0 : Int32))), (0, .ref (gA G 1)), (1, .int v1)] dX11_places_28 rfl (Nat.le_of_ble_eq_true rfl) rfl ?_
    refine s_sub [2, 3, 1, 0] rfl ?_
    exact Mo_places_29_sem hG v1 bigN (0 : Int32) (0 : Int32) P13
  · refine s_iconst (pc := 23) (v := 0) dX11_places_23 rfl ?_
    exact s_iret (pc := 24) dX11_places_24 rfl rfl
def Mo_places  (v1 : Int32) (P : PH) : Option (Int32 × PH) :=
  (Mo_isInk v1 P).bind fun (x2 : Int32) =>
  if x2 = 0 then
    Mo_places_13 v1 (1 : Int32) P
  else
    Mo_places_13 v1 (0 : Int32) P
set_option maxRecDepth 100000 in
set_option maxHeartbeats 4000000 in
theorem Mo_places_ok {G : GT} {l : Launch} (hG : GOK G l)  (v1 : Int32) (P : PH) : OkN G l yX11_places miX11_places 0 0 tIH [.ref (gA G 1), .int v1] P (Mo_places v1 P) := by
  refine okN_of hG _ [(0, .ref (gA G 1)), (1, .int v1)] rfl rfl rfl (Nat.le_of_ble_eq_true rfl) rfl ?_
  unfold Mo_places
  refine s_aload_n (pc := 0) 0 dX11_places_0 rfl rfl ?_
  refine s_iload_n (pc := 1) 1 dX11_places_1 rfl rfl ?_
  refine s_callS (k := 0) (n := 0) (pc := 2) [.int v1] (fun x2 => .int x2 :: [.ref (gA G 1)]) (fun _ => P) dX11_places_2 (cS_X11_280 hG) (Nat.le_of_ble_eq_true rfl) rfl (Mo_isInk_ok hG v1 P) rfl (fun _ => rfl) (fun _ => rfl) (Nat.le_of_ble_eq_true rfl) rfl rfl (fun x2 => ?_)
  refine s_if_eq (pc := 5) 12 dX11_places_5 rfl ?_ ?_
  · refine s_iconst (pc := 12) (v := 1) dX11_places_12 rfl ?_
    exact Mo_places_13_sem hG v1 (1 : Int32) P
  · refine s_iconst (pc := 8) (v := 0) dX11_places_8 rfl ?_
    refine s_goto (pc := 9) 13 dX11_places_9 rfl ?_
    exact Mo_places_13_sem hG v1 (0 : Int32) P
