def Mo_stitch_14   (v1 : Int32) (s0 : Int32) (P : PH) : Option (Int32 × PH) :=
  (some (sI P 1 5 s0)).bind fun (P14 : PH) =>
  if (P14.1 1 5) ≤ 0 then
    (Mo_whyNot v1.toInt64 P14).bind fun (x29 : Int32) =>
    if x29 = 0 then
      (Mo_goes v1 P14).bind fun (x39 : PH) =>
      some (x29, x39)
    else
      some (x29, P14)
  else
    some ((0 : Int32), P14)
set_option maxRecDepth 100000 in
set_option maxHeartbeats 4000000 in
theorem Mo_stitch_14_sem {G : GT} {l : Launch} (hG : GOK G l)  (v1 : Int32) (s0 : Int32) (P : PH)   : Sem G l miX11_stitch 0 0 (rn tIH) 14 [(0, .ref (gA G 1)), (1, .int v1)] [.int s0, .ref (gA G 1)] P (Mo_stitch_14 v1 s0 P) := by
  unfold Mo_stitch_14
  refine s_putI (pc := 14) dX11_stitch_14 (fp_X11_86 hG) kd_1 ?_
  refine s_letP (fun P14 => ?_)
  refine s_aload_n (pc := 17) 0 dX11_stitch_17 rfl rfl ?_
  refine s_getI (pc := 18) dX11_stitch_18 (fi_X11_86 hG) kd_1 ?_
  refine s_if_le (pc := 21) 26 dX11_stitch_21 rfl ?_ ?_
  · refine s_aload_n (pc := 26) 0 dX11_stitch_26 rfl rfl ?_
    refine s_iload_n (pc := 27) 1 dX11_stitch_27 rfl rfl ?_
    refine s_i2l (pc := 28) dX11_stitch_28 ?_
    refine s_callV (k := 0) (n := 0) (pc := 29) [.long (v1.toInt64)] (fun x29 => .int x29 :: []) (fun _ => P14) dX11_stitch_29 (cV_X11_344 hG) (Nat.le_of_ble_eq_true rfl) rfl kd_1 (Mo_whyNot_ok hG v1.toInt64 P14) rfl (fun _ => rfl) (fun _ => rfl) (Nat.le_of_ble_eq_true rfl) rfl rfl (fun x29 => ?_)
    refine s_istore_n (pc := 32) [(2, .int x29), (0, .ref (gA G 1)), (1, .int v1)] dX11_stitch_32 rfl (Nat.le_of_ble_eq_true rfl) rfl ?_
    refine s_iload_n (pc := 33) 0 dX11_stitch_33 rfl rfl ?_
    refine s_if_ne (pc := 34) 42 dX11_stitch_34 rfl ?_ ?_
    · refine s_aload_n (pc := 37) 1 dX11_stitch_37 rfl rfl ?_
      refine s_iload_n (pc := 38) 2 dX11_stitch_38 rfl rfl ?_
      refine s_callV (k := 0) (n := 0) (pc := 39) [.int v1] (fun _ => []) (fun x39 => x39) dX11_stitch_39 (cV_X11_348 hG) (Nat.le_of_ble_eq_true rfl) rfl kd_1 (Mo_goes_ok hG v1 P14) rfl (fun _ => rfl) (fun _ => rfl) (Nat.le_of_ble_eq_true rfl) rfl rfl (fun x39 => ?_)
      refine s_iload_n (pc := 42) 0 dX11_stitch_42 rfl rfl ?_
      exact s_iret (pc := 43) dX11_stitch_43 rfl rfl
    · refine s_iload_n (pc := 42) 0 dX11_stitch_42 rfl rfl ?_
      exact s_iret (pc := 43) dX11_stitch_43 rfl rfl
  · refine s_iconst (pc := 24) (v := 0) dX11_stitch_24 rfl ?_
    exact s_iret (pc := 25) dX11_stitch_25 rfl rfl
def Mo_stitch  (v1 : Int32) (P : PH) : Option (Int32 × PH) :=
  (Mo_isWay v1.toInt64 P).bind fun (x3 : Int32) =>
  if x3 = 0 then
    Mo_stitch_14 v1 (1 : Int32) P
  else
    Mo_stitch_14 v1 (0 : Int32) P
set_option maxRecDepth 100000 in
set_option maxHeartbeats 4000000 in
theorem Mo_stitch_ok {G : GT} {l : Launch} (hG : GOK G l)  (v1 : Int32) (P : PH) : OkN G l yX11_stitch miX11_stitch 0 0 tIH [.ref (gA G 1), .int v1] P (Mo_stitch v1 P) := by
  refine okN_of hG _ [(0, .ref (gA G 1)), (1, .int v1)] rfl rfl rfl (Nat.le_of_ble_eq_true rfl) rfl ?_
  unfold Mo_stitch
  refine s_aload_n (pc := 0) 0 dX11_stitch_0 rfl rfl ?_
  refine s_iload_n (pc := 1) 1 dX11_stitch_1 rfl rfl ?_
  refine s_i2l (pc := 2) dX11_stitch_2 ?_
  refine s_callS (k := 0) (n := 0) (pc := 3) [.long (v1.toInt64)] (fun x3 => .int x3 :: [.ref (gA G 1)]) (fun _ => P) dX11_stitch_3 (cS_X11_276 hG) (Nat.le_of_ble_eq_true rfl) rfl (Mo_isWay_ok hG v1.toInt64 P) rfl (fun _ => rfl) (fun _ => rfl) (Nat.le_of_ble_eq_true rfl) rfl rfl (fun x3 => ?_)
  refine s_if_eq (pc := 6) 13 dX11_stitch_6 rfl ?_ ?_
  · refine s_iconst (pc := 13) (v := 1) dX11_stitch_13 rfl ?_
    exact Mo_stitch_14_sem hG v1 (1 : Int32) P
  · refine s_iconst (pc := 9) (v := 0) dX11_stitch_9 rfl ?_
    refine s_goto (pc := 10) 14 dX11_stitch_10 rfl ?_
    exact Mo_stitch_14_sem hG v1 (0 : Int32) P
def Mo_unpick_48   (v1 : Int32)  : Nat → Int32 → PH → Option (Int32 × PH)
  | 0 => fun _ _ => none
  | n + 1 => fun v2 P =>
    if v1 ≤ v2 then
      gdI (6 : Int32) 512 <|
      some (P.1 88 (6 : Int32).toNatClampNeg, P)
    else
      (Mo_backs P).bind fun (x54 : PH) =>
      Mo_unpick_48 v1 n (v2 + 1) x54
set_option maxRecDepth 100000 in
set_option maxHeartbeats 4000000 in
theorem Mo_unpick_48_sem {G : GT} {l : Launch} (hG : GOK G l)  (v1 : Int32)    : ∀ (n : Nat) (v2 : Int32) (P : PH), Sem G l miX11_unpick 0 0 (rn tIH) 48 [(0, .ref (gA G 1)), (1, .int v1), (2, .int v2)] [] P (Mo_unpick_48 v1 n v2 P) := by
  intro n
  induction n with
  | zero => intro v2 P; exact s_none rfl
  | succ n ih =>
    intro v2 P
    rw [Mo_unpick_48]
    refine s_iload_n (pc := 48) 2 dX11_unpick_48 rfl rfl ?_
    refine s_iload_n (pc := 49) 1 dX11_unpick_49 rfl rfl ?_
    refine s_icmp_ge (pc := 50) 63 dX11_unpick_50 rfl ?_ ?_
    · refine s_aload_n (pc := 63) 0 dX11_unpick_63 rfl rfl ?_
      refine s_getR (pc := 64) 88 dX11_unpick_64 (fi_X11_9 hG) kd_1 rfl ?_
      refine s_bipush (pc := 67) (v := 6) dX11_unpick_67 rfl ?_
      refine s_iald (pc := 69) 512 dX11_unpick_69 kd_88 ln_88 ?_
      exact s_iret (pc := 70) dX11_unpick_70 rfl rfl
    · refine s_aload_n (pc := 53) 0 dX11_unpick_53 rfl rfl ?_
      refine s_callV (k := 0) (n := 0) (pc := 54) [] (fun _ => []) (fun x54 => x54) dX11_unpick_54 (cV_X11_351 hG) (Nat.le_of_ble_eq_true rfl) rfl kd_1 (Mo_backs_ok hG P) rfl (fun _ => rfl) (fun _ => rfl) (Nat.le_of_ble_eq_true rfl) rfl rfl (fun x54 => ?_)
      refine s_iinc (pc := 57) 2 1 [(2, .int (v2 + 1)), (0, .ref (gA G 1)), (1, .int v1)] dX11_unpick_57 rfl rfl (Nat.le_of_ble_eq_true rfl) rfl ?_
      refine s_goto (pc := 60) 48 dX11_unpick_60 rfl ?_
      refine s_sub [1, 2, 0] rfl ?_
      exact ih (v2 + 1) x54
def Mo_unpick_34   (v1 : Int32) (s0 : Int32) (P : PH) : Option (Int32 × PH) :=
  (some (sI P 1 5 s0)).bind fun (P34 : PH) =>
  if (P34.1 1 5) ≤ 0 then
    Mo_unpick_48 v1 bigN (0 : Int32) P34
  else
    some ((0 : Int32), P34)
set_option maxRecDepth 100000 in
set_option maxHeartbeats 4000000 in
theorem Mo_unpick_34_sem {G : GT} {l : Launch} (hG : GOK G l)  (v1 : Int32) (s0 : Int32) (P : PH)   : Sem G l miX11_unpick 0 0 (rn tIH) 34 [(0, .ref (gA G 1)), (1, .int v1)] [.int s0, .ref (gA G 1)] P (Mo_unpick_34 v1 s0 P) := by
  unfold Mo_unpick_34
  refine s_putI (pc := 34) dX11_unpick_34 (fp_X11_86 hG) kd_1 ?_
  refine s_letP (fun P34 => ?_)
  refine s_aload_n (pc := 37) 0 dX11_unpick_37 rfl rfl ?_
  refine s_getI (pc := 38) dX11_unpick_38 (fi_X11_86 hG) kd_1 ?_
  refine s_if_le (pc := 41) 46 dX11_unpick_41 rfl ?_ ?_
  · refine s_iconst (pc := 46) (v := 0) dX11_unpick_46 rfl ?_
    refine s_istore_n (pc := 47) [(2, .int ((0 : Int32))), (0, .ref (gA G 1)), (1, .int v1)] dX11_unpick_47 rfl (Nat.le_of_ble_eq_true rfl) rfl ?_
    refine s_sub [1, 2, 0] rfl ?_
    exact Mo_unpick_48_sem hG v1 bigN (0 : Int32) P34
  · refine s_iconst (pc := 44) (v := 0) dX11_unpick_44 rfl ?_
    exact s_iret (pc := 45) dX11_unpick_45 rfl rfl
def Mo_unpick  (v1 : Int32) (P : PH) : Option (Int32 × PH) :=
  (Mo_isThere P).bind fun (x2 : Int32) =>
  if x2 = 0 then
    Mo_unpick_34 v1 (1 : Int32) P
  else
    gdI (6 : Int32) 512 <|
    (Mo_within v1.toInt64 (0 : Int64) ((P.1 88 (6 : Int32).toNatClampNeg).toInt64) P).bind fun (x23 : Int32) =>
    if x23 = 0 then
      Mo_unpick_34 v1 (2 : Int32) P
    else
      Mo_unpick_34 v1 (0 : Int32) P
set_option maxRecDepth 100000 in
set_option maxHeartbeats 4000000 in
theorem Mo_unpick_ok {G : GT} {l : Launch} (hG : GOK G l)  (v1 : Int32) (P : PH) : OkN G l yX11_unpick miX11_unpick 0 0 tIH [.ref (gA G 1), .int v1] P (Mo_unpick v1 P) := by
  refine okN_of hG _ [(0, .ref (gA G 1)), (1, .int v1)] rfl rfl rfl (Nat.le_of_ble_eq_true rfl) rfl ?_
  unfold Mo_unpick
  refine s_aload_n (pc := 0) 0 dX11_unpick_0 rfl rfl ?_
  refine s_aload_n (pc := 1) 0 dX11_unpick_1 rfl rfl ?_
  refine s_callV (k := 0) (n := 0) (pc := 2) [] (fun x2 => .int x2 :: [.ref (gA G 1)]) (fun _ => P) dX11_unpick_2 (cV_X11_326 hG) (Nat.le_of_ble_eq_true rfl) rfl kd_1 (Mo_isThere_ok hG P) rfl (fun _ => rfl) (fun _ => rfl) (Nat.le_of_ble_eq_true rfl) rfl rfl (fun x2 => ?_)
  refine s_if_ne (pc := 5) 12 dX11_unpick_5 rfl ?_ ?_
  · refine s_iconst (pc := 8) (v := 1) dX11_unpick_8 rfl ?_
    refine s_goto (pc := 9) 34 dX11_unpick_9 rfl ?_
    exact Mo_unpick_34_sem hG v1 (1 : Int32) P
  · refine s_iload_n (pc := 12) 1 dX11_unpick_12 rfl rfl ?_
    refine s_i2l (pc := 13) dX11_unpick_13 ?_
    refine s_lconst (pc := 14) (v := 0) dX11_unpick_14 rfl ?_
    refine s_aload_n (pc := 15) 0 dX11_unpick_15 rfl rfl ?_
    refine s_getR (pc := 16) 88 dX11_unpick_16 (fi_X11_9 hG) kd_1 rfl ?_
    refine s_bipush (pc := 19) (v := 6) dX11_unpick_19 rfl ?_
    refine s_iald (pc := 21) 512 dX11_unpick_21 kd_88 ln_88 ?_
    refine s_i2l (pc := 22) dX11_unpick_22 ?_
    refine s_callS (k := 0) (n := 0) (pc := 23) [.long (v1.toInt64), .long ((0 : Int64)), .long ((P.1 88 (6 : Int32).toNatClampNeg).toInt64)] (fun x23 => .int x23 :: [.ref (gA G 1)]) (fun _ => P) dX11_unpick_23 (cS_X11_98 hG) (Nat.le_of_ble_eq_true rfl) rfl (Mo_within_ok hG v1.toInt64 (0 : Int64) ((P.1 88 (6 : Int32).toNatClampNeg).toInt64) P) rfl (fun _ => rfl) (fun _ => rfl) (Nat.le_of_ble_eq_true rfl) rfl rfl (fun x23 => ?_)
    refine s_if_eq (pc := 26) 33 dX11_unpick_26 rfl ?_ ?_
    · refine s_iconst (pc := 33) (v := 2) dX11_unpick_33 rfl ?_
      exact Mo_unpick_34_sem hG v1 (2 : Int32) P
    · refine s_iconst (pc := 29) (v := 0) dX11_unpick_29 rfl ?_
      refine s_goto (pc := 30) 34 dX11_unpick_30 rfl ?_
      exact Mo_unpick_34_sem hG v1 (0 : Int32) P
def Mo_thread_29   (v1 : Int32) (s0 : Int32) (P : PH) : Option (Int32 × PH) :=
  (some (sI P 1 5 s0)).bind fun (P29 : PH) =>
  if (P29.1 1 5) ≤ 0 then
    if v1 = 0 then
      (Mo_hole P29).bind fun (x73 : Int32) =>
      some (x73, P29)
    else
    if v1 = 1 then
      gdI (6 : Int32) 512 <|
      (Mo_isOver (P29.1 88 (6 : Int32).toNatClampNeg) P29).bind fun (x85 : Int32) =>
      if x85 = 0 then
        some ((0 : Int32), P29)
      else
        some ((1 : Int32), P29)
    else
    if v1 = 2 then
      gdI (6 : Int32) 512 <|
      some (P29.1 88 (6 : Int32).toNatClampNeg, P29)
    else
    if v1 = 3 then
      gdI (3 : Int32) 512 <|
      some (P29.1 88 (3 : Int32).toNatClampNeg, P29)
    else
      gdI (4 : Int32) 512 <|
      some (P29.1 88 (4 : Int32).toNatClampNeg, P29)
  else
    some ((0 : Int32), P29)
set_option maxRecDepth 100000 in
set_option maxHeartbeats 4000000 in
theorem Mo_thread_29_sem {G : GT} {l : Launch} (hG : GOK G l)  (v1 : Int32) (s0 : Int32) (P : PH)   : Sem G l miX11_thread 0 0 (rn tIH) 29 [(0, .ref (gA G 1)), (1, .int v1)] [.int s0, .ref (gA G 1)] P (Mo_thread_29 v1 s0 P) := by
  unfold Mo_thread_29
  refine s_putI (pc := 29) dX11_thread_29 (fp_X11_86 hG) kd_1 ?_
  refine s_letP (fun P29 => ?_)
  refine s_aload_n (pc := 32) 0 dX11_thread_32 rfl rfl ?_
  refine s_getI (pc := 33) dX11_thread_33 (fi_X11_86 hG) kd_1 ?_
  refine s_if_le (pc := 36) 41 dX11_thread_36 rfl ?_ ?_
  · refine s_iload_n (pc := 41) 1 dX11_thread_41 rfl rfl ?_
    refine s_sw (fun hx0 => ?_) (fun hx0 => ?_)
    · refine s_tin (pc := 42) 72 dX11_thread_42 (by rw [hx0]; decide) (by rw [hx0]; decide) (by rw [hx0]; rfl) rfl ?_
      refine s_aload_n (pc := 72) 0 dX11_thread_72 rfl rfl ?_
      refine s_callV (k := 0) (n := 0) (pc := 73) [] (fun x73 => .int x73 :: []) (fun _ => P29) dX11_thread_73 (cV_X11_330 hG) (Nat.le_of_ble_eq_true rfl) rfl kd_1 (Mo_hole_ok hG P29) rfl (fun _ => rfl) (fun _ => rfl) (Nat.le_of_ble_eq_true rfl) rfl rfl (fun x73 => ?_)
      exact s_iret (pc := 76) dX11_thread_76 rfl rfl
    refine s_sw (fun hx1 => ?_) (fun hx1 => ?_)
    · refine s_tin (pc := 42) 77 dX11_thread_42 (by rw [hx1]; decide) (by rw [hx1]; decide) (by rw [hx1]; rfl) rfl ?_
      refine s_aload_n (pc := 77) 0 dX11_thread_77 rfl rfl ?_
      refine s_aload_n (pc := 78) 0 dX11_thread_78 rfl rfl ?_
      refine s_getR (pc := 79) 88 dX11_thread_79 (fi_X11_9 hG) kd_1 rfl ?_
      refine s_bipush (pc := 82) (v := 6) dX11_thread_82 rfl ?_
      refine s_iald (pc := 84) 512 dX11_thread_84 kd_88 ln_88 ?_
      refine s_callV (k := 0) (n := 0) (pc := 85) [.int (P29.1 88 (6 : Int32).toNatClampNeg)] (fun x85 => .int x85 :: []) (fun _ => P29) dX11_thread_85 (cV_X11_333 hG) (Nat.le_of_ble_eq_true rfl) rfl kd_1 (Mo_isOver_ok hG (P29.1 88 (6 : Int32).toNatClampNeg) P29) rfl (fun _ => rfl) (fun _ => rfl) (Nat.le_of_ble_eq_true rfl) rfl rfl (fun x85 => ?_)
      refine s_if_eq (pc := 88) 95 dX11_thread_88 rfl ?_ ?_
      · refine s_iconst (pc := 95) (v := 0) dX11_thread_95 rfl ?_
        exact s_iret (pc := 96) dX11_thread_96 rfl rfl
      · refine s_iconst (pc := 91) (v := 1) dX11_thread_91 rfl ?_
        refine s_goto (pc := 92) 96 dX11_thread_92 rfl ?_
        exact s_iret (pc := 96) dX11_thread_96 rfl rfl
    refine s_sw (fun hx2 => ?_) (fun hx2 => ?_)
    · refine s_tin (pc := 42) 97 dX11_thread_42 (by rw [hx2]; decide) (by rw [hx2]; decide) (by rw [hx2]; rfl) rfl ?_
      refine s_aload_n (pc := 97) 0 dX11_thread_97 rfl rfl ?_
      refine s_getR (pc := 98) 88 dX11_thread_98 (fi_X11_9 hG) kd_1 rfl ?_
      refine s_bipush (pc := 101) (v := 6) dX11_thread_101 rfl ?_
      refine s_iald (pc := 103) 512 dX11_thread_103 kd_88 ln_88 ?_
      exact s_iret (pc := 104) dX11_thread_104 rfl rfl
    refine s_sw (fun hx3 => ?_) (fun hx3 => ?_)
    · refine s_tin (pc := 42) 105 dX11_thread_42 (by rw [hx3]; decide) (by rw [hx3]; decide) (by rw [hx3]; rfl) rfl ?_
      refine s_aload_n (pc := 105) 0 dX11_thread_105 rfl rfl ?_
      refine s_getR (pc := 106) 88 dX11_thread_106 (fi_X11_9 hG) kd_1 rfl ?_
      refine s_iconst (pc := 109) (v := 3) dX11_thread_109 rfl ?_
      refine s_iald (pc := 110) 512 dX11_thread_110 kd_88 ln_88 ?_
      exact s_iret (pc := 111) dX11_thread_111 rfl rfl
    refine s_tout (pc := 42) 112 dX11_thread_42 (Classical.byContradiction fun hq => ?_) rfl ?_
    · have h9 : Int32.toInt v1 = 0 ∨ Int32.toInt v1 = 1 ∨ Int32.toInt v1 = 2 ∨ Int32.toInt v1 = 3 := by omega
      rcases h9 with h9 | h9 | h9 | h9
      · exact hx0 (Int32.toInt_inj.mp h9)
      · exact hx1 (Int32.toInt_inj.mp h9)
      · exact hx2 (Int32.toInt_inj.mp h9)
      · exact hx3 (Int32.toInt_inj.mp h9)
    · refine s_aload_n (pc := 112) 0 dX11_thread_112 rfl rfl ?_
      refine s_getR (pc := 113) 88 dX11_thread_113 (fi_X11_9 hG) kd_1 rfl ?_
      refine s_iconst (pc := 116) (v := 4) dX11_thread_116 rfl ?_
      refine s_iald (pc := 117) 512 dX11_thread_117 kd_88 ln_88 ?_
      exact s_iret (pc := 118) dX11_thread_118 rfl rfl
  · refine s_iconst (pc := 39) (v := 0) dX11_thread_39 rfl ?_
    exact s_iret (pc := 40) dX11_thread_40 rfl rfl
def Mo_thread  (v1 : Int32) (P : PH) : Option (Int32 × PH) :=
  (Mo_isThere P).bind fun (x2 : Int32) =>
  if x2 = 0 then
    Mo_thread_29 v1 (1 : Int32) P
  else
    (Mo_within v1.toInt64 (0 : Int64) (4 : Int64) P).bind fun (x18 : Int32) =>
    if x18 = 0 then
      Mo_thread_29 v1 (2 : Int32) P
    else
      Mo_thread_29 v1 (0 : Int32) P
set_option maxRecDepth 100000 in
set_option maxHeartbeats 4000000 in
theorem Mo_thread_ok {G : GT} {l : Launch} (hG : GOK G l)  (v1 : Int32) (P : PH) : OkN G l yX11_thread miX11_thread 0 0 tIH [.ref (gA G 1), .int v1] P (Mo_thread v1 P) := by
  refine okN_of hG _ [(0, .ref (gA G 1)), (1, .int v1)] rfl rfl rfl (Nat.le_of_ble_eq_true rfl) rfl ?_
  unfold Mo_thread
  refine s_aload_n (pc := 0) 0 dX11_thread_0 rfl rfl ?_
  refine s_aload_n (pc := 1) 0 dX11_thread_1 rfl rfl ?_
  refine s_callV (k := 0) (n := 0) (pc := 2) [] (fun x2 => .int x2 :: [.ref (gA G 1)]) (fun _ => P) dX11_thread_2 (cV_X11_326 hG) (Nat.le_of_ble_eq_true rfl) rfl kd_1 (Mo_isThere_ok hG P) rfl (fun _ => rfl) (fun _ => rfl) (Nat.le_of_ble_eq_true rfl) rfl rfl (fun x2 => ?_)
  refine s_if_ne (pc := 5) 12 dX11_thread_5 rfl ?_ ?_
  · refine s_iconst (pc := 8) (v := 1) dX11_thread_8 rfl ?_
    refine s_goto (pc := 9) 29 dX11_thread_9 rfl ?_
    exact Mo_thread_29_sem hG v1 (1 : Int32) P
  · refine s_iload_n (pc := 12) 1 dX11_thread_12 rfl rfl ?_
    refine s_i2l (pc := 13) dX11_thread_13 ?_
    refine s_lconst (pc := 14) (v := 0) dX11_thread_14 rfl ?_
    refine s_ldc2 (pc := 15) (v := 4) dX11_thread_15 (gw_X11_354 hG) ?_
    refine s_callS (k := 0) (n := 0) (pc := 18) [.long (v1.toInt64), .long ((0 : Int64)), .long ((4 : Int64))] (fun x18 => .int x18 :: [.ref (gA G 1)]) (fun _ => P) dX11_thread_18 (cS_X11_98 hG) (Nat.le_of_ble_eq_true rfl) rfl (Mo_within_ok hG v1.toInt64 (0 : Int64) (4 : Int64) P) rfl (fun _ => rfl) (fun _ => rfl) (Nat.le_of_ble_eq_true rfl) rfl rfl (fun x18 => ?_)
    refine s_if_eq (pc := 21) 28 dX11_thread_21 rfl ?_ ?_
    · refine s_iconst (pc := 28) (v := 2) dX11_thread_28 rfl ?_
      exact Mo_thread_29_sem hG v1 (2 : Int32) P
    · refine s_iconst (pc := 24) (v := 0) dX11_thread_24 rfl ?_
      refine s_goto (pc := 25) 29 dX11_thread_25 rfl ?_
      exact Mo_thread_29_sem hG v1 (0 : Int32) P
def Mo_done_13   (v1 : Int32) (s0 : Int32) (P : PH) : Option (Int32 × PH) :=
  (some (sI P 1 5 s0)).bind fun (P13 : PH) =>
  if (P13.1 1 5) ≤ 0 then
    gdI (6 : Int32) 512 <|
    (Mo_within v1.toInt64 (0 : Int64) (((P13.1 88 (6 : Int32).toNatClampNeg) - (1 : Int32)).toInt64) P13).bind fun (x38 : Int32) =>
    if x38 = 0 then
      some ((-1 : Int32), P13)
    else
      gdI ((392 : Int32) + v1) 512 <|
      some (P13.1 88 ((392 : Int32) + v1).toNatClampNeg, P13)
  else
    some ((0 : Int32), P13)
set_option maxRecDepth 100000 in
set_option maxHeartbeats 4000000 in
theorem Mo_done_13_sem {G : GT} {l : Launch} (hG : GOK G l)  (v1 : Int32) (s0 : Int32) (P : PH)   : Sem G l miX11_done 0 0 (rn tIH) 13 [(0, .ref (gA G 1)), (1, .int v1)] [.int s0, .ref (gA G 1)] P (Mo_done_13 v1 s0 P) := by
  unfold Mo_done_13
  refine s_putI (pc := 13) dX11_done_13 (fp_X11_86 hG) kd_1 ?_
  refine s_letP (fun P13 => ?_)
  refine s_aload_n (pc := 16) 0 dX11_done_16 rfl rfl ?_
  refine s_getI (pc := 17) dX11_done_17 (fi_X11_86 hG) kd_1 ?_
  refine s_if_le (pc := 20) 25 dX11_done_20 rfl ?_ ?_
  · refine s_iload_n (pc := 25) 1 dX11_done_25 rfl rfl ?_
    refine s_i2l (pc := 26) dX11_done_26 ?_
    refine s_lconst (pc := 27) (v := 0) dX11_done_27 rfl ?_
    refine s_aload_n (pc := 28) 0 dX11_done_28 rfl rfl ?_
    refine s_getR (pc := 29) 88 dX11_done_29 (fi_X11_9 hG) kd_1 rfl ?_
    refine s_bipush (pc := 32) (v := 6) dX11_done_32 rfl ?_
    refine s_iald (pc := 34) 512 dX11_done_34 kd_88 ln_88 ?_
    refine s_iconst (pc := 35) (v := 1) dX11_done_35 rfl ?_
    refine s_isub (pc := 36) dX11_done_36 ?_
    refine s_i2l (pc := 37) dX11_done_37 ?_
    refine s_callS (k := 0) (n := 0) (pc := 38) [.long (v1.toInt64), .long ((0 : Int64)), .long (((P13.1 88 (6 : Int32).toNatClampNeg) - (1 : Int32)).toInt64)] (fun x38 => .int x38 :: []) (fun _ => P13) dX11_done_38 (cS_X11_98 hG) (Nat.le_of_ble_eq_true rfl) rfl (Mo_within_ok hG v1.toInt64 (0 : Int64) (((P13.1 88 (6 : Int32).toNatClampNeg) - (1 : Int32)).toInt64) P13) rfl (fun _ => rfl) (fun _ => rfl) (Nat.le_of_ble_eq_true rfl) rfl rfl (fun x38 => ?_)
    refine s_if_eq (pc := 41) 57 dX11_done_41 rfl ?_ ?_
    · refine s_iconst (pc := 57) (v := -1) dX11_done_57 rfl ?_
      exact s_iret (pc := 58) dX11_done_58 rfl rfl
    · refine s_aload_n (pc := 44) 0 dX11_done_44 rfl rfl ?_
      refine s_getR (pc := 45) 88 dX11_done_45 (fi_X11_9 hG) kd_1 rfl ?_
      refine s_sipush (pc := 48) (v := 392) dX11_done_48 rfl ?_
      refine s_iload_n (pc := 51) 1 dX11_done_51 rfl rfl ?_
      refine s_iadd (pc := 52) dX11_done_52 ?_
      refine s_iald (pc := 53) 512 dX11_done_53 kd_88 ln_88 ?_
      refine s_goto (pc := 54) 58 dX11_done_54 rfl ?_
      exact s_iret (pc := 58) dX11_done_58 rfl rfl
  · refine s_iconst (pc := 23) (v := 0) dX11_done_23 rfl ?_
    exact s_iret (pc := 24) dX11_done_24 rfl rfl
def Mo_done  (v1 : Int32) (P : PH) : Option (Int32 × PH) :=
  (Mo_isThere P).bind fun (x2 : Int32) =>
  if x2 = 0 then
    Mo_done_13 v1 (1 : Int32) P
  else
    Mo_done_13 v1 (0 : Int32) P
set_option maxRecDepth 100000 in
set_option maxHeartbeats 4000000 in
theorem Mo_done_ok {G : GT} {l : Launch} (hG : GOK G l)  (v1 : Int32) (P : PH) : OkN G l yX11_done miX11_done 0 0 tIH [.ref (gA G 1), .int v1] P (Mo_done v1 P) := by
  refine okN_of hG _ [(0, .ref (gA G 1)), (1, .int v1)] rfl rfl rfl (Nat.le_of_ble_eq_true rfl) rfl ?_
  unfold Mo_done
  refine s_aload_n (pc := 0) 0 dX11_done_0 rfl rfl ?_
  refine s_aload_n (pc := 1) 0 dX11_done_1 rfl rfl ?_
  refine s_callV (k := 0) (n := 0) (pc := 2) [] (fun x2 => .int x2 :: [.ref (gA G 1)]) (fun _ => P) dX11_done_2 (cV_X11_326 hG) (Nat.le_of_ble_eq_true rfl) rfl kd_1 (Mo_isThere_ok hG P) rfl (fun _ => rfl) (fun _ => rfl) (Nat.le_of_ble_eq_true rfl) rfl rfl (fun x2 => ?_)
  refine s_if_eq (pc := 5) 12 dX11_done_5 rfl ?_ ?_
  · refine s_iconst (pc := 12) (v := 1) dX11_done_12 rfl ?_
    exact Mo_done_13_sem hG v1 (1 : Int32) P
  · refine s_iconst (pc := 8) (v := 0) dX11_done_8 rfl ?_
    refine s_goto (pc := 9) 13 dX11_done_9 rfl ?_
    exact Mo_done_13_sem hG v1 (0 : Int32) P
def Mo_goesBy_2   (v1 : Int32)  : Nat → Int32 → PH → Option (Int32 × PH)
  | 0 => fun _ _ => none
  | n + 1 => fun v2 P =>
    gdI v1 4 <|
    if (P.1 109 v1.toNatClampNeg) ≤ v2 then
      some (v2, P)
    else
      gdI (((40 : Int32) * v1) + v2) 160 <|
      (Mo_whyNot (P.2 110 (((40 : Int32) * v1) + v2).toNatClampNeg) P).bind fun (x24 : Int32) =>
      if x24 = 0 then
        gdI (((40 : Int32) * v1) + v2) 160 <|
        (Mo_goes ((P.2 110 (((40 : Int32) * v1) + v2).toNatClampNeg).toInt32) P).bind fun (x43 : PH) =>
        Mo_goesBy_2 v1 n (v2 + 1) x43
      else
        some (v2, P)
set_option maxRecDepth 100000 in
set_option maxHeartbeats 4000000 in
theorem Mo_goesBy_2_sem {G : GT} {l : Launch} (hG : GOK G l)  (v1 : Int32)    : ∀ (n : Nat) (v2 : Int32) (P : PH), Sem G l miX11_goesBy 0 0 (rn tIH) 2 [(0, .ref (gA G 1)), (1, .int v1), (2, .int v2)] [] P (Mo_goesBy_2 v1 n v2 P) := by
  intro n
  induction n with
  | zero => intro v2 P; exact s_none rfl
  | succ n ih =>
    intro v2 P
    rw [Mo_goesBy_2]
    refine s_iload_n (pc := 2) 2 dX11_goesBy_2 rfl rfl ?_
    refine s_aload_n (pc := 3) 0 dX11_goesBy_3 rfl rfl ?_
    refine s_getR (pc := 4) 109 dX11_goesBy_4 (fi_X11_79 hG) kd_1 rfl ?_
    refine s_iload_n (pc := 7) 1 dX11_goesBy_7 rfl rfl ?_
    refine s_iald (pc := 8) 4 dX11_goesBy_8 kd_109 ln_109 ?_
    refine s_icmp_ge (pc := 9) 52 dX11_goesBy_9 rfl ?_ ?_
    · refine s_iload_n (pc := 52) 2 dX11_goesBy_52 rfl rfl ?_
      exact s_iret (pc := 53) dX11_goesBy_53 rfl rfl
    · refine s_aload_n (pc := 12) 0 dX11_goesBy_12 rfl rfl ?_
      refine s_aload_n (pc := 13) 0 dX11_goesBy_13 rfl rfl ?_
      refine s_getR (pc := 14) 110 dX11_goesBy_14 (fi_X11_82 hG) kd_1 rfl ?_
      refine s_bipush (pc := 17) (v := 40) dX11_goesBy_17 rfl ?_
      refine s_iload_n (pc := 19) 1 dX11_goesBy_19 rfl rfl ?_
      refine s_imul (pc := 20) dX11_goesBy_20 ?_
      refine s_iload_n (pc := 21) 2 dX11_goesBy_21 rfl rfl ?_
      refine s_iadd (pc := 22) dX11_goesBy_22 ?_
      refine s_lald (pc := 23) 160 dX11_goesBy_23 kd_110 ln_110 ?_
      refine s_callV (k := 0) (n := 0) (pc := 24) [.long (P.2 110 (((40 : Int32) * v1) + v2).toNatClampNeg)] (fun x24 => .int x24 :: []) (fun _ => P) dX11_goesBy_24 (cV_X11_344 hG) (Nat.le_of_ble_eq_true rfl) rfl kd_1 (Mo_whyNot_ok hG (P.2 110 (((40 : Int32) * v1) + v2).toNatClampNeg) P) rfl (fun _ => rfl) (fun _ => rfl) (Nat.le_of_ble_eq_true rfl) rfl rfl (fun x24 => ?_)
      refine s_if_ne (pc := 27) 52 dX11_goesBy_27 rfl ?_ ?_
      · refine s_aload_n (pc := 30) 0 dX11_goesBy_30 rfl rfl ?_
        refine s_aload_n (pc := 31) 0 dX11_goesBy_31 rfl rfl ?_
        refine s_getR (pc := 32) 110 dX11_goesBy_32 (fi_X11_82 hG) kd_1 rfl ?_
        refine s_bipush (pc := 35) (v := 40) dX11_goesBy_35 rfl ?_
        refine s_iload_n (pc := 37) 1 dX11_goesBy_37 rfl rfl ?_
        refine s_imul (pc := 38) dX11_goesBy_38 ?_
        refine s_iload_n (pc := 39) 2 dX11_goesBy_39 rfl rfl ?_
        refine s_iadd (pc := 40) dX11_goesBy_40 ?_
        refine s_lald (pc := 41) 160 dX11_goesBy_41 kd_110 ln_110 ?_
        refine s_l2i (pc := 42) dX11_goesBy_42 ?_
        refine s_callV (k := 0) (n := 0) (pc := 43) [.int ((P.2 110 (((40 : Int32) * v1) + v2).toNatClampNeg).toInt32)] (fun _ => []) (fun x43 => x43) dX11_goesBy_43 (cV_X11_348 hG) (Nat.le_of_ble_eq_true rfl) rfl kd_1 (Mo_goes_ok hG ((P.2 110 (((40 : Int32) * v1) + v2).toNatClampNeg).toInt32) P) rfl (fun _ => rfl) (fun _ => rfl) (Nat.le_of_ble_eq_true rfl) rfl rfl (fun x43 => ?_)
        refine s_iinc (pc := 46) 2 1 [(2, .int (v2 + 1)), (0, .ref (gA G 1)), (1, .int v1)] dX11_goesBy_46 rfl rfl (Nat.le_of_ble_eq_true rfl) rfl ?_
        refine s_goto (pc := 49) 2 dX11_goesBy_49 rfl ?_
        refine s_sub [1, 2, 0] rfl ?_
        exact ih (v2 + 1) x43
      · refine s_iload_n (pc := 52) 2 dX11_goesBy_52 rfl rfl ?_
        exact s_iret (pc := 53) dX11_goesBy_53 rfl rfl
def Mo_goesBy  (v1 : Int32) (P : PH) : Option (Int32 × PH) :=
  Mo_goesBy_2 v1 bigN (0 : Int32) P
set_option maxRecDepth 100000 in
set_option maxHeartbeats 4000000 in
theorem Mo_goesBy_ok {G : GT} {l : Launch} (hG : GOK G l)  (v1 : Int32) (P : PH) : OkN G l yX11_goesBy miX11_goesBy 0 0 tIH [.ref (gA G 1), .int v1] P (Mo_goesBy v1 P) := by
  refine okN_of hG _ [(0, .ref (gA G 1)), (1, .int v1)] rfl rfl rfl (Nat.le_of_ble_eq_true rfl) rfl ?_
  unfold Mo_goesBy
  refine s_iconst (pc := 0) (v := 0) dX11_goesBy_0 rfl ?_
  refine s_istore_n (pc := 1) [(2, .int ((0 : Int32))), (0, .ref (gA G 1)), (1, .int v1)] dX11_goesBy_1 rfl (Nat.le_of_ble_eq_true rfl) rfl ?_
  refine s_sub [1, 2, 0] rfl ?_
  exact Mo_goesBy_2_sem hG v1 bigN (0 : Int32) P
def Mo_isTray  (v0 : Int32) (P : PH) : Option (Int32) :=
  (Mo_within v0.toInt64 (0 : Int64) (3 : Int64) P).bind fun (x6 : Int32) =>
  gdP (x6 = 0 ∨ x6 = 1) <|
  some x6
set_option maxRecDepth 100000 in
set_option maxHeartbeats 4000000 in
theorem Mo_isTray_ok {G : GT} {l : Launch} (hG : GOK G l)  (v0 : Int32) (P : PH) : OkN G l yX11_isTray miX11_isTray 0 0 (tI P) [.int v0] P (Mo_isTray v0 P) := by
  refine okN_of hG _ [(0, .int v0)] rfl rfl rfl (Nat.le_of_ble_eq_true rfl) rfl ?_
  unfold Mo_isTray
  refine s_iload_n (pc := 0) 0 dX11_isTray_0 rfl rfl ?_
  refine s_i2l (pc := 1) dX11_isTray_1 ?_
  refine s_lconst (pc := 2) (v := 0) dX11_isTray_2 rfl ?_
  refine s_ldc2 (pc := 3) (v := 3) dX11_isTray_3 (gw_X11_106 hG) ?_
  refine s_callS (k := 0) (n := 0) (pc := 6) [.long (v0.toInt64), .long ((0 : Int64)), .long ((3 : Int64))] (fun x6 => .int x6 :: []) (fun _ => P) dX11_isTray_6 (cS_X11_98 hG) (Nat.le_of_ble_eq_true rfl) rfl (Mo_within_ok hG v0.toInt64 (0 : Int64) (3 : Int64) P) rfl (fun _ => rfl) (fun _ => rfl) (Nat.le_of_ble_eq_true rfl) rfl rfl (fun x6 => ?_)
  exact s_zret (pc := 9) dX11_isTray_9 rfl rfl
def Mo_trayFault  (v1 : Int32) (P : PH) : Option (Int32) :=
  (Mo_isTray v1 P).bind fun (x1 : Int32) =>
  if x1 = 0 then
    some (1 : Int32)
  else
    (Mo_isThere P).bind fun (x12 : Int32) =>
    if x12 = 0 then
      some (2 : Int32)
    else
      gdI v1 4 <|
      if (P.1 108 v1.toNatClampNeg) = (-1 : Int32) then
        some (2 : Int32)
      else
        some (0 : Int32)
set_option maxRecDepth 100000 in
set_option maxHeartbeats 4000000 in
theorem Mo_trayFault_ok {G : GT} {l : Launch} (hG : GOK G l)  (v1 : Int32) (P : PH) : OkN G l yX11_trayFault miX11_trayFault 0 0 (tI P) [.ref (gA G 1), .int v1] P (Mo_trayFault v1 P) := by
  refine okN_of hG _ [(0, .ref (gA G 1)), (1, .int v1)] rfl rfl rfl (Nat.le_of_ble_eq_true rfl) rfl ?_
  unfold Mo_trayFault
  refine s_iload_n (pc := 0) 1 dX11_trayFault_0 rfl rfl ?_
  refine s_callS (k := 0) (n := 0) (pc := 1) [.int v1] (fun x1 => .int x1 :: []) (fun _ => P) dX11_trayFault_1 (cS_X11_356 hG) (Nat.le_of_ble_eq_true rfl) rfl (Mo_isTray_ok hG v1 P) rfl (fun _ => rfl) (fun _ => rfl) (Nat.le_of_ble_eq_true rfl) rfl rfl (fun x1 => ?_)
  refine s_if_ne (pc := 4) 11 dX11_trayFault_4 rfl ?_ ?_
  · refine s_iconst (pc := 7) (v := 1) dX11_trayFault_7 rfl ?_
    refine s_goto (pc := 8) 33 dX11_trayFault_8 rfl ?_
    exact s_iret (pc := 33) dX11_trayFault_33 rfl rfl
  · refine s_aload_n (pc := 11) 0 dX11_trayFault_11 rfl rfl ?_
    refine s_callV (k := 0) (n := 0) (pc := 12) [] (fun x12 => .int x12 :: []) (fun _ => P) dX11_trayFault_12 (cV_X11_326 hG) (Nat.le_of_ble_eq_true rfl) rfl kd_1 (Mo_isThere_ok hG P) rfl (fun _ => rfl) (fun _ => rfl) (Nat.le_of_ble_eq_true rfl) rfl rfl (fun x12 => ?_)
    refine s_if_eq (pc := 15) 28 dX11_trayFault_15 rfl ?_ ?_
    · refine s_iconst (pc := 28) (v := 2) dX11_trayFault_28 rfl ?_
      refine s_goto (pc := 29) 33 dX11_trayFault_29 rfl ?_
      exact s_iret (pc := 33) dX11_trayFault_33 rfl rfl
    · refine s_aload_n (pc := 18) 0 dX11_trayFault_18 rfl rfl ?_
      refine s_getR (pc := 19) 108 dX11_trayFault_19 (fi_X11_76 hG) kd_1 rfl ?_
      refine s_iload_n (pc := 22) 1 dX11_trayFault_22 rfl rfl ?_
      refine s_iald (pc := 23) 4 dX11_trayFault_23 kd_108 ln_108 ?_
      refine s_iconst (pc := 24) (v := -1) dX11_trayFault_24 rfl ?_
      refine s_icmp_ne (pc := 25) 32 dX11_trayFault_25 rfl ?_ ?_
      · refine s_iconst (pc := 28) (v := 2) dX11_trayFault_28 rfl ?_
        refine s_goto (pc := 29) 33 dX11_trayFault_29 rfl ?_
        exact s_iret (pc := 33) dX11_trayFault_33 rfl rfl
      · refine s_iconst (pc := 32) (v := 0) dX11_trayFault_32 rfl ?_
        exact s_iret (pc := 33) dX11_trayFault_33 rfl rfl
def Mo_leftOf_4   (v1 : Int32) (P : PH) : Nat → Int32 → Int32 → Option (Int32)
  | 0 => fun _ _ => none
  | n + 1 => fun v2 v3 =>
    gdI (0 : Int32) 512 <|
    if (P.1 88 (0 : Int32).toNatClampNeg) ≤ v3 then
      some v2
    else
      (Mo_inkOf v3 P).bind fun (x16 : Int32) =>
      if x16 = v1 then
        (Mo_worked v3 P).bind fun (x26 : Int32) =>
        if x26 = 0 then
          (some (v2 + (2 : Int32))).bind fun (u2_51 : Int32) =>
          Mo_leftOf_4 v1 P n u2_51 (v3 + 1)
        else
          (Mo_worked v3 P).bind fun (x38 : Int32) =>
          if x38 = (3 : Int32) then
            (some (v2 + (0 : Int32))).bind fun (u2_51 : Int32) =>
            Mo_leftOf_4 v1 P n u2_51 (v3 + 1)
          else
            (some (v2 + (1 : Int32))).bind fun (u2_51 : Int32) =>
            Mo_leftOf_4 v1 P n u2_51 (v3 + 1)
      else
        Mo_leftOf_4 v1 P n v2 (v3 + 1)
set_option maxRecDepth 100000 in
set_option maxHeartbeats 4000000 in
theorem Mo_leftOf_4_sem {G : GT} {l : Launch} (hG : GOK G l)  (v1 : Int32) (P : PH)   : ∀ (n : Nat) (v2 : Int32) (v3 : Int32), Sem G l miX11_leftOf 0 0 (rn (tI P)) 4 [(0, .ref (gA G 1)), (1, .int v1), (2, .int v2), (3, .int v3)] [] P (Mo_leftOf_4 v1 P n v2 v3) := by
  intro n
  induction n with
  | zero => intro v2 v3; exact s_none rfl
  | succ n ih =>
    intro v2 v3
    rw [Mo_leftOf_4]
    refine s_iload_n (pc := 4) 3 dX11_leftOf_4 rfl rfl ?_
    refine s_aload_n (pc := 5) 0 dX11_leftOf_5 rfl rfl ?_
    refine s_getR (pc := 6) 88 dX11_leftOf_6 (fi_X11_9 hG) kd_1 rfl ?_
    refine s_iconst (pc := 9) (v := 0) dX11_leftOf_9 rfl ?_
    refine s_iald (pc := 10) 512 dX11_leftOf_10 kd_88 ln_88 ?_
    refine s_icmp_ge (pc := 11) 58 dX11_leftOf_11 rfl ?_ ?_
    · refine s_iload_n (pc := 58) 2 dX11_leftOf_58 rfl rfl ?_
      exact s_iret (pc := 59) dX11_leftOf_59 rfl rfl
    · refine s_aload_n (pc := 14) 0 dX11_leftOf_14 rfl rfl ?_
      refine s_iload_n (pc := 15) 3 dX11_leftOf_15 rfl rfl ?_
      refine s_callV (k := 0) (n := 0) (pc := 16) [.int v3] (fun x16 => .int x16 :: []) (fun _ => P) dX11_leftOf_16 (cV_X11_258 hG) (Nat.le_of_ble_eq_true rfl) rfl kd_1 (Mo_inkOf_ok hG v3 P) rfl (fun _ => rfl) (fun _ => rfl) (Nat.le_of_ble_eq_true rfl) rfl rfl (fun x16 => ?_)
      refine s_iload_n (pc := 19) 1 dX11_leftOf_19 rfl rfl ?_
      refine s_icmp_ne (pc := 20) 52 dX11_leftOf_20 rfl ?_ ?_
      · refine s_iload_n (pc := 23) 2 dX11_leftOf_23 rfl rfl ?_
        refine s_aload_n (pc := 24) 0 dX11_leftOf_24 rfl rfl ?_
        refine s_iload_n (pc := 25) 3 dX11_leftOf_25 rfl rfl ?_
        refine s_callV (k := 0) (n := 0) (pc := 26) [.int v3] (fun x26 => .int x26 :: [.int v2]) (fun _ => P) dX11_leftOf_26 (cV_X11_270 hG) (Nat.le_of_ble_eq_true rfl) rfl kd_1 (Mo_worked_ok hG v3 P) rfl (fun _ => rfl) (fun _ => rfl) (Nat.le_of_ble_eq_true rfl) rfl rfl (fun x26 => ?_)
        refine s_if_ne (pc := 29) 36 dX11_leftOf_29 rfl ?_ ?_
        · refine s_iconst (pc := 32) (v := 2) dX11_leftOf_32 rfl ?_
          refine s_goto (pc := 33) 50 dX11_leftOf_33 rfl ?_
          refine s_iadd (pc := 50) dX11_leftOf_50 ?_
          refine s_letI (fun u2_51 => ?_)
          refine s_istore_n (pc := 51) [(2, .int u2_51), (0, .ref (gA G 1)), (1, .int v1), (3, .int v3)] dX11_leftOf_51 rfl (Nat.le_of_ble_eq_true rfl) rfl ?_
          refine s_iinc (pc := 52) 3 1 [(3, .int (v3 + 1)), (2, .int u2_51), (0, .ref (gA G 1)), (1, .int v1)] dX11_leftOf_52 rfl rfl (Nat.le_of_ble_eq_true rfl) rfl ?_
          refine s_goto (pc := 55) 4 dX11_leftOf_55 rfl ?_
          refine s_sub [2, 3, 1, 0] rfl ?_
          exact ih u2_51 (v3 + 1)
        · refine s_aload_n (pc := 36) 0 dX11_leftOf_36 rfl rfl ?_
          refine s_iload_n (pc := 37) 3 dX11_leftOf_37 rfl rfl ?_
          refine s_callV (k := 0) (n := 0) (pc := 38) [.int v3] (fun x38 => .int x38 :: [.int v2]) (fun _ => P) dX11_leftOf_38 (cV_X11_270 hG) (Nat.le_of_ble_eq_true rfl) rfl kd_1 (Mo_worked_ok hG v3 P) rfl (fun _ => rfl) (fun _ => rfl) (Nat.le_of_ble_eq_true rfl) rfl rfl (fun x38 => ?_)
          refine s_iconst (pc := 41) (v := 3) dX11_leftOf_41 rfl ?_
          refine s_icmp_ne (pc := 42) 49 dX11_leftOf_42 rfl ?_ ?_
          · refine s_iconst (pc := 45) (v := 0) dX11_leftOf_45 rfl ?_
            refine s_goto (pc := 46) 50 dX11_leftOf_46 rfl ?_
            refine s_iadd (pc := 50) dX11_leftOf_50 ?_
            refine s_letI (fun u2_51 => ?_)
            refine s_istore_n (pc := 51) [(2, .int u2_51), (0, .ref (gA G 1)), (1, .int v1), (3, .int v3)] dX11_leftOf_51 rfl (Nat.le_of_ble_eq_true rfl) rfl ?_
            refine s_iinc (pc := 52) 3 1 [(3, .int (v3 + 1)), (2, .int u2_51), (0, .ref (gA G 1)), (1, .int v1)] dX11_leftOf_52 rfl rfl (Nat.le_of_ble_eq_true rfl) rfl ?_
            refine s_goto (pc := 55) 4 dX11_leftOf_55 rfl ?_
            refine s_sub [2, 3, 1, 0] rfl ?_
            exact ih u2_51 (v3 + 1)
          · refine s_iconst (pc := 49) (v := 1) dX11_leftOf_49 rfl ?_
            refine s_iadd (pc := 50) dX11_leftOf_50 ?_
            refine s_letI (fun u2_51 => ?_)
            refine s_istore_n (pc := 51) [(2, .int u2_51), (0, .ref (gA G 1)), (1, .int v1), (3, .int v3)] dX11_leftOf_51 rfl (Nat.le_of_ble_eq_true rfl) rfl ?_
            refine s_iinc (pc := 52) 3 1 [(3, .int (v3 + 1)), (2, .int u2_51), (0, .ref (gA G 1)), (1, .int v1)] dX11_leftOf_52 rfl rfl (Nat.le_of_ble_eq_true rfl) rfl ?_
            refine s_goto (pc := 55) 4 dX11_leftOf_55 rfl ?_
            refine s_sub [2, 3, 1, 0] rfl ?_
            exact ih u2_51 (v3 + 1)
      · refine s_iinc (pc := 52) 3 1 [(3, .int (v3 + 1)), (0, .ref (gA G 1)), (1, .int v1), (2, .int v2)] dX11_leftOf_52 rfl rfl (Nat.le_of_ble_eq_true rfl) rfl ?_
        refine s_goto (pc := 55) 4 dX11_leftOf_55 rfl ?_
        refine s_sub [1, 2, 3, 0] rfl ?_
        exact ih v2 (v3 + 1)
def Mo_leftOf  (v1 : Int32) (P : PH) : Option (Int32) :=
  Mo_leftOf_4 v1 P bigN (0 : Int32) (0 : Int32)
set_option maxRecDepth 100000 in
set_option maxHeartbeats 4000000 in
theorem Mo_leftOf_ok {G : GT} {l : Launch} (hG : GOK G l)  (v1 : Int32) (P : PH) : OkN G l yX11_leftOf miX11_leftOf 0 0 (tI P) [.ref (gA G 1), .int v1] P (Mo_leftOf v1 P) := by
  refine okN_of hG _ [(0, .ref (gA G 1)), (1, .int v1)] rfl rfl rfl (Nat.le_of_ble_eq_true rfl) rfl ?_
  unfold Mo_leftOf
  refine s_iconst (pc := 0) (v := 0) dX11_leftOf_0 rfl ?_
  refine s_istore_n (pc := 1) [(2, .int ((0 : Int32))), (0, .ref (gA G 1)), (1, .int v1)] dX11_leftOf_1 rfl (Nat.le_of_ble_eq_true rfl) rfl ?_
  refine s_iconst (pc := 2) (v := 0) dX11_leftOf_2 rfl ?_
  refine s_istore_n (pc := 3) [(3, .int ((0 : Int32))), (2, .int ((0 : Int32))), (0, .ref (gA G 1)), (1, .int v1)] dX11_leftOf_3 rfl (Nat.le_of_ble_eq_true rfl) rfl ?_
  refine s_sub [2, 3, 1, 0] rfl ?_
  exact Mo_leftOf_4_sem hG v1 P bigN (0 : Int32) (0 : Int32)
def Mo_judge_100   (v2 : Int32) (v3 : Int32) (v4 : Int32) (s0 : Int32) (P : PH) : Option (Int32 × PH) :=
  (Mo_hole P).bind fun (x103 : Int32) =>
  gdI (3 : Int32) 512 <|
  (Mo_leftOf (P.1 88 (3 : Int32).toNatClampNeg) P).bind fun (x115 : Int32) =>
  (Mo_copies 91 88 P).bind fun (x128 : PH) =>
  if v2 = 0 then
    if v4 = 0 then
      some (v3, x128)
    else
      some ((-1 : Int32), x128)
  else
    if v2 = (1 : Int32) then
      some (s0, x128)
    else
      if v2 = (2 : Int32) then
        some (x103, x128)
      else
        some (x115, x128)
set_option maxRecDepth 100000 in
set_option maxHeartbeats 4000000 in
theorem Mo_judge_100_sem {G : GT} {l : Launch} (hG : GOK G l)  (v2 : Int32) (v3 : Int32) (v4 : Int32) (s0 : Int32) (P : PH)   : Sem G l miX11_judge 0 0 (rn tIH) 100 [(0, .ref (gA G 1)), (2, .int v2), (3, .int v3), (4, .int v4)] [.int s0] P (Mo_judge_100 v2 v3 v4 s0 P) := by
  unfold Mo_judge_100
  refine s_istore (pc := 100) [(5, .int s0), (0, .ref (gA G 1)), (2, .int v2), (3, .int v3), (4, .int v4)] dX11_judge_100 (Nat.le_of_ble_eq_true rfl) rfl ?_
  refine s_aload_n (pc := 102) 1 dX11_judge_102 rfl rfl ?_
  refine s_callV (k := 0) (n := 0) (pc := 103) [] (fun x103 => .int x103 :: []) (fun _ => P) dX11_judge_103 (cV_X11_330 hG) (Nat.le_of_ble_eq_true rfl) rfl kd_1 (Mo_hole_ok hG P) rfl (fun _ => rfl) (fun _ => rfl) (Nat.le_of_ble_eq_true rfl) rfl rfl (fun x103 => ?_)
  refine s_istore (pc := 106) [(6, .int x103), (5, .int s0), (0, .ref (gA G 1)), (2, .int v2), (3, .int v3), (4, .int v4)] dX11_judge_106 (Nat.le_of_ble_eq_true rfl) rfl ?_
  refine s_aload_n (pc := 108) 2 dX11_judge_108 rfl rfl ?_
  refine s_aload_n (pc := 109) 2 dX11_judge_109 rfl rfl ?_
  refine s_getR (pc := 110) 88 dX11_judge_110 (fi_X11_9 hG) kd_1 rfl ?_
  refine s_iconst (pc := 113) (v := 3) dX11_judge_113 rfl ?_
  refine s_iald (pc := 114) 512 dX11_judge_114 kd_88 ln_88 ?_
  refine s_callV (k := 0) (n := 0) (pc := 115) [.int (P.1 88 (3 : Int32).toNatClampNeg)] (fun x115 => .int x115 :: []) (fun _ => P) dX11_judge_115 (cV_X11_365 hG) (Nat.le_of_ble_eq_true rfl) rfl kd_1 (Mo_leftOf_ok hG (P.1 88 (3 : Int32).toNatClampNeg) P) rfl (fun _ => rfl) (fun _ => rfl) (Nat.le_of_ble_eq_true rfl) rfl rfl (fun x115 => ?_)
  refine s_istore (pc := 118) [(7, .int x115), (6, .int x103), (5, .int s0), (0, .ref (gA G 1)), (2, .int v2), (3, .int v3), (4, .int v4)] dX11_judge_118 (Nat.le_of_ble_eq_true rfl) rfl ?_
  refine s_aload_n (pc := 120) 3 dX11_judge_120 rfl rfl ?_
  refine s_getR (pc := 121) 91 dX11_judge_121 (fi_X11_19 hG) kd_1 rfl ?_
  refine s_aload_n (pc := 124) 3 dX11_judge_124 rfl rfl ?_
  refine s_getR (pc := 125) 88 dX11_judge_125 (fi_X11_9 hG) kd_1 rfl ?_
  refine s_callS (k := 0) (n := 0) (pc := 128) [.ref (gA G 91), .ref (gA G 88)] (fun _ => []) (fun x128 => x128) dX11_judge_128 (cS_X11_254 hG) (Nat.le_of_ble_eq_true rfl) rfl (Mo_copies_ok hG 91 ⟨kd_91, ln_91⟩ 88 ⟨kd_88, ln_88⟩ P) rfl (fun _ => rfl) (fun _ => rfl) (Nat.le_of_ble_eq_true rfl) rfl rfl (fun x128 => ?_)
  refine s_iload_n (pc := 131) 4 dX11_judge_131 rfl rfl ?_
  refine s_if_ne (pc := 132) 148 dX11_judge_132 rfl ?_ ?_
  · refine s_iload (pc := 135) 6 dX11_judge_135 rfl ?_
    refine s_if_eq (pc := 137) 144 dX11_judge_137 rfl ?_ ?_
    · refine s_iload_n (pc := 144) 5 dX11_judge_144 rfl rfl ?_
      refine s_goto (pc := 145) 170 dX11_judge_145 rfl ?_
      exact s_iret (pc := 170) dX11_judge_170 rfl rfl
    · refine s_iconst (pc := 140) (v := -1) dX11_judge_140 rfl ?_
      refine s_goto (pc := 141) 170 dX11_judge_141 rfl ?_
      exact s_iret (pc := 170) dX11_judge_170 rfl rfl
  · refine s_iload_n (pc := 148) 4 dX11_judge_148 rfl rfl ?_
    refine s_iconst (pc := 149) (v := 1) dX11_judge_149 rfl ?_
    refine s_icmp_ne (pc := 150) 158 dX11_judge_150 rfl ?_ ?_
    · refine s_iload (pc := 153) 2 dX11_judge_153 rfl ?_
      refine s_goto (pc := 155) 170 dX11_judge_155 rfl ?_
      exact s_iret (pc := 170) dX11_judge_170 rfl rfl
    · refine s_iload_n (pc := 158) 4 dX11_judge_158 rfl rfl ?_
      refine s_iconst (pc := 159) (v := 2) dX11_judge_159 rfl ?_
      refine s_icmp_ne (pc := 160) 168 dX11_judge_160 rfl ?_ ?_
      · refine s_iload (pc := 163) 1 dX11_judge_163 rfl ?_
        refine s_goto (pc := 165) 170 dX11_judge_165 rfl ?_
        exact s_iret (pc := 170) dX11_judge_170 rfl rfl
      · refine s_iload (pc := 168) 0 dX11_judge_168 rfl ?_
        exact s_iret (pc := 170) dX11_judge_170 rfl rfl
def Mo_judge_74   (v1 : Int32) (v2 : Int32) (v3 : Int32) (s0 : Int32) (P : PH) : Option (Int32 × PH) :=
  if s0 = 0 then
    gdI (((40 : Int32) * v1) + v3) 160 <|
    (Mo_whyNot (P.2 110 (((40 : Int32) * v1) + v3).toNatClampNeg) P).bind fun (x97 : Int32) =>
    Mo_judge_100 v2 v3 s0 x97 P
  else
    Mo_judge_100 v2 v3 s0 (0 : Int32) P
set_option maxRecDepth 100000 in
set_option maxHeartbeats 4000000 in
theorem Mo_judge_74_sem {G : GT} {l : Launch} (hG : GOK G l)  (v1 : Int32) (v2 : Int32) (v3 : Int32) (s0 : Int32) (P : PH)   : Sem G l miX11_judge 0 0 (rn tIH) 74 [(0, .ref (gA G 1)), (1, .int v1), (2, .int v2), (3, .int v3)] [.int s0] P (Mo_judge_74 v1 v2 v3 s0 P) := by
  unfold Mo_judge_74
  refine s_istore (pc := 74) [(4, .int s0), (0, .ref (gA G 1)), (1, .int v1), (2, .int v2), (3, .int v3)] dX11_judge_74 (Nat.le_of_ble_eq_true rfl) rfl ?_
  refine s_iload (pc := 76) 0 dX11_judge_76 rfl ?_
  refine s_if_eq (pc := 78) 85 dX11_judge_78 rfl ?_ ?_
  · refine s_aload_n (pc := 85) 1 dX11_judge_85 rfl rfl ?_
    refine s_aload_n (pc := 86) 1 dX11_judge_86 rfl rfl ?_
    refine s_getR (pc := 87) 110 dX11_judge_87 (fi_X11_82 hG) kd_1 rfl ?_
    refine s_bipush (pc := 90) (v := 40) dX11_judge_90 rfl ?_
    refine s_iload_n (pc := 92) 2 dX11_judge_92 rfl rfl ?_
    refine s_imul (pc := 93) dX11_judge_93 ?_
    refine s_iload_n (pc := 94) 4 dX11_judge_94 rfl rfl ?_
    refine s_iadd (pc := 95) dX11_judge_95 ?_
    refine s_lald (pc := 96) 160 dX11_judge_96 kd_110 ln_110 ?_
    refine s_callV (k := 0) (n := 0) (pc := 97) [.long (P.2 110 (((40 : Int32) * v1) + v3).toNatClampNeg)] (fun x97 => .int x97 :: []) (fun _ => P) dX11_judge_97 (cV_X11_344 hG) (Nat.le_of_ble_eq_true rfl) rfl kd_1 (Mo_whyNot_ok hG (P.2 110 (((40 : Int32) * v1) + v3).toNatClampNeg) P) rfl (fun _ => rfl) (fun _ => rfl) (Nat.le_of_ble_eq_true rfl) rfl rfl (fun x97 => ?_)
    refine s_sub [1, 3, 4, 0] rfl ?_
    exact Mo_judge_100_sem hG v2 v3 s0 x97 P
  · refine s_iconst (pc := 81) (v := 0) dX11_judge_81 rfl ?_
    refine s_goto (pc := 82) 100 dX11_judge_82 rfl ?_
    refine s_sub [1, 3, 4, 0] rfl ?_
    exact Mo_judge_100_sem hG v2 v3 s0 (0 : Int32) P
def Mo_judge_33   (v1 : Int32) (v2 : Int32) (P : PH) : Option (Int32 × PH) :=
  if (P.1 1 5) ≤ 0 then
    (Mo_copies 88 91 P).bind fun (x50 : PH) =>
    (Mo_goesBy v1 x50).bind fun (x55 : Int32 × PH) =>
    gdI v1 4 <|
    if x55.1 = (x55.2.1 109 v1.toNatClampNeg) then
      Mo_judge_74 v1 v2 x55.1 (1 : Int32) x55.2
    else
      Mo_judge_74 v1 v2 x55.1 (0 : Int32) x55.2
  else
    some ((0 : Int32), P)
set_option maxRecDepth 100000 in
set_option maxHeartbeats 4000000 in
theorem Mo_judge_33_sem {G : GT} {l : Launch} (hG : GOK G l)  (v1 : Int32) (v2 : Int32) (P : PH)   : Sem G l miX11_judge 0 0 (rn tIH) 33 [(0, .ref (gA G 1)), (1, .int v1), (2, .int v2)] [] P (Mo_judge_33 v1 v2 P) := by
  unfold Mo_judge_33
  refine s_aload_n (pc := 33) 0 dX11_judge_33 rfl rfl ?_
  refine s_getI (pc := 34) dX11_judge_34 (fi_X11_86 hG) kd_1 ?_
  refine s_if_le (pc := 37) 42 dX11_judge_37 rfl ?_ ?_
  · refine s_aload_n (pc := 42) 0 dX11_judge_42 rfl rfl ?_
    refine s_getR (pc := 43) 88 dX11_judge_43 (fi_X11_9 hG) kd_1 rfl ?_
    refine s_aload_n (pc := 46) 0 dX11_judge_46 rfl rfl ?_
    refine s_getR (pc := 47) 91 dX11_judge_47 (fi_X11_19 hG) kd_1 rfl ?_
    refine s_callS (k := 0) (n := 0) (pc := 50) [.ref (gA G 88), .ref (gA G 91)] (fun _ => []) (fun x50 => x50) dX11_judge_50 (cS_X11_254 hG) (Nat.le_of_ble_eq_true rfl) rfl (Mo_copies_ok hG 88 ⟨kd_88, ln_88⟩ 91 ⟨kd_91, ln_91⟩ P) rfl (fun _ => rfl) (fun _ => rfl) (Nat.le_of_ble_eq_true rfl) rfl rfl (fun x50 => ?_)
    refine s_aload_n (pc := 53) 0 dX11_judge_53 rfl rfl ?_
    refine s_iload_n (pc := 54) 1 dX11_judge_54 rfl rfl ?_
    refine s_callV (k := 0) (n := 0) (pc := 55) [.int v1] (fun x55 => .int (x55.1) :: []) (fun x55 => x55.2) dX11_judge_55 (cV_X11_362 hG) (Nat.le_of_ble_eq_true rfl) rfl kd_1 (Mo_goesBy_ok hG v1 x50) rfl (fun _ => rfl) (fun _ => rfl) (Nat.le_of_ble_eq_true rfl) rfl rfl (fun x55 => ?_)
    refine s_istore_n (pc := 58) [(3, .int (x55.1)), (0, .ref (gA G 1)), (1, .int v1), (2, .int v2)] dX11_judge_58 rfl (Nat.le_of_ble_eq_true rfl) rfl ?_
    refine s_iload_n (pc := 59) 0 dX11_judge_59 rfl rfl ?_
    refine s_aload_n (pc := 60) 1 dX11_judge_60 rfl rfl ?_
    refine s_getR (pc := 61) 109 dX11_judge_61 (fi_X11_79 hG) kd_1 rfl ?_
    refine s_iload_n (pc := 64) 2 dX11_judge_64 rfl rfl ?_
    refine s_iald (pc := 65) 4 dX11_judge_65 kd_109 ln_109 ?_
    refine s_icmp_ne (pc := 66) 73 dX11_judge_66 rfl ?_ ?_
    · refine s_iconst (pc := 69) (v := 1) dX11_judge_69 rfl ?_
      refine s_goto (pc := 70) 74 dX11_judge_70 rfl ?_
      refine s_sub [1, 2, 3, 0] rfl ?_
      exact Mo_judge_74_sem hG v1 v2 x55.1 (1 : Int32) x55.2
    · refine s_iconst (pc := 73) (v := 0) dX11_judge_73 rfl ?_
      refine s_sub [1, 2, 3, 0] rfl ?_
      exact Mo_judge_74_sem hG v1 v2 x55.1 (0 : Int32) x55.2
  · refine s_iconst (pc := 40) (v := 0) dX11_judge_40 rfl ?_
    exact s_iret (pc := 41) dX11_judge_41 rfl rfl
def Mo_judge  (v1 : Int32) (v2 : Int32) (P : PH) : Option (Int32 × PH) :=
  (Mo_trayFault v1 P).bind fun (x3 : Int32) =>
  (some (sI P 1 5 x3)).bind fun (P6 : PH) =>
  if (P6.1 1 5) = 0 then
    (Mo_within v2.toInt64 (0 : Int64) (3 : Int64) P6).bind fun (x22 : Int32) =>
    if x22 = 0 then
      (some (sI P6 1 5 (3 : Int32))).bind fun (P30 : PH) =>
      Mo_judge_33 v1 v2 P30
    else
      Mo_judge_33 v1 v2 P6
  else
    Mo_judge_33 v1 v2 P6
set_option maxRecDepth 100000 in
set_option maxHeartbeats 4000000 in
theorem Mo_judge_ok {G : GT} {l : Launch} (hG : GOK G l)  (v1 : Int32) (v2 : Int32) (P : PH) : OkN G l yX11_judge miX11_judge 0 0 tIH [.ref (gA G 1), .int v1, .int v2] P (Mo_judge v1 v2 P) := by
  refine okN_of hG _ [(0, .ref (gA G 1)), (1, .int v1), (2, .int v2)] rfl rfl rfl (Nat.le_of_ble_eq_true rfl) rfl ?_
  unfold Mo_judge
  refine s_aload_n (pc := 0) 0 dX11_judge_0 rfl rfl ?_
  refine s_aload_n (pc := 1) 0 dX11_judge_1 rfl rfl ?_
  refine s_iload_n (pc := 2) 1 dX11_judge_2 rfl rfl ?_
  refine s_callV (k := 0) (n := 0) (pc := 3) [.int v1] (fun x3 => .int x3 :: [.ref (gA G 1)]) (fun _ => P) dX11_judge_3 (cV_X11_359 hG) (Nat.le_of_ble_eq_true rfl) rfl kd_1 (Mo_trayFault_ok hG v1 P) rfl (fun _ => rfl) (fun _ => rfl) (Nat.le_of_ble_eq_true rfl) rfl rfl (fun x3 => ?_)
  refine s_putI (pc := 6) dX11_judge_6 (fp_X11_86 hG) kd_1 ?_
  refine s_letP (fun P6 => ?_)
  refine s_aload_n (pc := 9) 0 dX11_judge_9 rfl rfl ?_
  refine s_getI (pc := 10) dX11_judge_10 (fi_X11_86 hG) kd_1 ?_
  refine s_if_ne (pc := 13) 33 dX11_judge_13 rfl ?_ ?_
  · refine s_iload_n (pc := 16) 2 dX11_judge_16 rfl rfl ?_
    refine s_i2l (pc := 17) dX11_judge_17 ?_
    refine s_lconst (pc := 18) (v := 0) dX11_judge_18 rfl ?_
    refine s_ldc2 (pc := 19) (v := 3) dX11_judge_19 (gw_X11_106 hG) ?_
    refine s_callS (k := 0) (n := 0) (pc := 22) [.long (v2.toInt64), .long ((0 : Int64)), .long ((3 : Int64))] (fun x22 => .int x22 :: []) (fun _ => P6) dX11_judge_22 (cS_X11_98 hG) (Nat.le_of_ble_eq_true rfl) rfl (Mo_within_ok hG v2.toInt64 (0 : Int64) (3 : Int64) P6) rfl (fun _ => rfl) (fun _ => rfl) (Nat.le_of_ble_eq_true rfl) rfl rfl (fun x22 => ?_)
    refine s_if_ne (pc := 25) 33 dX11_judge_25 rfl ?_ ?_
    · refine s_aload_n (pc := 28) 0 dX11_judge_28 rfl rfl ?_
      refine s_iconst (pc := 29) (v := 3) dX11_judge_29 rfl ?_
      refine s_putI (pc := 30) dX11_judge_30 (fp_X11_86 hG) kd_1 ?_
      refine s_letP (fun P30 => ?_)
      exact Mo_judge_33_sem hG v1 v2 P30
    · exact Mo_judge_33_sem hG v1 v2 P6
  · exact Mo_judge_33_sem hG v1 v2 P6
def Mo_perform  (v1 : Int32) (P : PH) : Option (Int32 × PH) :=
  (Mo_trayFault v1 P).bind fun (x3 : Int32) =>
  (some (sI P 1 5 x3)).bind fun (P6 : PH) =>
  if (P6.1 1 5) ≤ 0 then
    (Mo_goesBy v1 P6).bind fun (x22 : Int32 × PH) =>
    some (x22.1, x22.2)
  else
    some ((0 : Int32), P6)
set_option maxRecDepth 100000 in
set_option maxHeartbeats 4000000 in
theorem Mo_perform_ok {G : GT} {l : Launch} (hG : GOK G l)  (v1 : Int32) (P : PH) : OkN G l yX11_perform miX11_perform 0 0 tIH [.ref (gA G 1), .int v1] P (Mo_perform v1 P) := by
  refine okN_of hG _ [(0, .ref (gA G 1)), (1, .int v1)] rfl rfl rfl (Nat.le_of_ble_eq_true rfl) rfl ?_
  unfold Mo_perform
  refine s_aload_n (pc := 0) 0 dX11_perform_0 rfl rfl ?_
  refine s_aload_n (pc := 1) 0 dX11_perform_1 rfl rfl ?_
  refine s_iload_n (pc := 2) 1 dX11_perform_2 rfl rfl ?_
  refine s_callV (k := 0) (n := 0) (pc := 3) [.int v1] (fun x3 => .int x3 :: [.ref (gA G 1)]) (fun _ => P) dX11_perform_3 (cV_X11_359 hG) (Nat.le_of_ble_eq_true rfl) rfl kd_1 (Mo_trayFault_ok hG v1 P) rfl (fun _ => rfl) (fun _ => rfl) (Nat.le_of_ble_eq_true rfl) rfl rfl (fun x3 => ?_)
  refine s_putI (pc := 6) dX11_perform_6 (fp_X11_86 hG) kd_1 ?_
  refine s_letP (fun P6 => ?_)
  refine s_aload_n (pc := 9) 0 dX11_perform_9 rfl rfl ?_
  refine s_getI (pc := 10) dX11_perform_10 (fi_X11_86 hG) kd_1 ?_
  refine s_if_le (pc := 13) 20 dX11_perform_13 rfl ?_ ?_
  · refine s_aload_n (pc := 20) 0 dX11_perform_20 rfl rfl ?_
    refine s_iload_n (pc := 21) 1 dX11_perform_21 rfl rfl ?_
    refine s_callV (k := 0) (n := 0) (pc := 22) [.int v1] (fun x22 => .int (x22.1) :: []) (fun x22 => x22.2) dX11_perform_22 (cV_X11_362 hG) (Nat.le_of_ble_eq_true rfl) rfl kd_1 (Mo_goesBy_ok hG v1 P6) rfl (fun _ => rfl) (fun _ => rfl) (Nat.le_of_ble_eq_true rfl) rfl rfl (fun x22 => ?_)
    exact s_iret (pc := 25) dX11_perform_25 rfl rfl
  · refine s_iconst (pc := 16) (v := 0) dX11_perform_16 rfl ?_
    refine s_goto (pc := 17) 25 dX11_perform_17 rfl ?_
    exact s_iret (pc := 25) dX11_perform_25 rfl rfl
def Mo_left_13   (s0 : Int32) (P : PH) : Option (Int32 × PH) :=
  (some (sI P 1 5 s0)).bind fun (P13 : PH) =>
  if (P13.1 1 5) ≤ 0 then
    gdI (3 : Int32) 512 <|
    (Mo_leftOf (P13.1 88 (3 : Int32).toNatClampNeg) P13).bind fun (x34 : Int32) =>
    some (x34, P13)
  else
    some ((0 : Int32), P13)
set_option maxRecDepth 100000 in
set_option maxHeartbeats 4000000 in
theorem Mo_left_13_sem {G : GT} {l : Launch} (hG : GOK G l)  (s0 : Int32) (P : PH)   : Sem G l miX11_left 0 0 (rn tIH) 13 [(0, .ref (gA G 1))] [.int s0, .ref (gA G 1)] P (Mo_left_13 s0 P) := by
  unfold Mo_left_13
  refine s_putI (pc := 13) dX11_left_13 (fp_X11_86 hG) kd_1 ?_
  refine s_letP (fun P13 => ?_)
  refine s_aload_n (pc := 16) 0 dX11_left_16 rfl rfl ?_
  refine s_getI (pc := 17) dX11_left_17 (fi_X11_86 hG) kd_1 ?_
  refine s_if_le (pc := 20) 27 dX11_left_20 rfl ?_ ?_
  · refine s_aload_n (pc := 27) 0 dX11_left_27 rfl rfl ?_
    refine s_aload_n (pc := 28) 0 dX11_left_28 rfl rfl ?_
    refine s_getR (pc := 29) 88 dX11_left_29 (fi_X11_9 hG) kd_1 rfl ?_
    refine s_iconst (pc := 32) (v := 3) dX11_left_32 rfl ?_
    refine s_iald (pc := 33) 512 dX11_left_33 kd_88 ln_88 ?_
    refine s_callV (k := 0) (n := 0) (pc := 34) [.int (P13.1 88 (3 : Int32).toNatClampNeg)] (fun x34 => .int x34 :: []) (fun _ => P13) dX11_left_34 (cV_X11_365 hG) (Nat.le_of_ble_eq_true rfl) rfl kd_1 (Mo_leftOf_ok hG (P13.1 88 (3 : Int32).toNatClampNeg) P13) rfl (fun _ => rfl) (fun _ => rfl) (Nat.le_of_ble_eq_true rfl) rfl rfl (fun x34 => ?_)
    exact s_iret (pc := 37) dX11_left_37 rfl rfl
  · refine s_iconst (pc := 23) (v := 0) dX11_left_23 rfl ?_
    refine s_goto (pc := 24) 37 dX11_left_24 rfl ?_
    exact s_iret (pc := 37) dX11_left_37 rfl rfl
def Mo_left   (P : PH) : Option (Int32 × PH) :=
  (Mo_isThere P).bind fun (x2 : Int32) =>
  if x2 = 0 then
    Mo_left_13 (1 : Int32) P
  else
    Mo_left_13 (0 : Int32) P
set_option maxRecDepth 100000 in
set_option maxHeartbeats 4000000 in
theorem Mo_left_ok {G : GT} {l : Launch} (hG : GOK G l)   (P : PH) : OkN G l yX11_left miX11_left 0 0 tIH [.ref (gA G 1)] P (Mo_left P) := by
  refine okN_of hG _ [(0, .ref (gA G 1))] rfl rfl rfl (Nat.le_of_ble_eq_true rfl) rfl ?_
  unfold Mo_left
  refine s_aload_n (pc := 0) 0 dX11_left_0 rfl rfl ?_
  refine s_aload_n (pc := 1) 0 dX11_left_1 rfl rfl ?_
  refine s_callV (k := 0) (n := 0) (pc := 2) [] (fun x2 => .int x2 :: [.ref (gA G 1)]) (fun _ => P) dX11_left_2 (cV_X11_326 hG) (Nat.le_of_ble_eq_true rfl) rfl kd_1 (Mo_isThere_ok hG P) rfl (fun _ => rfl) (fun _ => rfl) (Nat.le_of_ble_eq_true rfl) rfl rfl (fun x2 => ?_)
  refine s_if_eq (pc := 5) 12 dX11_left_5 rfl ?_ ?_
  · refine s_iconst (pc := 12) (v := 1) dX11_left_12 rfl ?_
    exact Mo_left_13_sem hG (1 : Int32) P
  · refine s_iconst (pc := 8) (v := 0) dX11_left_8 rfl ?_
    refine s_goto (pc := 9) 13 dX11_left_9 rfl ?_
    exact Mo_left_13_sem hG (0 : Int32) P
def Mo_bars_224     : Nat → Int32 → PH → Option (Int32 × PH)
  | 0 => fun _ _ => none
  | n + 1 => fun v4 P =>
    if (144 : Int32) ≤ v4 then
      some ((0 : Int32), P)
    else
      gdI v4 144 <|
      if (P.1 101 v4.toNatClampNeg) = 0 then
        Mo_bars_224  n (v4 + 1) P
      else
        if (P.1 1 30) = (-1 : Int32) then
          gdI v4 144 <|
          if (jAbs (P.1 101 v4.toNatClampNeg)) = (1 : Int32) then
            (some (sI P 1 30 v4)).bind fun (P283 : PH) =>
            Mo_bars_224  n (v4 + 1) P283
          else
            (some (sI P 1 29 v4)).bind fun (P270 : PH) =>
            (some (sI P270 1 30 (-1 : Int32))).bind fun (P275 : PH) =>
            some ((2 : Int32), P275)
        else
          (some (sI P 1 29 v4)).bind fun (P270 : PH) =>
          (some (sI P270 1 30 (-1 : Int32))).bind fun (P275 : PH) =>
          some ((2 : Int32), P275)
set_option maxRecDepth 100000 in
set_option maxHeartbeats 4000000 in
theorem Mo_bars_224_sem {G : GT} {l : Launch} (hG : GOK G l)      : ∀ (n : Nat) (v4 : Int32) (P : PH), Sem G l miX11_bars 0 0 (rn tIH) 224 [(0, .ref (gA G 1)), (4, .int v4)] [] P (Mo_bars_224  n v4 P) := by
  intro n
  induction n with
  | zero => intro v4 P; exact s_none rfl
  | succ n ih =>
    intro v4 P
    rw [Mo_bars_224]
    refine s_iload (pc := 224) 1 dX11_bars_224 rfl ?_
    refine s_sipush (pc := 226) (v := 144) dX11_bars_226 rfl ?_
    refine s_icmp_ge (pc := 229) 292 dX11_bars_229 rfl ?_ ?_
    · refine s_iconst (pc := 292) (v := 0) dX11_bars_292 rfl ?_
      exact s_iret (pc := 293) dX11_bars_293 rfl rfl
    · refine s_aload_n (pc := 232) 0 dX11_bars_232 rfl rfl ?_
      refine s_getR (pc := 233) 101 dX11_bars_233 (fi_X11_54 hG) kd_1 rfl ?_
      refine s_iload (pc := 236) 1 dX11_bars_236 rfl ?_
      refine s_iald (pc := 238) 144 dX11_bars_238 kd_101 ln_101 ?_
      refine s_if_ne (pc := 239) 245 dX11_bars_239 rfl ?_ ?_
      · refine s_goto (pc := 242) 286 dX11_bars_242 rfl ?_
        refine s_iinc (pc := 286) 1 1 [(4, .int (v4 + 1)), (0, .ref (gA G 1))] dX11_bars_286 rfl rfl (Nat.le_of_ble_eq_true rfl) rfl ?_
        refine s_goto (pc := 289) 224 dX11_bars_289 rfl ?_
        refine s_sub [1, 0] rfl ?_
        exact ih (v4 + 1) P
      · refine s_aload_n (pc := 245) 0 dX11_bars_245 rfl rfl ?_
        refine s_getI (pc := 246) dX11_bars_246 (fi_X11_371 hG) kd_1 ?_
        refine s_iconst (pc := 249) (v := -1) dX11_bars_249 rfl ?_
        refine s_icmp_ne (pc := 250) 267 dX11_bars_250 rfl ?_ ?_
        · refine s_aload_n (pc := 253) 0 dX11_bars_253 rfl rfl ?_
          refine s_getR (pc := 254) 101 dX11_bars_254 (fi_X11_54 hG) kd_1 rfl ?_
          refine s_iload (pc := 257) 1 dX11_bars_257 rfl ?_
          refine s_iald (pc := 259) 144 dX11_bars_259 kd_101 ln_101 ?_
          refine s_mabs (pc := 260) dX11_bars_260 (mk_X11_374 hG) (Nat.le_of_ble_eq_true rfl) (Nat.le_of_ble_eq_true rfl) ?_
          refine s_iconst (pc := 263) (v := 1) dX11_bars_263 rfl ?_
          refine s_icmp_eq (pc := 264) 280 dX11_bars_264 rfl ?_ ?_
          · refine s_aload_n (pc := 280) 0 dX11_bars_280 rfl rfl ?_
            refine s_iload (pc := 281) 1 dX11_bars_281 rfl ?_
            refine s_putI (pc := 283) dX11_bars_283 (fp_X11_371 hG) kd_1 ?_
            refine s_letP (fun P283 => ?_)
            refine s_iinc (pc := 286) 1 1 [(4, .int (v4 + 1)), (0, .ref (gA G 1))] dX11_bars_286 rfl rfl (Nat.le_of_ble_eq_true rfl) rfl ?_
            refine s_goto (pc := 289) 224 dX11_bars_289 rfl ?_
            refine s_sub [1, 0] rfl ?_
            exact ih (v4 + 1) P283
          · refine s_aload_n (pc := 267) 0 dX11_bars_267 rfl rfl ?_
            refine s_iload (pc := 268) 1 dX11_bars_268 rfl ?_
            refine s_putI (pc := 270) dX11_bars_270 (fp_X11_368 hG) kd_1 ?_
            refine s_letP (fun P270 => ?_)
            refine s_aload_n (pc := 273) 0 dX11_bars_273 rfl rfl ?_
            refine s_iconst (pc := 274) (v := -1) dX11_bars_274 rfl ?_
            refine s_putI (pc := 275) dX11_bars_275 (fp_X11_371 hG) kd_1 ?_
            refine s_letP (fun P275 => ?_)
            refine s_iconst (pc := 278) (v := 2) dX11_bars_278 rfl ?_
            exact s_iret (pc := 279) dX11_bars_279 rfl rfl
        · refine s_aload_n (pc := 267) 0 dX11_bars_267 rfl rfl ?_
          refine s_iload (pc := 268) 1 dX11_bars_268 rfl ?_
          refine s_putI (pc := 270) dX11_bars_270 (fp_X11_368 hG) kd_1 ?_
          refine s_letP (fun P270 => ?_)
          refine s_aload_n (pc := 273) 0 dX11_bars_273 rfl rfl ?_
          refine s_iconst (pc := 274) (v := -1) dX11_bars_274 rfl ?_
          refine s_putI (pc := 275) dX11_bars_275 (fp_X11_371 hG) kd_1 ?_
          refine s_letP (fun P275 => ?_)
          refine s_iconst (pc := 278) (v := 2) dX11_bars_278 rfl ?_
          exact s_iret (pc := 279) dX11_bars_279 rfl rfl
def Mo_bars_180  (r124 : Int32 → PH → Option (Int32 × PH)) (v1 : Int32) (v4 : Int32) (s0 : Int32) (s1 : Int32) (P : PH) : Option (Int32 × PH) :=
  (some (s1 - s0)).bind fun (u5_181 : Int32) =>
  (Mo_from v4 P).bind fun (x190 : Int32) =>
  gdI x190 144 <|
  gdI x190 144 <|
  (some (sI P 101 x190.toNatClampNeg ((P.1 101 x190.toNatClampNeg) + u5_181))).bind fun (P198 : PH) =>
  (Mo_to v4 P198).bind fun (x206 : Int32) =>
  gdI x206 144 <|
  gdI x206 144 <|
  (some (sI P198 101 x206.toNatClampNeg ((P198.1 101 x206.toNatClampNeg) + u5_181))).bind fun (P214 : PH) =>
  r124 (v4 + 1) P214
set_option maxRecDepth 100000 in
set_option maxHeartbeats 4000000 in
theorem Mo_bars_180_sem {G : GT} {l : Launch} (hG : GOK G l)  (v1 : Int32) (v4 : Int32) (s0 : Int32) (s1 : Int32) (P : PH)  (r124 : Int32 → PH → Option (Int32 × PH)) (hr124 : ∀ (v4 : Int32) (P : PH), Sem G l miX11_bars 0 0 (rn tIH) 124 [(0, .ref (gA G 1)), (1, .int v1), (4, .int v4)] [] P (r124 v4 P)) : Sem G l miX11_bars 0 0 (rn tIH) 180 [(0, .ref (gA G 1)), (1, .int v1), (4, .int v4)] [.int s0, .int s1] P (Mo_bars_180 r124 v1 v4 s0 s1 P) := by
  unfold Mo_bars_180
  refine s_isub (pc := 180) dX11_bars_180 ?_
  refine s_letI (fun u5_181 => ?_)
  refine s_istore (pc := 181) [(5, .int u5_181), (0, .ref (gA G 1)), (1, .int v1), (4, .int v4)] dX11_bars_181 (Nat.le_of_ble_eq_true rfl) rfl ?_
  refine s_aload_n (pc := 183) 1 dX11_bars_183 rfl rfl ?_
  refine s_getR (pc := 184) 101 dX11_bars_184 (fi_X11_54 hG) kd_1 rfl ?_
  refine s_aload_n (pc := 187) 1 dX11_bars_187 rfl rfl ?_
  refine s_iload (pc := 188) 3 dX11_bars_188 rfl ?_
  refine s_callV (k := 0) (n := 0) (pc := 190) [.int v4] (fun x190 => .int x190 :: [.ref (gA G 101)]) (fun _ => P) dX11_bars_190 (cV_X11_261 hG) (Nat.le_of_ble_eq_true rfl) rfl kd_1 (Mo_from_ok hG v4 P) rfl (fun _ => rfl) (fun _ => rfl) (Nat.le_of_ble_eq_true rfl) rfl rfl (fun x190 => ?_)
  refine s_dup2 (pc := 193) dX11_bars_193 rfl rfl ?_
  refine s_iald (pc := 194) 144 dX11_bars_194 kd_101 ln_101 ?_
  refine s_iload (pc := 195) 0 dX11_bars_195 rfl ?_
  refine s_iadd (pc := 197) dX11_bars_197 ?_
  refine s_iast (pc := 198) 144 dX11_bars_198 kd_101 ln_101 ?_
  refine s_letP (fun P198 => ?_)
  refine s_aload_n (pc := 199) 1 dX11_bars_199 rfl rfl ?_
  refine s_getR (pc := 200) 101 dX11_bars_200 (fi_X11_54 hG) kd_1 rfl ?_
  refine s_aload_n (pc := 203) 1 dX11_bars_203 rfl rfl ?_
  refine s_iload (pc := 204) 3 dX11_bars_204 rfl ?_
  refine s_callV (k := 0) (n := 0) (pc := 206) [.int v4] (fun x206 => .int x206 :: [.ref (gA G 101)]) (fun _ => P198) dX11_bars_206 (cV_X11_264 hG) (Nat.le_of_ble_eq_true rfl) rfl kd_1 (Mo_to_ok hG v4 P198) rfl (fun _ => rfl) (fun _ => rfl) (Nat.le_of_ble_eq_true rfl) rfl rfl (fun x206 => ?_)
  refine s_dup2 (pc := 209) dX11_bars_209 rfl rfl ?_
  refine s_iald (pc := 210) 144 dX11_bars_210 kd_101 ln_101 ?_
  refine s_iload (pc := 211) 0 dX11_bars_211 rfl ?_
  refine s_iadd (pc := 213) dX11_bars_213 ?_
  refine s_iast (pc := 214) 144 dX11_bars_214 kd_101 ln_101 ?_
  refine s_letP (fun P214 => ?_)
  refine s_iinc (pc := 215) 3 1 [(4, .int (v4 + 1)), (5, .int u5_181), (0, .ref (gA G 1)), (1, .int v1)] dX11_bars_215 rfl rfl (Nat.le_of_ble_eq_true rfl) rfl ?_
  refine s_goto (pc := 218) 124 dX11_bars_218 rfl ?_
  refine s_sub [2, 3, 0] rfl ?_
  exact hr124 (v4 + 1) P214
def Mo_bars_164  (r124 : Int32 → PH → Option (Int32 × PH)) (v1 : Int32) (v4 : Int32) (s0 : Int32) (P : PH) : Option (Int32 × PH) :=
  (Mo_worked v4 P).bind fun (x167 : Int32) =>
  if (x167 &&& (2 : Int32)) = 0 then
    Mo_bars_180 r124 v1 v4 (1 : Int32) s0 P
  else
    Mo_bars_180 r124 v1 v4 (0 : Int32) s0 P
set_option maxRecDepth 100000 in
set_option maxHeartbeats 4000000 in
theorem Mo_bars_164_sem {G : GT} {l : Launch} (hG : GOK G l)  (v1 : Int32) (v4 : Int32) (s0 : Int32) (P : PH)  (r124 : Int32 → PH → Option (Int32 × PH)) (hr124 : ∀ (v4 : Int32) (P : PH), Sem G l miX11_bars 0 0 (rn tIH) 124 [(0, .ref (gA G 1)), (1, .int v1), (4, .int v4)] [] P (r124 v4 P)) : Sem G l miX11_bars 0 0 (rn tIH) 164 [(0, .ref (gA G 1)), (1, .int v1), (4, .int v4)] [.int s0] P (Mo_bars_164 r124 v1 v4 s0 P) := by
  unfold Mo_bars_164
  refine s_aload_n (pc := 164) 0 dX11_bars_164 rfl rfl ?_
  refine s_iload (pc := 165) 2 dX11_bars_165 rfl ?_
  refine s_callV (k := 0) (n := 0) (pc := 167) [.int v4] (fun x167 => .int x167 :: [.int s0]) (fun _ => P) dX11_bars_167 (cV_X11_270 hG) (Nat.le_of_ble_eq_true rfl) rfl kd_1 (Mo_worked_ok hG v4 P) rfl (fun _ => rfl) (fun _ => rfl) (Nat.le_of_ble_eq_true rfl) rfl rfl (fun x167 => ?_)
  refine s_iconst (pc := 170) (v := 2) dX11_bars_170 rfl ?_
  refine s_iand (pc := 171) dX11_bars_171 ?_
  refine s_if_ne (pc := 172) 179 dX11_bars_172 rfl ?_ ?_
  · refine s_iconst (pc := 175) (v := 1) dX11_bars_175 rfl ?_
    refine s_goto (pc := 176) 180 dX11_bars_176 rfl ?_
    exact Mo_bars_180_sem hG v1 v4 (1 : Int32) s0 P r124 hr124
  · refine s_iconst (pc := 179) (v := 0) dX11_bars_179 rfl ?_
    exact Mo_bars_180_sem hG v1 v4 (0 : Int32) s0 P r124 hr124
def Mo_bars_124   (v1 : Int32)  : Nat → Int32 → PH → Option (Int32 × PH)
  | 0 => fun _ _ => none
  | n + 1 => fun v4 P =>
    gdI (0 : Int32) 512 <|
    if (P.1 88 (0 : Int32).toNatClampNeg) ≤ v4 then
      Mo_bars_224  bigN (0 : Int32) P
    else
      (Mo_inkOf v4 P).bind fun (x138 : Int32) =>
      if x138 = v1 then
        (Mo_worked v4 P).bind fun (x151 : Int32) =>
        if (x151 &&& (1 : Int32)) = 0 then
          Mo_bars_164 (Mo_bars_124 v1 n) v1 v4 (1 : Int32) P
        else
          Mo_bars_164 (Mo_bars_124 v1 n) v1 v4 (0 : Int32) P
      else
        Mo_bars_124 v1 n (v4 + 1) P
set_option maxRecDepth 100000 in
set_option maxHeartbeats 4000000 in
theorem Mo_bars_124_sem {G : GT} {l : Launch} (hG : GOK G l)  (v1 : Int32)    : ∀ (n : Nat) (v4 : Int32) (P : PH), Sem G l miX11_bars 0 0 (rn tIH) 124 [(0, .ref (gA G 1)), (1, .int v1), (4, .int v4)] [] P (Mo_bars_124 v1 n v4 P) := by
  intro n
  induction n with
  | zero => intro v4 P; exact s_none rfl
  | succ n ih =>
    intro v4 P
    rw [Mo_bars_124]
    refine s_iload (pc := 124) 2 dX11_bars_124 rfl ?_
    refine s_aload_n (pc := 126) 0 dX11_bars_126 rfl rfl ?_
    refine s_getR (pc := 127) 88 dX11_bars_127 (fi_X11_9 hG) kd_1 rfl ?_
    refine s_iconst (pc := 130) (v := 0) dX11_bars_130 rfl ?_
    refine s_iald (pc := 131) 512 dX11_bars_131 kd_88 ln_88 ?_
    refine s_icmp_ge (pc := 132) 221 dX11_bars_132 rfl ?_ ?_
    · refine s_iconst (pc := 221) (v := 0) dX11_bars_221 rfl ?_
      refine s_istore (pc := 222) [(4, .int ((0 : Int32))), (0, .ref (gA G 1)), (1, .int v1)] dX11_bars_222 (Nat.le_of_ble_eq_true rfl) rfl ?_
      refine s_sub [1, 0] rfl ?_
      exact Mo_bars_224_sem hG  bigN (0 : Int32) P
    · refine s_aload_n (pc := 135) 0 dX11_bars_135 rfl rfl ?_
      refine s_iload (pc := 136) 2 dX11_bars_136 rfl ?_
      refine s_callV (k := 0) (n := 0) (pc := 138) [.int v4] (fun x138 => .int x138 :: []) (fun _ => P) dX11_bars_138 (cV_X11_258 hG) (Nat.le_of_ble_eq_true rfl) rfl kd_1 (Mo_inkOf_ok hG v4 P) rfl (fun _ => rfl) (fun _ => rfl) (Nat.le_of_ble_eq_true rfl) rfl rfl (fun x138 => ?_)
      refine s_iload_n (pc := 141) 1 dX11_bars_141 rfl rfl ?_
      refine s_icmp_eq (pc := 142) 148 dX11_bars_142 rfl ?_ ?_
      · refine s_aload_n (pc := 148) 0 dX11_bars_148 rfl rfl ?_
        refine s_iload (pc := 149) 2 dX11_bars_149 rfl ?_
        refine s_callV (k := 0) (n := 0) (pc := 151) [.int v4] (fun x151 => .int x151 :: []) (fun _ => P) dX11_bars_151 (cV_X11_270 hG) (Nat.le_of_ble_eq_true rfl) rfl kd_1 (Mo_worked_ok hG v4 P) rfl (fun _ => rfl) (fun _ => rfl) (Nat.le_of_ble_eq_true rfl) rfl rfl (fun x151 => ?_)
        refine s_iconst (pc := 154) (v := 1) dX11_bars_154 rfl ?_
        refine s_iand (pc := 155) dX11_bars_155 ?_
        refine s_if_ne (pc := 156) 163 dX11_bars_156 rfl ?_ ?_
        · refine s_iconst (pc := 159) (v := 1) dX11_bars_159 rfl ?_
          refine s_goto (pc := 160) 164 dX11_bars_160 rfl ?_
          exact Mo_bars_164_sem hG v1 v4 (1 : Int32) P (Mo_bars_124 v1 n) ih
        · refine s_iconst (pc := 163) (v := 0) dX11_bars_163 rfl ?_
          exact Mo_bars_164_sem hG v1 v4 (0 : Int32) P (Mo_bars_124 v1 n) ih
      · refine s_goto (pc := 145) 215 dX11_bars_145 rfl ?_
        refine s_iinc (pc := 215) 2 1 [(4, .int (v4 + 1)), (0, .ref (gA G 1)), (1, .int v1)] dX11_bars_215 rfl rfl (Nat.le_of_ble_eq_true rfl) rfl ?_
        refine s_goto (pc := 218) 124 dX11_bars_218 rfl ?_
        refine s_sub [1, 2, 0] rfl ?_
        exact ih (v4 + 1) P
def Mo_bars_81   (v1 : Int32) (v2 : Int32) (v3 : Int32)  : Nat → Int32 → PH → Option (Int32 × PH)
  | 0 => fun _ _ => none
  | n + 1 => fun v4 P =>
    if (144 : Int32) ≤ v4 then
      Mo_bars_124 v1 bigN (0 : Int32) P
    else
      if v4 = v2 then
        if v3 = 0 then
          gdI v4 144 <|
          (some (sI P 101 v4.toNatClampNeg (1 : Int32))).bind fun (P114 : PH) =>
          Mo_bars_81 v1 v2 v3 n (v4 + 1) P114
        else
          gdI v4 144 <|
          (some (sI P 101 v4.toNatClampNeg (-1 : Int32))).bind fun (P114 : PH) =>
          Mo_bars_81 v1 v2 v3 n (v4 + 1) P114
      else
        gdI v4 144 <|
        (some (sI P 101 v4.toNatClampNeg (0 : Int32))).bind fun (P114 : PH) =>
        Mo_bars_81 v1 v2 v3 n (v4 + 1) P114
set_option maxRecDepth 100000 in
set_option maxHeartbeats 4000000 in
theorem Mo_bars_81_sem {G : GT} {l : Launch} (hG : GOK G l)  (v1 : Int32) (v2 : Int32) (v3 : Int32)    : ∀ (n : Nat) (v4 : Int32) (P : PH), Sem G l miX11_bars 0 0 (rn tIH) 81 [(0, .ref (gA G 1)), (1, .int v1), (2, .int v2), (3, .int v3), (4, .int v4)] [] P (Mo_bars_81 v1 v2 v3 n v4 P) := by
  intro n
  induction n with
  | zero => intro v4 P; exact s_none rfl
  | succ n ih =>
    intro v4 P
    rw [Mo_bars_81]
    refine s_iload (pc := 81) 4 dX11_bars_81 rfl ?_
    refine s_sipush (pc := 83) (v := 144) dX11_bars_83 rfl ?_
    refine s_icmp_ge (pc := 86) 121 dX11_bars_86 rfl ?_ ?_
    · refine s_iconst (pc := 121) (v := 0) dX11_bars_121 rfl ?_
      refine s_istore (pc := 122) [(4, .int ((0 : Int32))), (0, .ref (gA G 1)), (1, .int v1), (2, .int v2), (3, .int v3)] dX11_bars_122 (Nat.le_of_ble_eq_true rfl) rfl ?_
      refine s_sub [1, 2, 0] rfl ?_
      exact Mo_bars_124_sem hG v1 bigN (0 : Int32) P
    · refine s_aload_n (pc := 89) 0 dX11_bars_89 rfl rfl ?_
      refine s_getR (pc := 90) 101 dX11_bars_90 (fi_X11_54 hG) kd_1 rfl ?_
      refine s_iload (pc := 93) 4 dX11_bars_93 rfl ?_
      refine s_iload (pc := 95) 4 dX11_bars_95 rfl ?_
      refine s_iload_n (pc := 97) 2 dX11_bars_97 rfl rfl ?_
      refine s_icmp_ne (pc := 98) 113 dX11_bars_98 rfl ?_ ?_
      · refine s_iload_n (pc := 101) 3 dX11_bars_101 rfl rfl ?_
        refine s_if_eq (pc := 102) 109 dX11_bars_102 rfl ?_ ?_
        · refine s_iconst (pc := 109) (v := 1) dX11_bars_109 rfl ?_
          refine s_goto (pc := 110) 114 dX11_bars_110 rfl ?_
          refine s_iast (pc := 114) 144 dX11_bars_114 kd_101 ln_101 ?_
          refine s_letP (fun P114 => ?_)
          refine s_iinc (pc := 115) 4 1 [(4, .int (v4 + 1)), (0, .ref (gA G 1)), (1, .int v1), (2, .int v2), (3, .int v3)] dX11_bars_115 rfl rfl (Nat.le_of_ble_eq_true rfl) rfl ?_
          refine s_goto (pc := 118) 81 dX11_bars_118 rfl ?_
          refine s_sub [1, 2, 3, 4, 0] rfl ?_
          exact ih (v4 + 1) P114
        · refine s_iconst (pc := 105) (v := -1) dX11_bars_105 rfl ?_
          refine s_goto (pc := 106) 114 dX11_bars_106 rfl ?_
          refine s_iast (pc := 114) 144 dX11_bars_114 kd_101 ln_101 ?_
          refine s_letP (fun P114 => ?_)
          refine s_iinc (pc := 115) 4 1 [(4, .int (v4 + 1)), (0, .ref (gA G 1)), (1, .int v1), (2, .int v2), (3, .int v3)] dX11_bars_115 rfl rfl (Nat.le_of_ble_eq_true rfl) rfl ?_
          refine s_goto (pc := 118) 81 dX11_bars_118 rfl ?_
          refine s_sub [1, 2, 3, 4, 0] rfl ?_
          exact ih (v4 + 1) P114
      · refine s_iconst (pc := 113) (v := 0) dX11_bars_113 rfl ?_
        refine s_iast (pc := 114) 144 dX11_bars_114 kd_101 ln_101 ?_
        refine s_letP (fun P114 => ?_)
        refine s_iinc (pc := 115) 4 1 [(4, .int (v4 + 1)), (0, .ref (gA G 1)), (1, .int v1), (2, .int v2), (3, .int v3)] dX11_bars_115 rfl rfl (Nat.le_of_ble_eq_true rfl) rfl ?_
        refine s_goto (pc := 118) 81 dX11_bars_118 rfl ?_
        refine s_sub [1, 2, 3, 4, 0] rfl ?_
        exact ih (v4 + 1) P114
def Mo_bars_20   (v1 : Int32) (v2 : Int32) (v3 : Int32)  : Nat → Int32 → PH → Option (Int32 × PH)
  | 0 => fun _ _ => none
  | n + 1 => fun v4 P =>
    gdI (0 : Int32) 512 <|
    if (P.1 88 (0 : Int32).toNatClampNeg) ≤ v4 then
      Mo_bars_81 v1 v2 v3 bigN (0 : Int32) P
    else
      (Mo_inkOf v4 P).bind fun (x34 : Int32) =>
      if x34 = v1 then
        (Mo_worked v4 P).bind fun (x44 : Int32) =>
        if x44 = (3 : Int32) then
          Mo_bars_20 v1 v2 v3 n (v4 + 1) P
        else
          gdI v4 60 <|
          if (P.1 99 v4.toNatClampNeg) = 0 then
            (some (sI P 1 29 v4)).bind fun (P67 : PH) =>
            some ((1 : Int32), P67)
          else
            Mo_bars_20 v1 v2 v3 n (v4 + 1) P
      else
        Mo_bars_20 v1 v2 v3 n (v4 + 1) P
set_option maxRecDepth 100000 in
set_option maxHeartbeats 4000000 in
theorem Mo_bars_20_sem {G : GT} {l : Launch} (hG : GOK G l)  (v1 : Int32) (v2 : Int32) (v3 : Int32)    : ∀ (n : Nat) (v4 : Int32) (P : PH), Sem G l miX11_bars 0 0 (rn tIH) 20 [(0, .ref (gA G 1)), (1, .int v1), (2, .int v2), (3, .int v3), (4, .int v4)] [] P (Mo_bars_20 v1 v2 v3 n v4 P) := by
  intro n
  induction n with
  | zero => intro v4 P; exact s_none rfl
  | succ n ih =>
    intro v4 P
    rw [Mo_bars_20]
    refine s_iload (pc := 20) 4 dX11_bars_20 rfl ?_
    refine s_aload_n (pc := 22) 0 dX11_bars_22 rfl rfl ?_
    refine s_getR (pc := 23) 88 dX11_bars_23 (fi_X11_9 hG) kd_1 rfl ?_
    refine s_iconst (pc := 26) (v := 0) dX11_bars_26 rfl ?_
    refine s_iald (pc := 27) 512 dX11_bars_27 kd_88 ln_88 ?_
    refine s_icmp_ge (pc := 28) 78 dX11_bars_28 rfl ?_ ?_
    · refine s_iconst (pc := 78) (v := 0) dX11_bars_78 rfl ?_
      refine s_istore (pc := 79) [(4, .int ((0 : Int32))), (0, .ref (gA G 1)), (1, .int v1), (2, .int v2), (3, .int v3)] dX11_bars_79 (Nat.le_of_ble_eq_true rfl) rfl ?_
      refine s_sub [1, 2, 3, 4, 0] rfl ?_
      exact Mo_bars_81_sem hG v1 v2 v3 bigN (0 : Int32) P
    · refine s_aload_n (pc := 31) 0 dX11_bars_31 rfl rfl ?_
      refine s_iload (pc := 32) 4 dX11_bars_32 rfl ?_
      refine s_callV (k := 0) (n := 0) (pc := 34) [.int v4] (fun x34 => .int x34 :: []) (fun _ => P) dX11_bars_34 (cV_X11_258 hG) (Nat.le_of_ble_eq_true rfl) rfl kd_1 (Mo_inkOf_ok hG v4 P) rfl (fun _ => rfl) (fun _ => rfl) (Nat.le_of_ble_eq_true rfl) rfl rfl (fun x34 => ?_)
      refine s_iload_n (pc := 37) 1 dX11_bars_37 rfl rfl ?_
      refine s_icmp_ne (pc := 38) 72 dX11_bars_38 rfl ?_ ?_
      · refine s_aload_n (pc := 41) 0 dX11_bars_41 rfl rfl ?_
        refine s_iload (pc := 42) 4 dX11_bars_42 rfl ?_
        refine s_callV (k := 0) (n := 0) (pc := 44) [.int v4] (fun x44 => .int x44 :: []) (fun _ => P) dX11_bars_44 (cV_X11_270 hG) (Nat.le_of_ble_eq_true rfl) rfl kd_1 (Mo_worked_ok hG v4 P) rfl (fun _ => rfl) (fun _ => rfl) (Nat.le_of_ble_eq_true rfl) rfl rfl (fun x44 => ?_)
        refine s_iconst (pc := 47) (v := 3) dX11_bars_47 rfl ?_
        refine s_icmp_eq (pc := 48) 72 dX11_bars_48 rfl ?_ ?_
        · refine s_iinc (pc := 72) 4 1 [(4, .int (v4 + 1)), (0, .ref (gA G 1)), (1, .int v1), (2, .int v2), (3, .int v3)] dX11_bars_72 rfl rfl (Nat.le_of_ble_eq_true rfl) rfl ?_
          refine s_goto (pc := 75) 20 dX11_bars_75 rfl ?_
          refine s_sub [1, 2, 3, 4, 0] rfl ?_
          exact ih (v4 + 1) P
        · refine s_aload_n (pc := 51) 0 dX11_bars_51 rfl rfl ?_
          refine s_getR (pc := 52) 99 dX11_bars_52 (fi_X11_48 hG) kd_1 rfl ?_
          refine s_iload (pc := 55) 4 dX11_bars_55 rfl ?_
          refine s_zald (pc := 57) 60 dX11_bars_57 kd_99 ln_99 ?_
          refine s_if_eq (pc := 58) 64 dX11_bars_58 rfl ?_ ?_
          · refine s_aload_n (pc := 64) 0 dX11_bars_64 rfl rfl ?_
            refine s_iload (pc := 65) 4 dX11_bars_65 rfl ?_
            refine s_putI (pc := 67) dX11_bars_67 (fp_X11_368 hG) kd_1 ?_
            refine s_letP (fun P67 => ?_)
            refine s_iconst (pc := 70) (v := 1) dX11_bars_70 rfl ?_
            exact s_iret (pc := 71) dX11_bars_71 rfl rfl
          · refine s_goto (pc := 61) 72 dX11_bars_61 rfl ?_
            refine s_iinc (pc := 72) 4 1 [(4, .int (v4 + 1)), (0, .ref (gA G 1)), (1, .int v1), (2, .int v2), (3, .int v3)] dX11_bars_72 rfl rfl (Nat.le_of_ble_eq_true rfl) rfl ?_
            refine s_goto (pc := 75) 20 dX11_bars_75 rfl ?_
            refine s_sub [1, 2, 3, 4, 0] rfl ?_
            exact ih (v4 + 1) P
      · refine s_iinc (pc := 72) 4 1 [(4, .int (v4 + 1)), (0, .ref (gA G 1)), (1, .int v1), (2, .int v2), (3, .int v3)] dX11_bars_72 rfl rfl (Nat.le_of_ble_eq_true rfl) rfl ?_
        refine s_goto (pc := 75) 20 dX11_bars_75 rfl ?_
        refine s_sub [1, 2, 3, 4, 0] rfl ?_
        exact ih (v4 + 1) P
def Mo_bars  (v1 : Int32) (v2 : Int32) (v3 : Int32) (P : PH) : Option (Int32 × PH) :=
  (some (sI P 1 29 (-1 : Int32))).bind fun (P2 : PH) =>
  (some (sI P2 1 30 (-1 : Int32))).bind fun (P7 : PH) =>
  (Mo_layHangs v2 v1 (0 : Int32) P7).bind fun (x14 : PH) =>
  Mo_bars_20 v1 v2 v3 bigN (0 : Int32) x14
set_option maxRecDepth 100000 in
set_option maxHeartbeats 4000000 in
theorem Mo_bars_ok {G : GT} {l : Launch} (hG : GOK G l)  (v1 : Int32) (v2 : Int32) (v3 : Int32) (P : PH) : OkN G l yX11_bars miX11_bars 0 0 tIH [.ref (gA G 1), .int v1, .int v2, .int v3] P (Mo_bars v1 v2 v3 P) := by
  refine okN_of hG _ [(0, .ref (gA G 1)), (1, .int v1), (2, .int v2), (3, .int v3)] rfl rfl rfl (Nat.le_of_ble_eq_true rfl) rfl ?_
  unfold Mo_bars
  refine s_aload_n (pc := 0) 0 dX11_bars_0 rfl rfl ?_
  refine s_iconst (pc := 1) (v := -1) dX11_bars_1 rfl ?_
  refine s_putI (pc := 2) dX11_bars_2 (fp_X11_368 hG) kd_1 ?_
  refine s_letP (fun P2 => ?_)
  refine s_aload_n (pc := 5) 0 dX11_bars_5 rfl rfl ?_
  refine s_iconst (pc := 6) (v := -1) dX11_bars_6 rfl ?_
  refine s_putI (pc := 7) dX11_bars_7 (fp_X11_371 hG) kd_1 ?_
  refine s_letP (fun P7 => ?_)
  refine s_aload_n (pc := 10) 0 dX11_bars_10 rfl rfl ?_
  refine s_iload_n (pc := 11) 2 dX11_bars_11 rfl rfl ?_
  refine s_iload_n (pc := 12) 1 dX11_bars_12 rfl rfl ?_
  refine s_iconst (pc := 13) (v := 0) dX11_bars_13 rfl ?_
  refine s_callV (k := 0) (n := 0) (pc := 14) [.int v2, .int v1, .int ((0 : Int32))] (fun _ => []) (fun x14 => x14) dX11_bars_14 (cV_X11_290 hG) (Nat.le_of_ble_eq_true rfl) rfl kd_1 (Mo_layHangs_ok hG v2 v1 (0 : Int32) P7) rfl (fun _ => rfl) (fun _ => rfl) (Nat.le_of_ble_eq_true rfl) rfl rfl (fun x14 => ?_)
  refine s_iconst (pc := 17) (v := 0) dX11_bars_17 rfl ?_
  refine s_istore (pc := 18) [(4, .int ((0 : Int32))), (0, .ref (gA G 1)), (1, .int v1), (2, .int v2), (3, .int v3)] dX11_bars_18 (Nat.le_of_ble_eq_true rfl) rfl ?_
  refine s_sub [1, 2, 3, 4, 0] rfl ?_
  exact Mo_bars_20_sem hG v1 v2 v3 bigN (0 : Int32) x14
