def Pe_draw   (P : PH) : Option (PH) :=
  (some (sI P 74 0 (0 : Int32))).bind fun (P2 : PH) =>
  (some (sI P2 74 1 (-1 : Int32))).bind fun (P7 : PH) =>
  (some (sI P7 74 4 (0 : Int32))).bind fun (P12 : PH) =>
  (some (sI P12 74 5 (0 : Int32))).bind fun (P17 : PH) =>
  (some (sI P17 74 6 (0 : Int32))).bind fun (P22 : PH) =>
  (Dr_clear 11 P22).bind fun (x29 : PH) =>
  (Pe_follow 7 (0 : Int32) (x29.1 66 0) (0 : Int32) (0 : Int32) (1 : Int32) x29).bind fun (x44 : PH) =>
  some x44
set_option maxRecDepth 100000 in
set_option maxHeartbeats 4000000 in
theorem Pe_draw_ok {G : GT} {l : Launch} (hG : GOK G l)   (P : PH) : OkN G l yX3_draw miX3_draw 0 0 tVH [.ref (gA G 74)] P (Pe_draw P) := by
  refine okN_of hG _ [(0, .ref (gA G 74))] rfl rfl rfl (Nat.le_of_ble_eq_true rfl) rfl ?_
  unfold Pe_draw
  refine s_aload_n (pc := 0) 0 dX3_draw_0 rfl rfl ?_
  refine s_iconst (pc := 1) (v := 0) dX3_draw_1 rfl ?_
  refine s_putI (pc := 2) dX3_draw_2 (fp_X3_19 hG) kd_74 ?_
  refine s_letP (fun P2 => ?_)
  refine s_aload_n (pc := 5) 0 dX3_draw_5 rfl rfl ?_
  refine s_iconst (pc := 6) (v := -1) dX3_draw_6 rfl ?_
  refine s_putI (pc := 7) dX3_draw_7 (fp_X3_23 hG) kd_74 ?_
  refine s_letP (fun P7 => ?_)
  refine s_aload_n (pc := 10) 0 dX3_draw_10 rfl rfl ?_
  refine s_iconst (pc := 11) (v := 0) dX3_draw_11 rfl ?_
  refine s_putI (pc := 12) dX3_draw_12 (fp_X3_26 hG) kd_74 ?_
  refine s_letP (fun P12 => ?_)
  refine s_aload_n (pc := 15) 0 dX3_draw_15 rfl rfl ?_
  refine s_iconst (pc := 16) (v := 0) dX3_draw_16 rfl ?_
  refine s_putI (pc := 17) dX3_draw_17 (fp_X3_29 hG) kd_74 ?_
  refine s_letP (fun P17 => ?_)
  refine s_aload_n (pc := 20) 0 dX3_draw_20 rfl rfl ?_
  refine s_iconst (pc := 21) (v := 0) dX3_draw_21 rfl ?_
  refine s_putI (pc := 22) dX3_draw_22 (fp_X3_32 hG) kd_74 ?_
  refine s_letP (fun P22 => ?_)
  refine s_aload_n (pc := 25) 0 dX3_draw_25 rfl rfl ?_
  refine s_getR (pc := 26) 11 dX3_draw_26 (fi_X3_15 hG) kd_74 rfl ?_
  refine s_callV (k := 0) (n := 0) (pc := 29) [] (fun _ => []) (fun x29 => x29) dX3_draw_29 (cV_X3_35 hG) (Nat.le_of_ble_eq_true rfl) rfl kd_11 (Dr_clear_ok hG 11 kd_11 P22) rfl (fun _ => rfl) (fun _ => rfl) (Nat.le_of_ble_eq_true rfl) rfl rfl (fun x29 => ?_)
  refine s_aload_n (pc := 32) 0 dX3_draw_32 rfl rfl ?_
  refine s_iconst (pc := 33) (v := 0) dX3_draw_33 rfl ?_
  refine s_aload_n (pc := 34) 0 dX3_draw_34 rfl rfl ?_
  refine s_getR (pc := 35) 66 dX3_draw_35 (fi_X3_9 hG) kd_74 rfl ?_
  refine s_getI (pc := 38) dX3_draw_38 (fi_X3_40 hG) kd_66 ?_
  refine s_iconst (pc := 41) (v := 0) dX3_draw_41 rfl ?_
  refine s_iconst (pc := 42) (v := 0) dX3_draw_42 rfl ?_
  refine s_iconst (pc := 43) (v := 1) dX3_draw_43 rfl ?_
  refine s_callV (k := 0) (n := 0) (pc := 44) [.int ((0 : Int32)), .int (x29.1 66 0), .int ((0 : Int32)), .int ((0 : Int32)), .int ((1 : Int32))] (fun _ => []) (fun x44 => x44) dX3_draw_44 (cV_X3_45 hG 7) (by simp only [hiOf, miX3_draw, miX3_follow]; omega) rfl kd_74 (Pe_follow_ok hG 7 (0 : Int32) (x29.1 66 0) (0 : Int32) (0 : Int32) (1 : Int32) x29) rfl (fun _ => rfl) (fun _ => rfl) (Nat.le_of_ble_eq_true rfl) rfl rfl (fun x44 => ?_)
  exact s_vret (pc := 47) dX3_draw_47 rfl rfl
def Re_take_3   (v1 : Int32)  : Nat → Int32 → PH → Option (PH)
  | 0 => fun _ _ => none
  | n + 1 => fun v2 P =>
    if v2 < 0 then
      some P
    else
      if (P.1 71 0) < 0 then
        Re_take_3 v1 n (v2 + (-8)) P
      else
        if (700 : Int32) ≤ (P.1 71 0) then
          Re_take_3 v1 n (v2 + (-8)) P
        else
          gdI (P.1 71 0) 700 <|
          (some (sI P 72 (P.1 71 0).toNatClampNeg (vp_nar .byte ((v1 >>> (v2 &&& 31)).toInt8.toInt32)))).bind fun (P38 : PH) =>
          (some (sI P38 71 0 ((P38.1 71 0) + (1 : Int32)))).bind fun (P46 : PH) =>
          Re_take_3 v1 n (v2 + (-8)) P46
set_option maxRecDepth 100000 in
set_option maxHeartbeats 4000000 in
theorem Re_take_3_sem {G : GT} {l : Launch} (hG : GOK G l)  (v1 : Int32)    : ∀ (n : Nat) (v2 : Int32) (P : PH), Sem G l miX4_take 0 0 (rn tVH) 3 [(0, .ref (gA G 71)), (1, .int v1), (2, .int v2)] [] P (Re_take_3 v1 n v2 P) := by
  intro n
  induction n with
  | zero => intro v2 P; exact s_none rfl
  | succ n ih =>
    intro v2 P
    rw [Re_take_3]
    refine s_iload_n (pc := 3) 2 dX4_take_3 rfl rfl ?_
    refine s_if_lt (pc := 4) 55 dX4_take_4 rfl ?_ ?_
    · exact s_vret (pc := 55) dX4_take_55 rfl rfl
    · refine s_aload_n (pc := 7) 0 dX4_take_7 rfl rfl ?_
      refine s_getI (pc := 8) dX4_take_8 (fi_X4_23 hG) kd_71 ?_
      refine s_if_lt (pc := 11) 49 dX4_take_11 rfl ?_ ?_
      · refine s_iinc (pc := 49) 2 (-8) [(2, .int (v2 + (-8))), (0, .ref (gA G 71)), (1, .int v1)] dX4_take_49 rfl rfl (Nat.le_of_ble_eq_true rfl) rfl ?_
        refine s_goto (pc := 52) 3 dX4_take_52 rfl ?_
        refine s_sub [1, 2, 0] rfl ?_
        exact ih (v2 + (-8)) P
      · refine s_aload_n (pc := 14) 0 dX4_take_14 rfl rfl ?_
        refine s_getI (pc := 15) dX4_take_15 (fi_X4_23 hG) kd_71 ?_
        refine s_aload_n (pc := 18) 0 dX4_take_18 rfl rfl ?_
        refine s_getR (pc := 19) 72 dX4_take_19 (fi_X4_9 hG) kd_71 rfl ?_
        refine s_alen (pc := 22) (t := 0) 700 700 dX4_take_22 kd_72 (Nat.le_of_ble_eq_true rfl) ln_72 rfl ?_
        refine s_icmp_ge (pc := 23) 49 dX4_take_23 rfl ?_ ?_
        · refine s_iinc (pc := 49) 2 (-8) [(2, .int (v2 + (-8))), (0, .ref (gA G 71)), (1, .int v1)] dX4_take_49 rfl rfl (Nat.le_of_ble_eq_true rfl) rfl ?_
          refine s_goto (pc := 52) 3 dX4_take_52 rfl ?_
          refine s_sub [1, 2, 0] rfl ?_
          exact ih (v2 + (-8)) P
        · refine s_aload_n (pc := 26) 0 dX4_take_26 rfl rfl ?_
          refine s_getR (pc := 27) 72 dX4_take_27 (fi_X4_9 hG) kd_71 rfl ?_
          refine s_aload_n (pc := 30) 0 dX4_take_30 rfl rfl ?_
          refine s_getI (pc := 31) dX4_take_31 (fi_X4_23 hG) kd_71 ?_
          refine s_iload_n (pc := 34) 1 dX4_take_34 rfl rfl ?_
          refine s_iload_n (pc := 35) 2 dX4_take_35 rfl rfl ?_
          refine s_ishr (pc := 36) dX4_take_36 ?_
          refine s_i2b (pc := 37) dX4_take_37 ?_
          refine s_bast (pc := 38) 700 dX4_take_38 kd_72 ln_72 ?_
          refine s_letP (fun P38 => ?_)
          refine s_aload_n (pc := 39) 0 dX4_take_39 rfl rfl ?_
          refine s_dup (pc := 40) dX4_take_40 rfl ?_
          refine s_getI (pc := 41) dX4_take_41 (fi_X4_23 hG) kd_71 ?_
          refine s_iconst (pc := 44) (v := 1) dX4_take_44 rfl ?_
          refine s_iadd (pc := 45) dX4_take_45 ?_
          refine s_putI (pc := 46) dX4_take_46 (fp_X4_23 hG) kd_71 ?_
          refine s_letP (fun P46 => ?_)
          refine s_iinc (pc := 49) 2 (-8) [(2, .int (v2 + (-8))), (0, .ref (gA G 71)), (1, .int v1)] dX4_take_49 rfl rfl (Nat.le_of_ble_eq_true rfl) rfl ?_
          refine s_goto (pc := 52) 3 dX4_take_52 rfl ?_
          refine s_sub [1, 2, 0] rfl ?_
          exact ih (v2 + (-8)) P46
def Re_take  (v1 : Int32) (P : PH) : Option (PH) :=
  Re_take_3 v1 bigN (24 : Int32) P
set_option maxRecDepth 100000 in
set_option maxHeartbeats 4000000 in
theorem Re_take_ok {G : GT} {l : Launch} (hG : GOK G l)  (v1 : Int32) (P : PH) : OkN G l yX4_take miX4_take 0 0 tVH [.ref (gA G 71), .int v1] P (Re_take v1 P) := by
  refine okN_of hG _ [(0, .ref (gA G 71)), (1, .int v1)] rfl rfl rfl (Nat.le_of_ble_eq_true rfl) rfl ?_
  unfold Re_take
  refine s_bipush (pc := 0) (v := 24) dX4_take_0 rfl ?_
  refine s_istore_n (pc := 2) [(2, .int ((24 : Int32))), (0, .ref (gA G 71)), (1, .int v1)] dX4_take_2 rfl (Nat.le_of_ble_eq_true rfl) rfl ?_
  refine s_sub [1, 2, 0] rfl ?_
  exact Re_take_3_sem hG v1 bigN (24 : Int32) P
def Sc_drawsBehind_4    (P : PH) : Nat → Int32 → Option (Int32)
  | 0 => fun _ => none
  | n + 1 => fun v2 =>
    if (P.1 66 0) ≤ v2 then
      gdP ((0 : Int32) = 0 ∨ (0 : Int32) = 1) <|
      some (0 : Int32)
    else
      (Sc_wordOf v2 P).bind fun (x14 : Int32) =>
      if (8 : Int32) ≤ x14 then
        Sc_drawsBehind_4 P n (v2 + 1)
      else
        gdP ((1 : Int32) = 0 ∨ (1 : Int32) = 1) <|
        some (1 : Int32)
set_option maxRecDepth 100000 in
set_option maxHeartbeats 4000000 in
theorem Sc_drawsBehind_4_sem {G : GT} {l : Launch} (hG : GOK G l)   (P : PH)   : ∀ (n : Nat) (v2 : Int32), Sem G l miX6_drawsBehind 0 0 (rn (tI P)) 4 [(0, .ref (gA G 66)), (2, .int v2)] [] P (Sc_drawsBehind_4 P n v2) := by
  intro n
  induction n with
  | zero => intro v2; exact s_none rfl
  | succ n ih =>
    intro v2
    rw [Sc_drawsBehind_4]
    refine s_iload_n (pc := 4) 1 dX6_drawsBehind_4 rfl rfl ?_
    refine s_aload_n (pc := 5) 0 dX6_drawsBehind_5 rfl rfl ?_
    refine s_getI (pc := 6) dX6_drawsBehind_6 (fi_X6_24 hG) kd_66 ?_
    refine s_icmp_ge (pc := 9) 30 dX6_drawsBehind_9 rfl ?_ ?_
    · refine s_iconst (pc := 30) (v := 0) dX6_drawsBehind_30 rfl ?_
      exact s_zret (pc := 31) dX6_drawsBehind_31 rfl rfl
    · refine s_aload_n (pc := 12) 0 dX6_drawsBehind_12 rfl rfl ?_
      refine s_iload_n (pc := 13) 1 dX6_drawsBehind_13 rfl rfl ?_
      refine s_callV (k := 0) (n := 0) (pc := 14) [.int v2] (fun x14 => .int x14 :: []) (fun _ => P) dX6_drawsBehind_14 (cV_X6_32 hG) (Nat.le_of_ble_eq_true rfl) rfl kd_66 (Sc_wordOf_ok hG v2 P) rfl (fun _ => rfl) (fun _ => rfl) (Nat.le_of_ble_eq_true rfl) rfl rfl (fun x14 => ?_)
      refine s_bipush (pc := 17) (v := 8) dX6_drawsBehind_17 rfl ?_
      refine s_icmp_ge (pc := 19) 24 dX6_drawsBehind_19 rfl ?_ ?_
      · refine s_iinc (pc := 24) 1 1 [(2, .int (v2 + 1)), (0, .ref (gA G 66))] dX6_drawsBehind_24 rfl rfl (Nat.le_of_ble_eq_true rfl) rfl ?_
        refine s_goto (pc := 27) 4 dX6_drawsBehind_27 rfl ?_
        refine s_sub [1, 0] rfl ?_
        exact ih (v2 + 1)
      · refine s_iconst (pc := 22) (v := 1) dX6_drawsBehind_22 rfl ?_
        exact s_zret (pc := 23) dX6_drawsBehind_23 rfl rfl
def Sc_drawsBehind  (v1 : Int32) (P : PH) : Option (Int32) :=
  (some (v1 + (1 : Int32))).bind fun (u2_3 : Int32) =>
  Sc_drawsBehind_4 P bigN u2_3
set_option maxRecDepth 100000 in
set_option maxHeartbeats 4000000 in
theorem Sc_drawsBehind_ok {G : GT} {l : Launch} (hG : GOK G l)  (v1 : Int32) (P : PH) : OkN G l yX6_drawsBehind miX6_drawsBehind 0 0 (tI P) [.ref (gA G 66), .int v1] P (Sc_drawsBehind v1 P) := by
  refine okN_of hG _ [(0, .ref (gA G 66)), (1, .int v1)] rfl rfl rfl (Nat.le_of_ble_eq_true rfl) rfl ?_
  unfold Sc_drawsBehind
  refine s_iload_n (pc := 0) 1 dX6_drawsBehind_0 rfl rfl ?_
  refine s_iconst (pc := 1) (v := 1) dX6_drawsBehind_1 rfl ?_
  refine s_iadd (pc := 2) dX6_drawsBehind_2 ?_
  refine s_letI (fun u2_3 => ?_)
  refine s_istore_n (pc := 3) [(2, .int u2_3), (0, .ref (gA G 66)), (1, .int v1)] dX6_drawsBehind_3 rfl (Nat.le_of_ble_eq_true rfl) rfl ?_
  refine s_sub [1, 0] rfl ?_
  exact Sc_drawsBehind_4_sem hG P bigN u2_3
def Sc_close  (v1 : Int32) (P : PH) : Option (PH) :=
  if v1 < 0 then
    some P
  else
    if v1 < (200 : Int32) then
      gdI v1 200 <|
      (some (sI P 69 v1.toNatClampNeg (P.1 66 0))).bind fun (P21 : PH) =>
      (Sc_drawsBehind v1 P21).bind fun (x24 : Int32) =>
      if x24 = 0 then
        gdI v1 200 <|
        (some (sI P21 68 v1.toNatClampNeg (1 : Int32))).bind fun (P36 : PH) =>
        some P36
      else
        some P21
    else
      some P
set_option maxRecDepth 100000 in
set_option maxHeartbeats 4000000 in
theorem Sc_close_ok {G : GT} {l : Launch} (hG : GOK G l)  (v1 : Int32) (P : PH) : OkN G l yX6_close miX6_close 0 0 tVH [.ref (gA G 66), .int v1] P (Sc_close v1 P) := by
  refine okN_of hG _ [(0, .ref (gA G 66)), (1, .int v1)] rfl rfl rfl (Nat.le_of_ble_eq_true rfl) rfl ?_
  unfold Sc_close
  refine s_iload_n (pc := 0) 1 dX6_close_0 rfl rfl ?_
  refine s_if_lt (pc := 1) 11 dX6_close_1 rfl ?_ ?_
  · exact s_vret (pc := 11) dX6_close_11 rfl rfl
  · refine s_iload_n (pc := 4) 1 dX6_close_4 rfl rfl ?_
    refine s_sipush (pc := 5) (v := 200) dX6_close_5 rfl ?_
    refine s_icmp_lt (pc := 8) 12 dX6_close_8 rfl ?_ ?_
    · refine s_aload_n (pc := 12) 0 dX6_close_12 rfl rfl ?_
      refine s_getR (pc := 13) 69 dX6_close_13 (fi_X6_18 hG) kd_66 rfl ?_
      refine s_iload_n (pc := 16) 1 dX6_close_16 rfl rfl ?_
      refine s_aload_n (pc := 17) 0 dX6_close_17 rfl rfl ?_
      refine s_getI (pc := 18) dX6_close_18 (fi_X6_24 hG) kd_66 ?_
      refine s_iast (pc := 21) 200 dX6_close_21 kd_69 ln_69 ?_
      refine s_letP (fun P21 => ?_)
      refine s_aload_n (pc := 22) 0 dX6_close_22 rfl rfl ?_
      refine s_iload_n (pc := 23) 1 dX6_close_23 rfl rfl ?_
      refine s_callV (k := 0) (n := 0) (pc := 24) [.int v1] (fun x24 => .int x24 :: []) (fun _ => P21) dX6_close_24 (cV_X6_28 hG) (Nat.le_of_ble_eq_true rfl) rfl kd_66 (Sc_drawsBehind_ok hG v1 P21) rfl (fun _ => rfl) (fun _ => rfl) (Nat.le_of_ble_eq_true rfl) rfl rfl (fun x24 => ?_)
      refine s_if_ne (pc := 27) 37 dX6_close_27 rfl ?_ ?_
      · refine s_aload_n (pc := 30) 0 dX6_close_30 rfl rfl ?_
        refine s_getR (pc := 31) 68 dX6_close_31 (fi_X6_15 hG) kd_66 rfl ?_
        refine s_iload_n (pc := 34) 1 dX6_close_34 rfl rfl ?_
        refine s_iconst (pc := 35) (v := 1) dX6_close_35 rfl ?_
        refine s_iast (pc := 36) 200 dX6_close_36 kd_68 ln_68 ?_
        refine s_letP (fun P36 => ?_)
        exact s_vret (pc := 37) dX6_close_37 rfl rfl
      · exact s_vret (pc := 37) dX6_close_37 rfl rfl
    · exact s_vret (pc := 11) dX6_close_11 rfl rfl
def Re_closeBlock   (P : PH) : Option (PH) :=
  (some (sI P 71 10 ((P.1 71 10) - (1 : Int32)))).bind fun (P7 : PH) =>
  if (P7.1 71 10) < 0 then
    some P7
  else
    if (5 : Int32) ≤ (P7.1 71 10) then
      some P7
    else
      gdI (P7.1 71 10) 5 <|
      (Sc_close (P7.1 73 (P7.1 71 10).toNatClampNeg) P7).bind fun (x42 : PH) =>
      some x42
set_option maxRecDepth 100000 in
set_option maxHeartbeats 4000000 in
theorem Re_closeBlock_ok {G : GT} {l : Launch} (hG : GOK G l)   (P : PH) : OkN G l yX4_closeBlock miX4_closeBlock 0 0 tVH [.ref (gA G 71)] P (Re_closeBlock P) := by
  refine okN_of hG _ [(0, .ref (gA G 71))] rfl rfl rfl (Nat.le_of_ble_eq_true rfl) rfl ?_
  unfold Re_closeBlock
  refine s_aload_n (pc := 0) 0 dX4_closeBlock_0 rfl rfl ?_
  refine s_dup (pc := 1) dX4_closeBlock_1 rfl ?_
  refine s_getI (pc := 2) dX4_closeBlock_2 (fi_X4_39 hG) kd_71 ?_
  refine s_iconst (pc := 5) (v := 1) dX4_closeBlock_5 rfl ?_
  refine s_isub (pc := 6) dX4_closeBlock_6 ?_
  refine s_putI (pc := 7) dX4_closeBlock_7 (fp_X4_39 hG) kd_71 ?_
  refine s_letP (fun P7 => ?_)
  refine s_aload_n (pc := 10) 0 dX4_closeBlock_10 rfl rfl ?_
  refine s_getI (pc := 11) dX4_closeBlock_11 (fi_X4_39 hG) kd_71 ?_
  refine s_if_lt (pc := 14) 45 dX4_closeBlock_14 rfl ?_ ?_
  · exact s_vret (pc := 45) dX4_closeBlock_45 rfl rfl
  · refine s_aload_n (pc := 17) 0 dX4_closeBlock_17 rfl rfl ?_
    refine s_getI (pc := 18) dX4_closeBlock_18 (fi_X4_39 hG) kd_71 ?_
    refine s_aload_n (pc := 21) 0 dX4_closeBlock_21 rfl rfl ?_
    refine s_getR (pc := 22) 73 dX4_closeBlock_22 (fi_X4_15 hG) kd_71 rfl ?_
    refine s_alen (pc := 25) (t := 1) 5 5 dX4_closeBlock_25 kd_73 (Nat.le_of_ble_eq_true rfl) ln_73 rfl ?_
    refine s_icmp_ge (pc := 26) 45 dX4_closeBlock_26 rfl ?_ ?_
    · exact s_vret (pc := 45) dX4_closeBlock_45 rfl rfl
    · refine s_aload_n (pc := 29) 0 dX4_closeBlock_29 rfl rfl ?_
      refine s_getR (pc := 30) 66 dX4_closeBlock_30 (fi_X4_19 hG) kd_71 rfl ?_
      refine s_aload_n (pc := 33) 0 dX4_closeBlock_33 rfl rfl ?_
      refine s_getR (pc := 34) 73 dX4_closeBlock_34 (fi_X4_15 hG) kd_71 rfl ?_
      refine s_aload_n (pc := 37) 0 dX4_closeBlock_37 rfl rfl ?_
      refine s_getI (pc := 38) dX4_closeBlock_38 (fi_X4_39 hG) kd_71 ?_
      refine s_iald (pc := 41) 5 dX4_closeBlock_41 kd_73 ln_73 ?_
      refine s_callV (k := 0) (n := 0) (pc := 42) [.int (P7.1 73 (P7.1 71 10).toNatClampNeg)] (fun _ => []) (fun x42 => x42) dX4_closeBlock_42 (cV_X4_93 hG) (Nat.le_of_ble_eq_true rfl) rfl kd_66 (Sc_close_ok hG (P7.1 73 (P7.1 71 10).toNatClampNeg) P7) rfl (fun _ => rfl) (fun _ => rfl) (Nat.le_of_ble_eq_true rfl) rfl rfl (fun x42 => ?_)
      exact s_vret (pc := 45) dX4_closeBlock_45 rfl rfl
def Re_fail  (v1 : Int32) (P : PH) : Option (PH) :=
  if (P.1 71 1) = 0 then
    (some (sI P 71 1 v1)).bind fun (P9 : PH) =>
    (some (sI P9 71 2 (P9.1 71 8))).bind fun (P17 : PH) =>
    some P17
  else
    some P
set_option maxRecDepth 100000 in
set_option maxHeartbeats 4000000 in
theorem Re_fail_ok {G : GT} {l : Launch} (hG : GOK G l)  (v1 : Int32) (P : PH) : OkN G l yX4_fail miX4_fail 0 0 tVH [.ref (gA G 71), .int v1] P (Re_fail v1 P) := by
  refine okN_of hG _ [(0, .ref (gA G 71)), (1, .int v1)] rfl rfl rfl (Nat.le_of_ble_eq_true rfl) rfl ?_
  unfold Re_fail
  refine s_aload_n (pc := 0) 0 dX4_fail_0 rfl rfl ?_
  refine s_getI (pc := 1) dX4_fail_1 (fi_X4_42 hG) kd_71 ?_
  refine s_if_ne (pc := 4) 20 dX4_fail_4 rfl ?_ ?_
  · refine s_aload_n (pc := 7) 0 dX4_fail_7 rfl rfl ?_
    refine s_iload_n (pc := 8) 1 dX4_fail_8 rfl rfl ?_
    refine s_putI (pc := 9) dX4_fail_9 (fp_X4_42 hG) kd_71 ?_
    refine s_letP (fun P9 => ?_)
    refine s_aload_n (pc := 12) 0 dX4_fail_12 rfl rfl ?_
    refine s_aload_n (pc := 13) 0 dX4_fail_13 rfl rfl ?_
    refine s_getI (pc := 14) dX4_fail_14 (fi_X4_70 hG) kd_71 ?_
    refine s_putI (pc := 17) dX4_fail_17 (fp_X4_45 hG) kd_71 ?_
    refine s_letP (fun P17 => ?_)
    exact s_vret (pc := 20) dX4_fail_20 rfl rfl
  · exact s_vret (pc := 20) dX4_fail_20 rfl rfl
def Re_byteAt  (v1 : Int32) (P : PH) : Option (Int32) :=
  if v1 < 0 then
    some (0 : Int32)
  else
    if (P.1 71 5) ≤ v1 then
      some (0 : Int32)
    else
      if (700 : Int32) ≤ v1 then
        some (0 : Int32)
      else
        gdI v1 700 <|
        some ((P.1 72 v1.toNatClampNeg) &&& (255 : Int32))
set_option maxRecDepth 100000 in
set_option maxHeartbeats 4000000 in
theorem Re_byteAt_ok {G : GT} {l : Launch} (hG : GOK G l)  (v1 : Int32) (P : PH) : OkN G l yX4_byteAt miX4_byteAt 0 0 (tI P) [.ref (gA G 71), .int v1] P (Re_byteAt v1 P) := by
  refine okN_of hG _ [(0, .ref (gA G 71)), (1, .int v1)] rfl rfl rfl (Nat.le_of_ble_eq_true rfl) rfl ?_
  unfold Re_byteAt
  refine s_iload_n (pc := 0) 1 dX4_byteAt_0 rfl rfl ?_
  refine s_if_lt (pc := 1) 34 dX4_byteAt_1 rfl ?_ ?_
  · refine s_iconst (pc := 34) (v := 0) dX4_byteAt_34 rfl ?_
    exact s_iret (pc := 35) dX4_byteAt_35 rfl rfl
  · refine s_iload_n (pc := 4) 1 dX4_byteAt_4 rfl rfl ?_
    refine s_aload_n (pc := 5) 0 dX4_byteAt_5 rfl rfl ?_
    refine s_getI (pc := 6) dX4_byteAt_6 (fi_X4_33 hG) kd_71 ?_
    refine s_icmp_ge (pc := 9) 34 dX4_byteAt_9 rfl ?_ ?_
    · refine s_iconst (pc := 34) (v := 0) dX4_byteAt_34 rfl ?_
      exact s_iret (pc := 35) dX4_byteAt_35 rfl rfl
    · refine s_iload_n (pc := 12) 1 dX4_byteAt_12 rfl rfl ?_
      refine s_aload_n (pc := 13) 0 dX4_byteAt_13 rfl rfl ?_
      refine s_getR (pc := 14) 72 dX4_byteAt_14 (fi_X4_9 hG) kd_71 rfl ?_
      refine s_alen (pc := 17) (t := 0) 700 700 dX4_byteAt_17 kd_72 (Nat.le_of_ble_eq_true rfl) ln_72 rfl ?_
      refine s_icmp_ge (pc := 18) 34 dX4_byteAt_18 rfl ?_ ?_
      · refine s_iconst (pc := 34) (v := 0) dX4_byteAt_34 rfl ?_
        exact s_iret (pc := 35) dX4_byteAt_35 rfl rfl
      · refine s_aload_n (pc := 21) 0 dX4_byteAt_21 rfl rfl ?_
        refine s_getR (pc := 22) 72 dX4_byteAt_22 (fi_X4_9 hG) kd_71 rfl ?_
        refine s_iload_n (pc := 25) 1 dX4_byteAt_25 rfl rfl ?_
        refine s_bald (pc := 26) 700 dX4_byteAt_26 kd_72 ln_72 ?_
        refine s_sipush (pc := 27) (v := 255) dX4_byteAt_27 rfl ?_
        refine s_iand (pc := 30) dX4_byteAt_30 ?_
        refine s_goto (pc := 31) 35 dX4_byteAt_31 rfl ?_
        exact s_iret (pc := 35) dX4_byteAt_35 rfl rfl
def Re_isDigit  (v0 : Int32) (P : PH) : Option (Int32) :=
  if v0 < (48 : Int32) then
    gdP ((0 : Int32) = 0 ∨ (0 : Int32) = 1) <|
    some (0 : Int32)
  else
    if (57 : Int32) < v0 then
      gdP ((0 : Int32) = 0 ∨ (0 : Int32) = 1) <|
      some (0 : Int32)
    else
      gdP ((1 : Int32) = 0 ∨ (1 : Int32) = 1) <|
      some (1 : Int32)
set_option maxRecDepth 100000 in
set_option maxHeartbeats 4000000 in
theorem Re_isDigit_ok {G : GT} {l : Launch} (hG : GOK G l)  (v0 : Int32) (P : PH) : OkN G l yX4_isDigit miX4_isDigit 0 0 (tI P) [.int v0] P (Re_isDigit v0 P) := by
  refine okN_of hG _ [(0, .int v0)] rfl rfl rfl (Nat.le_of_ble_eq_true rfl) rfl ?_
  unfold Re_isDigit
  refine s_iload_n (pc := 0) 0 dX4_isDigit_0 rfl rfl ?_
  refine s_bipush (pc := 1) (v := 48) dX4_isDigit_1 rfl ?_
  refine s_icmp_lt (pc := 3) 16 dX4_isDigit_3 rfl ?_ ?_
  · refine s_iconst (pc := 16) (v := 0) dX4_isDigit_16 rfl ?_
    exact s_zret (pc := 17) dX4_isDigit_17 rfl rfl
  · refine s_iload_n (pc := 6) 0 dX4_isDigit_6 rfl rfl ?_
    refine s_bipush (pc := 7) (v := 57) dX4_isDigit_7 rfl ?_
    refine s_icmp_gt (pc := 9) 16 dX4_isDigit_9 rfl ?_ ?_
    · refine s_iconst (pc := 16) (v := 0) dX4_isDigit_16 rfl ?_
      exact s_zret (pc := 17) dX4_isDigit_17 rfl rfl
    · refine s_iconst (pc := 12) (v := 1) dX4_isDigit_12 rfl ?_
      refine s_goto (pc := 13) 17 dX4_isDigit_13 rfl ?_
      exact s_zret (pc := 17) dX4_isDigit_17 rfl rfl
def Re_digits_79    (P : PH) : Option (PH) :=
  if ((P.1 71 6) - (P.1 71 8)) ≤ (3 : Int32) then
    (some (sI P 71 7 (2 : Int32))).bind fun (P98 : PH) =>
    some P98
  else
    (some (sI P 71 7 (3 : Int32))).bind fun (P98 : PH) =>
    some P98
set_option maxRecDepth 100000 in
set_option maxHeartbeats 4000000 in
theorem Re_digits_79_sem {G : GT} {l : Launch} (hG : GOK G l)   (P : PH)   : Sem G l miX4_digits 0 0 (rn tVH) 79 [(0, .ref (gA G 71))] [] P (Re_digits_79 P) := by
  unfold Re_digits_79
  refine s_aload_n (pc := 79) 0 dX4_digits_79 rfl rfl ?_
  refine s_aload_n (pc := 80) 0 dX4_digits_80 rfl rfl ?_
  refine s_getI (pc := 81) dX4_digits_81 (fi_X4_36 hG) kd_71 ?_
  refine s_aload_n (pc := 84) 0 dX4_digits_84 rfl rfl ?_
  refine s_getI (pc := 85) dX4_digits_85 (fi_X4_70 hG) kd_71 ?_
  refine s_isub (pc := 88) dX4_digits_88 ?_
  refine s_iconst (pc := 89) (v := 3) dX4_digits_89 rfl ?_
  refine s_icmp_le (pc := 90) 97 dX4_digits_90 rfl ?_ ?_
  · refine s_iconst (pc := 97) (v := 2) dX4_digits_97 rfl ?_
    refine s_putI (pc := 98) dX4_digits_98 (fp_X4_56 hG) kd_71 ?_
    refine s_letP (fun P98 => ?_)
    exact s_vret (pc := 101) dX4_digits_101 rfl rfl
  · refine s_iconst (pc := 93) (v := 3) dX4_digits_93 rfl ?_
    refine s_goto (pc := 94) 98 dX4_digits_94 rfl ?_
    refine s_putI (pc := 98) dX4_digits_98 (fp_X4_56 hG) kd_71 ?_
    refine s_letP (fun P98 => ?_)
    exact s_vret (pc := 101) dX4_digits_101 rfl rfl
def Re_digits_63  (r10 : Int32 → PH → Option (PH)) (v1 : Int32) (s0 : Int32) (P : PH) : Option (PH) :=
  (some (sI P 71 9 s0)).bind fun (P63 : PH) =>
  (some (sI P63 71 6 (v1 + (1 : Int32)))).bind fun (P70 : PH) =>
  r10 (v1 + 1) P70
set_option maxRecDepth 100000 in
set_option maxHeartbeats 4000000 in
theorem Re_digits_63_sem {G : GT} {l : Launch} (hG : GOK G l)  (v1 : Int32) (s0 : Int32) (P : PH)  (r10 : Int32 → PH → Option (PH)) (hr10 : ∀ (v1 : Int32) (P : PH), Sem G l miX4_digits 0 0 (rn tVH) 10 [(0, .ref (gA G 71)), (1, .int v1)] [] P (r10 v1 P)) : Sem G l miX4_digits 0 0 (rn tVH) 63 [(0, .ref (gA G 71)), (1, .int v1)] [.int s0, .ref (gA G 71)] P (Re_digits_63 r10 v1 s0 P) := by
  unfold Re_digits_63
  refine s_putI (pc := 63) dX4_digits_63 (fp_X4_96 hG) kd_71 ?_
  refine s_letP (fun P63 => ?_)
  refine s_aload_n (pc := 66) 0 dX4_digits_66 rfl rfl ?_
  refine s_iload_n (pc := 67) 1 dX4_digits_67 rfl rfl ?_
  refine s_iconst (pc := 68) (v := 1) dX4_digits_68 rfl ?_
  refine s_iadd (pc := 69) dX4_digits_69 ?_
  refine s_putI (pc := 70) dX4_digits_70 (fp_X4_36 hG) kd_71 ?_
  refine s_letP (fun P70 => ?_)
  refine s_iinc (pc := 73) 1 1 [(1, .int (v1 + 1)), (0, .ref (gA G 71))] dX4_digits_73 rfl rfl (Nat.le_of_ble_eq_true rfl) rfl ?_
  refine s_goto (pc := 76) 10 dX4_digits_76 rfl ?_
  refine s_sub [1, 0] rfl ?_
  exact hr10 (v1 + 1) P70
def Re_digits_10     : Nat → Int32 → PH → Option (PH)
  | 0 => fun _ _ => none
  | n + 1 => fun v1 P =>
    if (P.1 71 5) ≤ v1 then
      Re_digits_79 P
    else
      (Re_byteAt v1 P).bind fun (x20 : Int32) =>
      (Re_isDigit x20 P).bind fun (x23 : Int32) =>
      if x23 = 0 then
        Re_digits_79 P
      else
        if (1000 : Int32) ≤ (P.1 71 9) then
          Re_digits_63 (Re_digits_10  n) v1 (P.1 71 9) P
        else
          (Re_byteAt v1 P).bind fun (x49 : Int32) =>
          Re_digits_63 (Re_digits_10  n) v1 ((((10 : Int32) * (P.1 71 9)) + x49) - (48 : Int32)) P
set_option maxRecDepth 100000 in
set_option maxHeartbeats 4000000 in
theorem Re_digits_10_sem {G : GT} {l : Launch} (hG : GOK G l)      : ∀ (n : Nat) (v1 : Int32) (P : PH), Sem G l miX4_digits 0 0 (rn tVH) 10 [(0, .ref (gA G 71)), (1, .int v1)] [] P (Re_digits_10  n v1 P) := by
  intro n
  induction n with
  | zero => intro v1 P; exact s_none rfl
  | succ n ih =>
    intro v1 P
    rw [Re_digits_10]
    refine s_iload_n (pc := 10) 1 dX4_digits_10 rfl rfl ?_
    refine s_aload_n (pc := 11) 0 dX4_digits_11 rfl rfl ?_
    refine s_getI (pc := 12) dX4_digits_12 (fi_X4_33 hG) kd_71 ?_
    refine s_icmp_ge (pc := 15) 79 dX4_digits_15 rfl ?_ ?_
    · refine s_sub [0] rfl ?_
      exact Re_digits_79_sem hG P
    · refine s_aload_n (pc := 18) 0 dX4_digits_18 rfl rfl ?_
      refine s_iload_n (pc := 19) 1 dX4_digits_19 rfl rfl ?_
      refine s_callV (k := 0) (n := 0) (pc := 20) [.int v1] (fun x20 => .int x20 :: []) (fun _ => P) dX4_digits_20 (cV_X4_102 hG) (Nat.le_of_ble_eq_true rfl) rfl kd_71 (Re_byteAt_ok hG v1 P) rfl (fun _ => rfl) (fun _ => rfl) (Nat.le_of_ble_eq_true rfl) rfl rfl (fun x20 => ?_)
      refine s_callS (k := 0) (n := 0) (pc := 23) [.int x20] (fun x23 => .int x23 :: []) (fun _ => P) dX4_digits_23 (cS_X4_113 hG) (Nat.le_of_ble_eq_true rfl) rfl (Re_isDigit_ok hG x20 P) rfl (fun _ => rfl) (fun _ => rfl) (Nat.le_of_ble_eq_true rfl) rfl rfl (fun x23 => ?_)
      refine s_if_eq (pc := 26) 79 dX4_digits_26 rfl ?_ ?_
      · refine s_sub [0] rfl ?_
        exact Re_digits_79_sem hG P
      · refine s_aload_n (pc := 29) 0 dX4_digits_29 rfl rfl ?_
        refine s_aload_n (pc := 30) 0 dX4_digits_30 rfl rfl ?_
        refine s_getI (pc := 31) dX4_digits_31 (fi_X4_96 hG) kd_71 ?_
        refine s_sipush (pc := 34) (v := 1000) dX4_digits_34 rfl ?_
        refine s_icmp_ge (pc := 37) 59 dX4_digits_37 rfl ?_ ?_
        · refine s_aload_n (pc := 59) 0 dX4_digits_59 rfl rfl ?_
          refine s_getI (pc := 60) dX4_digits_60 (fi_X4_96 hG) kd_71 ?_
          exact Re_digits_63_sem hG v1 (P.1 71 9) P (Re_digits_10  n) ih
        · refine s_bipush (pc := 40) (v := 10) dX4_digits_40 rfl ?_
          refine s_aload_n (pc := 42) 0 dX4_digits_42 rfl rfl ?_
          refine s_getI (pc := 43) dX4_digits_43 (fi_X4_96 hG) kd_71 ?_
          refine s_imul (pc := 46) dX4_digits_46 ?_
          refine s_aload_n (pc := 47) 0 dX4_digits_47 rfl rfl ?_
          refine s_iload_n (pc := 48) 1 dX4_digits_48 rfl rfl ?_
          refine s_callV (k := 0) (n := 0) (pc := 49) [.int v1] (fun x49 => .int x49 :: [.int ((10 : Int32) * (P.1 71 9)), .ref (gA G 71)]) (fun _ => P) dX4_digits_49 (cV_X4_102 hG) (Nat.le_of_ble_eq_true rfl) rfl kd_71 (Re_byteAt_ok hG v1 P) rfl (fun _ => rfl) (fun _ => rfl) (Nat.le_of_ble_eq_true rfl) rfl rfl (fun x49 => ?_)
          refine s_iadd (pc := 52) dX4_digits_52 ?_
          refine s_bipush (pc := 53) (v := 48) dX4_digits_53 rfl ?_
          refine s_isub (pc := 55) dX4_digits_55 ?_
          refine s_goto (pc := 56) 63 dX4_digits_56 rfl ?_
          exact Re_digits_63_sem hG v1 ((((10 : Int32) * (P.1 71 9)) + x49) - (48 : Int32)) P (Re_digits_10  n) ih
def Re_digits   (P : PH) : Option (PH) :=
  (some (sI P 71 9 (0 : Int32))).bind fun (P2 : PH) =>
  (some (P2.1 71 6)).bind fun (u1_9 : Int32) =>
  Re_digits_10  bigN u1_9 P2
set_option maxRecDepth 100000 in
set_option maxHeartbeats 4000000 in
theorem Re_digits_ok {G : GT} {l : Launch} (hG : GOK G l)   (P : PH) : OkN G l yX4_digits miX4_digits 0 0 tVH [.ref (gA G 71)] P (Re_digits P) := by
  refine okN_of hG _ [(0, .ref (gA G 71))] rfl rfl rfl (Nat.le_of_ble_eq_true rfl) rfl ?_
  unfold Re_digits
  refine s_aload_n (pc := 0) 0 dX4_digits_0 rfl rfl ?_
  refine s_iconst (pc := 1) (v := 0) dX4_digits_1 rfl ?_
  refine s_putI (pc := 2) dX4_digits_2 (fp_X4_96 hG) kd_71 ?_
  refine s_letP (fun P2 => ?_)
  refine s_aload_n (pc := 5) 0 dX4_digits_5 rfl rfl ?_
  refine s_getI (pc := 6) dX4_digits_6 (fi_X4_36 hG) kd_71 ?_
  refine s_letI (fun u1_9 => ?_)
  refine s_istore_n (pc := 9) [(1, .int u1_9), (0, .ref (gA G 71))] dX4_digits_9 rfl (Nat.le_of_ble_eq_true rfl) rfl ?_
  refine s_sub [1, 0] rfl ?_
  exact Re_digits_10_sem hG  bigN u1_9 P2
def Re_isLetter  (v0 : Int32) (P : PH) : Option (Int32) :=
  if v0 < (97 : Int32) then
    gdP ((0 : Int32) = 0 ∨ (0 : Int32) = 1) <|
    some (0 : Int32)
  else
    if (122 : Int32) < v0 then
      gdP ((0 : Int32) = 0 ∨ (0 : Int32) = 1) <|
      some (0 : Int32)
    else
      gdP ((1 : Int32) = 0 ∨ (1 : Int32) = 1) <|
      some (1 : Int32)
set_option maxRecDepth 100000 in
set_option maxHeartbeats 4000000 in
theorem Re_isLetter_ok {G : GT} {l : Launch} (hG : GOK G l)  (v0 : Int32) (P : PH) : OkN G l yX4_isLetter miX4_isLetter 0 0 (tI P) [.int v0] P (Re_isLetter v0 P) := by
  refine okN_of hG _ [(0, .int v0)] rfl rfl rfl (Nat.le_of_ble_eq_true rfl) rfl ?_
  unfold Re_isLetter
  refine s_iload_n (pc := 0) 0 dX4_isLetter_0 rfl rfl ?_
  refine s_bipush (pc := 1) (v := 97) dX4_isLetter_1 rfl ?_
  refine s_icmp_lt (pc := 3) 16 dX4_isLetter_3 rfl ?_ ?_
  · refine s_iconst (pc := 16) (v := 0) dX4_isLetter_16 rfl ?_
    exact s_zret (pc := 17) dX4_isLetter_17 rfl rfl
  · refine s_iload_n (pc := 6) 0 dX4_isLetter_6 rfl rfl ?_
    refine s_bipush (pc := 7) (v := 122) dX4_isLetter_7 rfl ?_
    refine s_icmp_gt (pc := 9) 16 dX4_isLetter_9 rfl ?_ ?_
    · refine s_iconst (pc := 16) (v := 0) dX4_isLetter_16 rfl ?_
      exact s_zret (pc := 17) dX4_isLetter_17 rfl rfl
    · refine s_iconst (pc := 12) (v := 1) dX4_isLetter_12 rfl ?_
      refine s_goto (pc := 13) 17 dX4_isLetter_13 rfl ?_
      exact s_zret (pc := 17) dX4_isLetter_17 rfl rfl
def Re_letters_5     : Nat → Int32 → PH → Option (PH)
  | 0 => fun _ _ => none
  | n + 1 => fun v1 P =>
    if (P.1 71 5) ≤ v1 then
      (some (sI P 71 7 (1 : Int32))).bind fun (P39 : PH) =>
      some P39
    else
      (Re_byteAt v1 P).bind fun (x15 : Int32) =>
      (Re_isLetter x15 P).bind fun (x18 : Int32) =>
      if x18 = 0 then
        (some (sI P 71 7 (1 : Int32))).bind fun (P39 : PH) =>
        some P39
      else
        (some (sI P 71 6 (v1 + (1 : Int32)))).bind fun (P28 : PH) =>
        Re_letters_5  n (v1 + 1) P28
set_option maxRecDepth 100000 in
set_option maxHeartbeats 4000000 in
theorem Re_letters_5_sem {G : GT} {l : Launch} (hG : GOK G l)      : ∀ (n : Nat) (v1 : Int32) (P : PH), Sem G l miX4_letters 0 0 (rn tVH) 5 [(0, .ref (gA G 71)), (1, .int v1)] [] P (Re_letters_5  n v1 P) := by
  intro n
  induction n with
  | zero => intro v1 P; exact s_none rfl
  | succ n ih =>
    intro v1 P
    rw [Re_letters_5]
    refine s_iload_n (pc := 5) 1 dX4_letters_5 rfl rfl ?_
    refine s_aload_n (pc := 6) 0 dX4_letters_6 rfl rfl ?_
    refine s_getI (pc := 7) dX4_letters_7 (fi_X4_33 hG) kd_71 ?_
    refine s_icmp_ge (pc := 10) 37 dX4_letters_10 rfl ?_ ?_
    · refine s_aload_n (pc := 37) 0 dX4_letters_37 rfl rfl ?_
      refine s_iconst (pc := 38) (v := 1) dX4_letters_38 rfl ?_
      refine s_putI (pc := 39) dX4_letters_39 (fp_X4_56 hG) kd_71 ?_
      refine s_letP (fun P39 => ?_)
      exact s_vret (pc := 42) dX4_letters_42 rfl rfl
    · refine s_aload_n (pc := 13) 0 dX4_letters_13 rfl rfl ?_
      refine s_iload_n (pc := 14) 1 dX4_letters_14 rfl rfl ?_
      refine s_callV (k := 0) (n := 0) (pc := 15) [.int v1] (fun x15 => .int x15 :: []) (fun _ => P) dX4_letters_15 (cV_X4_102 hG) (Nat.le_of_ble_eq_true rfl) rfl kd_71 (Re_byteAt_ok hG v1 P) rfl (fun _ => rfl) (fun _ => rfl) (Nat.le_of_ble_eq_true rfl) rfl rfl (fun x15 => ?_)
      refine s_callS (k := 0) (n := 0) (pc := 18) [.int x15] (fun x18 => .int x18 :: []) (fun _ => P) dX4_letters_18 (cS_X4_106 hG) (Nat.le_of_ble_eq_true rfl) rfl (Re_isLetter_ok hG x15 P) rfl (fun _ => rfl) (fun _ => rfl) (Nat.le_of_ble_eq_true rfl) rfl rfl (fun x18 => ?_)
      refine s_if_eq (pc := 21) 37 dX4_letters_21 rfl ?_ ?_
      · refine s_aload_n (pc := 37) 0 dX4_letters_37 rfl rfl ?_
        refine s_iconst (pc := 38) (v := 1) dX4_letters_38 rfl ?_
        refine s_putI (pc := 39) dX4_letters_39 (fp_X4_56 hG) kd_71 ?_
        refine s_letP (fun P39 => ?_)
        exact s_vret (pc := 42) dX4_letters_42 rfl rfl
      · refine s_aload_n (pc := 24) 0 dX4_letters_24 rfl rfl ?_
        refine s_iload_n (pc := 25) 1 dX4_letters_25 rfl rfl ?_
        refine s_iconst (pc := 26) (v := 1) dX4_letters_26 rfl ?_
        refine s_iadd (pc := 27) dX4_letters_27 ?_
        refine s_putI (pc := 28) dX4_letters_28 (fp_X4_36 hG) kd_71 ?_
        refine s_letP (fun P28 => ?_)
        refine s_iinc (pc := 31) 1 1 [(1, .int (v1 + 1)), (0, .ref (gA G 71))] dX4_letters_31 rfl rfl (Nat.le_of_ble_eq_true rfl) rfl ?_
        refine s_goto (pc := 34) 5 dX4_letters_34 rfl ?_
        refine s_sub [1, 0] rfl ?_
        exact ih (v1 + 1) P28
def Re_letters   (P : PH) : Option (PH) :=
  (some (P.1 71 6)).bind fun (u1_4 : Int32) =>
  Re_letters_5  bigN u1_4 P
set_option maxRecDepth 100000 in
set_option maxHeartbeats 4000000 in
theorem Re_letters_ok {G : GT} {l : Launch} (hG : GOK G l)   (P : PH) : OkN G l yX4_letters miX4_letters 0 0 tVH [.ref (gA G 71)] P (Re_letters P) := by
  refine okN_of hG _ [(0, .ref (gA G 71))] rfl rfl rfl (Nat.le_of_ble_eq_true rfl) rfl ?_
  unfold Re_letters
  refine s_aload_n (pc := 0) 0 dX4_letters_0 rfl rfl ?_
  refine s_getI (pc := 1) dX4_letters_1 (fi_X4_36 hG) kd_71 ?_
  refine s_letI (fun u1_4 => ?_)
  refine s_istore_n (pc := 4) [(1, .int u1_4), (0, .ref (gA G 71))] dX4_letters_4 rfl (Nat.le_of_ble_eq_true rfl) rfl ?_
  refine s_sub [1, 0] rfl ?_
  exact Re_letters_5_sem hG  bigN u1_4 P
def Re_skipBlanks_5     : Nat → Int32 → PH → Option (PH)
  | 0 => fun _ _ => none
  | n + 1 => fun v1 P =>
    if (P.1 71 5) ≤ v1 then
      some P
    else
      (Re_byteAt v1 P).bind fun (x15 : Int32) =>
      if x15 = (10 : Int32) then
        (some (sI P 71 6 (v1 + (1 : Int32)))).bind fun (P37 : PH) =>
        Re_skipBlanks_5  n (v1 + 1) P37
      else
        (Re_byteAt v1 P).bind fun (x25 : Int32) =>
        if x25 = (32 : Int32) then
          (some (sI P 71 6 (v1 + (1 : Int32)))).bind fun (P37 : PH) =>
          Re_skipBlanks_5  n (v1 + 1) P37
        else
          some P
set_option maxRecDepth 100000 in
set_option maxHeartbeats 4000000 in
theorem Re_skipBlanks_5_sem {G : GT} {l : Launch} (hG : GOK G l)      : ∀ (n : Nat) (v1 : Int32) (P : PH), Sem G l miX4_skipBlanks 0 0 (rn tVH) 5 [(0, .ref (gA G 71)), (1, .int v1)] [] P (Re_skipBlanks_5  n v1 P) := by
  intro n
  induction n with
  | zero => intro v1 P; exact s_none rfl
  | succ n ih =>
    intro v1 P
    rw [Re_skipBlanks_5]
    refine s_iload_n (pc := 5) 1 dX4_skipBlanks_5 rfl rfl ?_
    refine s_aload_n (pc := 6) 0 dX4_skipBlanks_6 rfl rfl ?_
    refine s_getI (pc := 7) dX4_skipBlanks_7 (fi_X4_33 hG) kd_71 ?_
    refine s_icmp_ge (pc := 10) 46 dX4_skipBlanks_10 rfl ?_ ?_
    · exact s_vret (pc := 46) dX4_skipBlanks_46 rfl rfl
    · refine s_aload_n (pc := 13) 0 dX4_skipBlanks_13 rfl rfl ?_
      refine s_iload_n (pc := 14) 1 dX4_skipBlanks_14 rfl rfl ?_
      refine s_callV (k := 0) (n := 0) (pc := 15) [.int v1] (fun x15 => .int x15 :: []) (fun _ => P) dX4_skipBlanks_15 (cV_X4_102 hG) (Nat.le_of_ble_eq_true rfl) rfl kd_71 (Re_byteAt_ok hG v1 P) rfl (fun _ => rfl) (fun _ => rfl) (Nat.le_of_ble_eq_true rfl) rfl rfl (fun x15 => ?_)
      refine s_bipush (pc := 18) (v := 10) dX4_skipBlanks_18 rfl ?_
      refine s_icmp_eq (pc := 20) 33 dX4_skipBlanks_20 rfl ?_ ?_
      · refine s_aload_n (pc := 33) 0 dX4_skipBlanks_33 rfl rfl ?_
        refine s_iload_n (pc := 34) 1 dX4_skipBlanks_34 rfl rfl ?_
        refine s_iconst (pc := 35) (v := 1) dX4_skipBlanks_35 rfl ?_
        refine s_iadd (pc := 36) dX4_skipBlanks_36 ?_
        refine s_putI (pc := 37) dX4_skipBlanks_37 (fp_X4_36 hG) kd_71 ?_
        refine s_letP (fun P37 => ?_)
        refine s_iinc (pc := 40) 1 1 [(1, .int (v1 + 1)), (0, .ref (gA G 71))] dX4_skipBlanks_40 rfl rfl (Nat.le_of_ble_eq_true rfl) rfl ?_
        refine s_goto (pc := 43) 5 dX4_skipBlanks_43 rfl ?_
        refine s_sub [1, 0] rfl ?_
        exact ih (v1 + 1) P37
      · refine s_aload_n (pc := 23) 0 dX4_skipBlanks_23 rfl rfl ?_
        refine s_iload_n (pc := 24) 1 dX4_skipBlanks_24 rfl rfl ?_
        refine s_callV (k := 0) (n := 0) (pc := 25) [.int v1] (fun x25 => .int x25 :: []) (fun _ => P) dX4_skipBlanks_25 (cV_X4_102 hG) (Nat.le_of_ble_eq_true rfl) rfl kd_71 (Re_byteAt_ok hG v1 P) rfl (fun _ => rfl) (fun _ => rfl) (Nat.le_of_ble_eq_true rfl) rfl rfl (fun x25 => ?_)
        refine s_bipush (pc := 28) (v := 32) dX4_skipBlanks_28 rfl ?_
        refine s_icmp_ne (pc := 30) 46 dX4_skipBlanks_30 rfl ?_ ?_
        · refine s_aload_n (pc := 33) 0 dX4_skipBlanks_33 rfl rfl ?_
          refine s_iload_n (pc := 34) 1 dX4_skipBlanks_34 rfl rfl ?_
          refine s_iconst (pc := 35) (v := 1) dX4_skipBlanks_35 rfl ?_
          refine s_iadd (pc := 36) dX4_skipBlanks_36 ?_
          refine s_putI (pc := 37) dX4_skipBlanks_37 (fp_X4_36 hG) kd_71 ?_
          refine s_letP (fun P37 => ?_)
          refine s_iinc (pc := 40) 1 1 [(1, .int (v1 + 1)), (0, .ref (gA G 71))] dX4_skipBlanks_40 rfl rfl (Nat.le_of_ble_eq_true rfl) rfl ?_
          refine s_goto (pc := 43) 5 dX4_skipBlanks_43 rfl ?_
          refine s_sub [1, 0] rfl ?_
          exact ih (v1 + 1) P37
        · exact s_vret (pc := 46) dX4_skipBlanks_46 rfl rfl
def Re_skipBlanks   (P : PH) : Option (PH) :=
  (some (P.1 71 6)).bind fun (u1_4 : Int32) =>
  Re_skipBlanks_5  bigN u1_4 P
set_option maxRecDepth 100000 in
set_option maxHeartbeats 4000000 in
theorem Re_skipBlanks_ok {G : GT} {l : Launch} (hG : GOK G l)   (P : PH) : OkN G l yX4_skipBlanks miX4_skipBlanks 0 0 tVH [.ref (gA G 71)] P (Re_skipBlanks P) := by
  refine okN_of hG _ [(0, .ref (gA G 71))] rfl rfl rfl (Nat.le_of_ble_eq_true rfl) rfl ?_
  unfold Re_skipBlanks
  refine s_aload_n (pc := 0) 0 dX4_skipBlanks_0 rfl rfl ?_
  refine s_getI (pc := 1) dX4_skipBlanks_1 (fi_X4_36 hG) kd_71 ?_
  refine s_letI (fun u1_4 => ?_)
  refine s_istore_n (pc := 4) [(1, .int u1_4), (0, .ref (gA G 71))] dX4_skipBlanks_4 rfl (Nat.le_of_ble_eq_true rfl) rfl ?_
  refine s_sub [1, 0] rfl ?_
  exact Re_skipBlanks_5_sem hG  bigN u1_4 P
def Re_token_113    (P : PH) : Option (PH) :=
  if (P.1 71 7) = (3 : Int32) then
    (Re_fail (1 : Int32) P).bind fun (x123 : PH) =>
    some x123
  else
    some P
set_option maxRecDepth 100000 in
set_option maxHeartbeats 4000000 in
theorem Re_token_113_sem {G : GT} {l : Launch} (hG : GOK G l)   (P : PH)   : Sem G l miX4_token 0 0 (rn tVH) 113 [(0, .ref (gA G 71))] [] P (Re_token_113 P) := by
  unfold Re_token_113
  refine s_aload_n (pc := 113) 0 dX4_token_113 rfl rfl ?_
  refine s_getI (pc := 114) dX4_token_114 (fi_X4_56 hG) kd_71 ?_
  refine s_iconst (pc := 117) (v := 3) dX4_token_117 rfl ?_
  refine s_icmp_ne (pc := 118) 126 dX4_token_118 rfl ?_ ?_
  · refine s_aload_n (pc := 121) 0 dX4_token_121 rfl rfl ?_
    refine s_iconst (pc := 122) (v := 1) dX4_token_122 rfl ?_
    refine s_callV (k := 0) (n := 0) (pc := 123) [.int ((1 : Int32))] (fun _ => []) (fun x123 => x123) dX4_token_123 (cV_X4_77 hG) (Nat.le_of_ble_eq_true rfl) rfl kd_71 (Re_fail_ok hG (1 : Int32) P) rfl (fun _ => rfl) (fun _ => rfl) (Nat.le_of_ble_eq_true rfl) rfl rfl (fun x123 => ?_)
    exact s_vret (pc := 126) dX4_token_126 rfl rfl
  · exact s_vret (pc := 126) dX4_token_126 rfl rfl
def Re_token_95   (v1 : Int32) (P : PH) : Option (PH) :=
  (some (sI P 71 7 v1)).bind fun (P100 : PH) =>
  (some (sI P100 71 6 ((P100.1 71 6) + (1 : Int32)))).bind fun (P110 : PH) =>
  Re_token_113 P110
set_option maxRecDepth 100000 in
set_option maxHeartbeats 4000000 in
theorem Re_token_95_sem {G : GT} {l : Launch} (hG : GOK G l)  (v1 : Int32) (P : PH)   : Sem G l miX4_token 0 0 (rn tVH) 95 [(0, .ref (gA G 71)), (1, .int v1)] [.ref (gA G 71)] P (Re_token_95 v1 P) := by
  unfold Re_token_95
  refine s_iload_n (pc := 95) 1 dX4_token_95 rfl rfl ?_
  refine s_goto (pc := 96) 100 dX4_token_96 rfl ?_
  refine s_putI (pc := 100) dX4_token_100 (fp_X4_56 hG) kd_71 ?_
  refine s_letP (fun P100 => ?_)
  refine s_aload_n (pc := 103) 0 dX4_token_103 rfl rfl ?_
  refine s_dup (pc := 104) dX4_token_104 rfl ?_
  refine s_getI (pc := 105) dX4_token_105 (fi_X4_36 hG) kd_71 ?_
  refine s_iconst (pc := 108) (v := 1) dX4_token_108 rfl ?_
  refine s_iadd (pc := 109) dX4_token_109 ?_
  refine s_putI (pc := 110) dX4_token_110 (fp_X4_36 hG) kd_71 ?_
  refine s_letP (fun P110 => ?_)
  refine s_sub [0] rfl ?_
  exact Re_token_113_sem hG P110
def Re_token   (P : PH) : Option (PH) :=
  if (P.1 71 1) = 0 then
    (Re_skipBlanks P).bind fun (x9 : PH) =>
    (some (sI x9 71 8 (x9.1 71 6))).bind fun (P17 : PH) =>
    (Re_byteAt (P17.1 71 6) P17).bind fun (x25 : Int32) =>
    if (P17.1 71 6) < (P17.1 71 5) then
      (Re_isLetter x25 P17).bind fun (x49 : Int32) =>
      if x49 = 0 then
        (Re_isDigit x25 P17).bind fun (x63 : Int32) =>
        if x63 = 0 then
          if x25 = (59 : Int32) then
            Re_token_95 x25 P17
          else
            if x25 = (40 : Int32) then
              Re_token_95 x25 P17
            else
              if x25 = (41 : Int32) then
                Re_token_95 x25 P17
              else
                (some (sI P17 71 7 (3 : Int32))).bind fun (P100 : PH) =>
                (some (sI P100 71 6 ((P100.1 71 6) + (1 : Int32)))).bind fun (P110 : PH) =>
                Re_token_113 P110
        else
          (Re_digits P17).bind fun (x70 : PH) =>
          Re_token_113 x70
      else
        (Re_letters P17).bind fun (x56 : PH) =>
        Re_token_113 x56
    else
      (some (sI P17 71 7 (0 : Int32))).bind fun (P42 : PH) =>
      Re_token_113 P42
  else
    some P
set_option maxRecDepth 100000 in
set_option maxHeartbeats 4000000 in
theorem Re_token_ok {G : GT} {l : Launch} (hG : GOK G l)   (P : PH) : OkN G l yX4_token miX4_token 0 0 tVH [.ref (gA G 71)] P (Re_token P) := by
  refine okN_of hG _ [(0, .ref (gA G 71))] rfl rfl rfl (Nat.le_of_ble_eq_true rfl) rfl ?_
  unfold Re_token
  refine s_aload_n (pc := 0) 0 dX4_token_0 rfl rfl ?_
  refine s_getI (pc := 1) dX4_token_1 (fi_X4_42 hG) kd_71 ?_
  refine s_if_eq (pc := 4) 8 dX4_token_4 rfl ?_ ?_
  · refine s_aload_n (pc := 8) 0 dX4_token_8 rfl rfl ?_
    refine s_callV (k := 0) (n := 0) (pc := 9) [] (fun _ => []) (fun x9 => x9) dX4_token_9 (cV_X4_99 hG) (Nat.le_of_ble_eq_true rfl) rfl kd_71 (Re_skipBlanks_ok hG P) rfl (fun _ => rfl) (fun _ => rfl) (Nat.le_of_ble_eq_true rfl) rfl rfl (fun x9 => ?_)
    refine s_aload_n (pc := 12) 0 dX4_token_12 rfl rfl ?_
    refine s_aload_n (pc := 13) 0 dX4_token_13 rfl rfl ?_
    refine s_getI (pc := 14) dX4_token_14 (fi_X4_36 hG) kd_71 ?_
    refine s_putI (pc := 17) dX4_token_17 (fp_X4_70 hG) kd_71 ?_
    refine s_letP (fun P17 => ?_)
    refine s_aload_n (pc := 20) 0 dX4_token_20 rfl rfl ?_
    refine s_aload_n (pc := 21) 0 dX4_token_21 rfl rfl ?_
    refine s_getI (pc := 22) dX4_token_22 (fi_X4_36 hG) kd_71 ?_
    refine s_callV (k := 0) (n := 0) (pc := 25) [.int (P17.1 71 6)] (fun x25 => .int x25 :: []) (fun _ => P17) dX4_token_25 (cV_X4_102 hG) (Nat.le_of_ble_eq_true rfl) rfl kd_71 (Re_byteAt_ok hG (P17.1 71 6) P17) rfl (fun _ => rfl) (fun _ => rfl) (Nat.le_of_ble_eq_true rfl) rfl rfl (fun x25 => ?_)
    refine s_istore_n (pc := 28) [(1, .int x25), (0, .ref (gA G 71))] dX4_token_28 rfl (Nat.le_of_ble_eq_true rfl) rfl ?_
    refine s_aload_n (pc := 29) 1 dX4_token_29 rfl rfl ?_
    refine s_getI (pc := 30) dX4_token_30 (fi_X4_36 hG) kd_71 ?_
    refine s_aload_n (pc := 33) 1 dX4_token_33 rfl rfl ?_
    refine s_getI (pc := 34) dX4_token_34 (fi_X4_33 hG) kd_71 ?_
    refine s_icmp_lt (pc := 37) 48 dX4_token_37 rfl ?_ ?_
    · refine s_iload_n (pc := 48) 0 dX4_token_48 rfl rfl ?_
      refine s_callS (k := 0) (n := 0) (pc := 49) [.int x25] (fun x49 => .int x49 :: []) (fun _ => P17) dX4_token_49 (cS_X4_106 hG) (Nat.le_of_ble_eq_true rfl) rfl (Re_isLetter_ok hG x25 P17) rfl (fun _ => rfl) (fun _ => rfl) (Nat.le_of_ble_eq_true rfl) rfl rfl (fun x49 => ?_)
      refine s_if_eq (pc := 52) 62 dX4_token_52 rfl ?_ ?_
      · refine s_iload_n (pc := 62) 0 dX4_token_62 rfl rfl ?_
        refine s_callS (k := 0) (n := 0) (pc := 63) [.int x25] (fun x63 => .int x63 :: []) (fun _ => P17) dX4_token_63 (cS_X4_113 hG) (Nat.le_of_ble_eq_true rfl) rfl (Re_isDigit_ok hG x25 P17) rfl (fun _ => rfl) (fun _ => rfl) (Nat.le_of_ble_eq_true rfl) rfl rfl (fun x63 => ?_)
        refine s_if_eq (pc := 66) 76 dX4_token_66 rfl ?_ ?_
        · refine s_aload_n (pc := 76) 1 dX4_token_76 rfl rfl ?_
          refine s_iload_n (pc := 77) 0 dX4_token_77 rfl rfl ?_
          refine s_bipush (pc := 78) (v := 59) dX4_token_78 rfl ?_
          refine s_icmp_eq (pc := 80) 95 dX4_token_80 rfl ?_ ?_
          · refine s_sub [1, 0] rfl ?_
            exact Re_token_95_sem hG x25 P17
          · refine s_iload_n (pc := 83) 0 dX4_token_83 rfl rfl ?_
            refine s_bipush (pc := 84) (v := 40) dX4_token_84 rfl ?_
            refine s_icmp_eq (pc := 86) 95 dX4_token_86 rfl ?_ ?_
            · refine s_sub [1, 0] rfl ?_
              exact Re_token_95_sem hG x25 P17
            · refine s_iload_n (pc := 89) 0 dX4_token_89 rfl rfl ?_
              refine s_bipush (pc := 90) (v := 41) dX4_token_90 rfl ?_
              refine s_icmp_ne (pc := 92) 99 dX4_token_92 rfl ?_ ?_
              · refine s_sub [1, 0] rfl ?_
                exact Re_token_95_sem hG x25 P17
              · refine s_iconst (pc := 99) (v := 3) dX4_token_99 rfl ?_
                refine s_putI (pc := 100) dX4_token_100 (fp_X4_56 hG) kd_71 ?_
                refine s_letP (fun P100 => ?_)
                refine s_aload_n (pc := 103) 1 dX4_token_103 rfl rfl ?_
                refine s_dup (pc := 104) dX4_token_104 rfl ?_
                refine s_getI (pc := 105) dX4_token_105 (fi_X4_36 hG) kd_71 ?_
                refine s_iconst (pc := 108) (v := 1) dX4_token_108 rfl ?_
                refine s_iadd (pc := 109) dX4_token_109 ?_
                refine s_putI (pc := 110) dX4_token_110 (fp_X4_36 hG) kd_71 ?_
                refine s_letP (fun P110 => ?_)
                refine s_sub [1] rfl ?_
                exact Re_token_113_sem hG P110
        · refine s_aload_n (pc := 69) 1 dX4_token_69 rfl rfl ?_
          refine s_callV (k := 0) (n := 0) (pc := 70) [] (fun _ => []) (fun x70 => x70) dX4_token_70 (cV_X4_116 hG) (Nat.le_of_ble_eq_true rfl) rfl kd_71 (Re_digits_ok hG P17) rfl (fun _ => rfl) (fun _ => rfl) (Nat.le_of_ble_eq_true rfl) rfl rfl (fun x70 => ?_)
          refine s_goto (pc := 73) 113 dX4_token_73 rfl ?_
          refine s_sub [1] rfl ?_
          exact Re_token_113_sem hG x70
      · refine s_aload_n (pc := 55) 1 dX4_token_55 rfl rfl ?_
        refine s_callV (k := 0) (n := 0) (pc := 56) [] (fun _ => []) (fun x56 => x56) dX4_token_56 (cV_X4_110 hG) (Nat.le_of_ble_eq_true rfl) rfl kd_71 (Re_letters_ok hG P17) rfl (fun _ => rfl) (fun _ => rfl) (Nat.le_of_ble_eq_true rfl) rfl rfl (fun x56 => ?_)
        refine s_goto (pc := 59) 113 dX4_token_59 rfl ?_
        refine s_sub [1] rfl ?_
        exact Re_token_113_sem hG x56
    · refine s_aload_n (pc := 40) 1 dX4_token_40 rfl rfl ?_
      refine s_iconst (pc := 41) (v := 0) dX4_token_41 rfl ?_
      refine s_putI (pc := 42) dX4_token_42 (fp_X4_56 hG) kd_71 ?_
      refine s_letP (fun P42 => ?_)
      refine s_goto (pc := 45) 113 dX4_token_45 rfl ?_
      refine s_sub [1] rfl ?_
      exact Re_token_113_sem hG P42
  · exact s_vret (pc := 7) dX4_token_7 rfl rfl
def Re_sign  (v1 : Int32) (P : PH) : Option (PH) :=
  (Re_token P).bind fun (x1 : PH) =>
  if (x1.1 71 7) = v1 then
    some x1
  else
    (Re_fail (2 : Int32) x1).bind fun (x14 : PH) =>
    some x14
set_option maxRecDepth 100000 in
set_option maxHeartbeats 4000000 in
theorem Re_sign_ok {G : GT} {l : Launch} (hG : GOK G l)  (v1 : Int32) (P : PH) : OkN G l yX4_sign miX4_sign 0 0 tVH [.ref (gA G 71), .int v1] P (Re_sign v1 P) := by
  refine okN_of hG _ [(0, .ref (gA G 71)), (1, .int v1)] rfl rfl rfl (Nat.le_of_ble_eq_true rfl) rfl ?_
  unfold Re_sign
  refine s_aload_n (pc := 0) 0 dX4_sign_0 rfl rfl ?_
  refine s_callV (k := 0) (n := 0) (pc := 1) [] (fun _ => []) (fun x1 => x1) dX4_sign_1 (cV_X4_53 hG) (Nat.le_of_ble_eq_true rfl) rfl kd_71 (Re_token_ok hG P) rfl (fun _ => rfl) (fun _ => rfl) (Nat.le_of_ble_eq_true rfl) rfl rfl (fun x1 => ?_)
  refine s_aload_n (pc := 4) 0 dX4_sign_4 rfl rfl ?_
  refine s_getI (pc := 5) dX4_sign_5 (fi_X4_56 hG) kd_71 ?_
  refine s_iload_n (pc := 8) 1 dX4_sign_8 rfl rfl ?_
  refine s_icmp_eq (pc := 9) 17 dX4_sign_9 rfl ?_ ?_
  · exact s_vret (pc := 17) dX4_sign_17 rfl rfl
  · refine s_aload_n (pc := 12) 0 dX4_sign_12 rfl rfl ?_
    refine s_iconst (pc := 13) (v := 2) dX4_sign_13 rfl ?_
    refine s_callV (k := 0) (n := 0) (pc := 14) [.int ((2 : Int32))] (fun _ => []) (fun x14 => x14) dX4_sign_14 (cV_X4_77 hG) (Nat.le_of_ble_eq_true rfl) rfl kd_71 (Re_fail_ok hG (2 : Int32) x1) rfl (fun _ => rfl) (fun _ => rfl) (Nat.le_of_ble_eq_true rfl) rfl rfl (fun x14 => ?_)
    exact s_vret (pc := 17) dX4_sign_17 rfl rfl
def Re_isSpelled_20   (v1 : Nat) (P : PH) : Nat → Int32 → Option (Int32)
  | 0 => fun _ => none
  | n + 1 => fun v2 =>
    if (nI (wLen.getD v1 0)) ≤ v2 then
      gdP ((1 : Int32) = 0 ∨ (1 : Int32) = 1) <|
      some (1 : Int32)
    else
      gdI v2 (wLen.getD v1 0) <|
      (Re_byteAt ((P.1 71 8) + v2) P).bind fun (x40 : Int32) =>
      if (wCh v1 v2.toNatClampNeg) = x40 then
        Re_isSpelled_20 v1 P n (v2 + 1)
      else
        gdP ((0 : Int32) = 0 ∨ (0 : Int32) = 1) <|
        some (0 : Int32)
set_option maxRecDepth 100000 in
set_option maxHeartbeats 4000000 in
theorem Re_isSpelled_20_sem {G : GT} {l : Launch} (hG : GOK G l)  (v1 : Nat) (hv1 : v1 < 14) (P : PH)   : ∀ (n : Nat) (v2 : Int32), Sem G l miX4_isSpelled 0 0 (rn (tI P)) 20 [(0, .ref (gA G 71)), (1, .ref (gK G v1)), (2, .int v2)] [] P (Re_isSpelled_20 v1 P n v2) := by
  intro n
  induction n with
  | zero => intro v2; exact s_none rfl
  | succ n ih =>
    intro v2
    rw [Re_isSpelled_20]
    refine s_iload_n (pc := 20) 2 dX4_isSpelled_20 rfl rfl ?_
    refine s_aload_n (pc := 21) 1 dX4_isSpelled_21 rfl rfl ?_
    refine s_strLen (pc := 22) dX4_isSpelled_22 (sl_X4_127 hG) hG hv1 (Nat.le_of_ble_eq_true rfl) (Nat.le_of_ble_eq_true rfl) ?_
    refine s_icmp_ge (pc := 25) 54 dX4_isSpelled_25 rfl ?_ ?_
    · refine s_iconst (pc := 54) (v := 1) dX4_isSpelled_54 rfl ?_
      exact s_zret (pc := 55) dX4_isSpelled_55 rfl rfl
    · refine s_aload_n (pc := 28) 1 dX4_isSpelled_28 rfl rfl ?_
      refine s_iload_n (pc := 29) 2 dX4_isSpelled_29 rfl rfl ?_
      refine s_strAt (pc := 30) dX4_isSpelled_30 (sa_X4_132 hG) hG hv1 (Nat.le_of_ble_eq_true rfl) (Nat.le_of_ble_eq_true rfl) ?_
      refine s_aload_n (pc := 33) 0 dX4_isSpelled_33 rfl rfl ?_
      refine s_aload_n (pc := 34) 0 dX4_isSpelled_34 rfl rfl ?_
      refine s_getI (pc := 35) dX4_isSpelled_35 (fi_X4_70 hG) kd_71 ?_
      refine s_iload_n (pc := 38) 2 dX4_isSpelled_38 rfl rfl ?_
      refine s_iadd (pc := 39) dX4_isSpelled_39 ?_
      refine s_callV (k := 0) (n := 0) (pc := 40) [.int ((P.1 71 8) + v2)] (fun x40 => .int x40 :: [.int (wCh v1 v2.toNatClampNeg)]) (fun _ => P) dX4_isSpelled_40 (cV_X4_102 hG) (Nat.le_of_ble_eq_true rfl) rfl kd_71 (Re_byteAt_ok hG ((P.1 71 8) + v2) P) rfl (fun _ => rfl) (fun _ => rfl) (Nat.le_of_ble_eq_true rfl) rfl rfl (fun x40 => ?_)
      refine s_icmp_eq (pc := 43) 48 dX4_isSpelled_43 rfl ?_ ?_
      · refine s_iinc (pc := 48) 2 1 [(2, .int (v2 + 1)), (0, .ref (gA G 71)), (1, .ref (gK G v1))] dX4_isSpelled_48 rfl rfl (Nat.le_of_ble_eq_true rfl) rfl ?_
        refine s_goto (pc := 51) 20 dX4_isSpelled_51 rfl ?_
        refine s_sub [1, 2, 0] rfl ?_
        exact ih (v2 + 1)
      · refine s_iconst (pc := 46) (v := 0) dX4_isSpelled_46 rfl ?_
        exact s_zret (pc := 47) dX4_isSpelled_47 rfl rfl
def Re_isSpelled  (v1 : Nat) (P : PH) : Option (Int32) :=
  if (nI (wLen.getD v1 0)) = ((P.1 71 6) - (P.1 71 8)) then
    Re_isSpelled_20 v1 P bigN (0 : Int32)
  else
    gdP ((0 : Int32) = 0 ∨ (0 : Int32) = 1) <|
    some (0 : Int32)
set_option maxRecDepth 100000 in
set_option maxHeartbeats 4000000 in
theorem Re_isSpelled_ok {G : GT} {l : Launch} (hG : GOK G l)  (v1 : Nat) (hv1 : v1 < 14) (P : PH) : OkN G l yX4_isSpelled miX4_isSpelled 0 0 (tI P) [.ref (gA G 71), .ref (gK G v1)] P (Re_isSpelled v1 P) := by
  refine okN_of hG _ [(0, .ref (gA G 71)), (1, .ref (gK G v1))] rfl rfl rfl (Nat.le_of_ble_eq_true rfl) rfl ?_
  unfold Re_isSpelled
  refine s_aload_n (pc := 0) 1 dX4_isSpelled_0 rfl rfl ?_
  refine s_strLen (pc := 1) dX4_isSpelled_1 (sl_X4_127 hG) hG hv1 (Nat.le_of_ble_eq_true rfl) (Nat.le_of_ble_eq_true rfl) ?_
  refine s_aload_n (pc := 4) 0 dX4_isSpelled_4 rfl rfl ?_
  refine s_getI (pc := 5) dX4_isSpelled_5 (fi_X4_36 hG) kd_71 ?_
  refine s_aload_n (pc := 8) 0 dX4_isSpelled_8 rfl rfl ?_
  refine s_getI (pc := 9) dX4_isSpelled_9 (fi_X4_70 hG) kd_71 ?_
  refine s_isub (pc := 12) dX4_isSpelled_12 ?_
  refine s_icmp_eq (pc := 13) 18 dX4_isSpelled_13 rfl ?_ ?_
  · refine s_iconst (pc := 18) (v := 0) dX4_isSpelled_18 rfl ?_
    refine s_istore_n (pc := 19) [(2, .int ((0 : Int32))), (0, .ref (gA G 71)), (1, .ref (gK G v1))] dX4_isSpelled_19 rfl (Nat.le_of_ble_eq_true rfl) rfl ?_
    refine s_sub [1, 2, 0] rfl ?_
    exact Re_isSpelled_20_sem hG v1 hv1 P bigN (0 : Int32)
  · refine s_iconst (pc := 16) (v := 0) dX4_isSpelled_16 rfl ?_
    exact s_zret (pc := 17) dX4_isSpelled_17 rfl rfl
def Re_nameOf  (v0 : Int32) (P : PH) : Option (Nat) :=
  if v0 = 0 then
    some 0
  else
  if v0 = 1 then
    some 1
  else
  if v0 = 2 then
    some 2
  else
  if v0 = 3 then
    some 3
  else
  if v0 = 4 then
    some 4
  else
  if v0 = 5 then
    some 5
  else
  if v0 = 6 then
    some 6
  else
  if v0 = 7 then
    some 7
  else
  if v0 = 8 then
    some 8
  else
  if v0 = 9 then
    some 9
  else
  if v0 = 10 then
    some 10
  else
  if v0 = 11 then
    some 11
  else
  if v0 = 12 then
    some 12
  else
    some 13
set_option maxRecDepth 100000 in
set_option maxHeartbeats 4000000 in
theorem Re_nameOf_ok {G : GT} {l : Launch} (hG : GOK G l)  (v0 : Int32) (P : PH) : OkN G l yX4_nameOf miX4_nameOf 0 0 (tS G P) [.int v0] P (Re_nameOf v0 P) := by
  refine okN_of hG _ [(0, .int v0)] rfl rfl rfl (Nat.le_of_ble_eq_true rfl) rfl ?_
  unfold Re_nameOf
  refine s_iload_n (pc := 0) 0 dX4_nameOf_0 rfl rfl ?_
  refine s_sw (fun hx0 => ?_) (fun hx0 => ?_)
  · refine s_tin (pc := 1) 68 dX4_nameOf_1 (by rw [hx0]; decide) (by rw [hx0]; decide) (by rw [hx0]; rfl) rfl ?_
    refine s_ldcS (pc := 68) 0 dX4_nameOf_68 (show (RX4, 136, 0) ∈ strRefs by decide +kernel) ?_
    exact s_aret (pc := 70) dX4_nameOf_70 rfl rfl
  refine s_sw (fun hx1 => ?_) (fun hx1 => ?_)
  · refine s_tin (pc := 1) 71 dX4_nameOf_1 (by rw [hx1]; decide) (by rw [hx1]; decide) (by rw [hx1]; rfl) rfl ?_
    refine s_ldcS (pc := 71) 1 dX4_nameOf_71 (show (RX4, 138, 1) ∈ strRefs by decide +kernel) ?_
    exact s_aret (pc := 73) dX4_nameOf_73 rfl rfl
  refine s_sw (fun hx2 => ?_) (fun hx2 => ?_)
  · refine s_tin (pc := 1) 74 dX4_nameOf_1 (by rw [hx2]; decide) (by rw [hx2]; decide) (by rw [hx2]; rfl) rfl ?_
    refine s_ldcS (pc := 74) 2 dX4_nameOf_74 (show (RX4, 140, 2) ∈ strRefs by decide +kernel) ?_
    exact s_aret (pc := 76) dX4_nameOf_76 rfl rfl
  refine s_sw (fun hx3 => ?_) (fun hx3 => ?_)
  · refine s_tin (pc := 1) 77 dX4_nameOf_1 (by rw [hx3]; decide) (by rw [hx3]; decide) (by rw [hx3]; rfl) rfl ?_
    refine s_ldcS (pc := 77) 3 dX4_nameOf_77 (show (RX4, 142, 3) ∈ strRefs by decide +kernel) ?_
    exact s_aret (pc := 79) dX4_nameOf_79 rfl rfl
  refine s_sw (fun hx4 => ?_) (fun hx4 => ?_)
  · refine s_tin (pc := 1) 80 dX4_nameOf_1 (by rw [hx4]; decide) (by rw [hx4]; decide) (by rw [hx4]; rfl) rfl ?_
    refine s_ldcS (pc := 80) 4 dX4_nameOf_80 (show (RX4, 144, 4) ∈ strRefs by decide +kernel) ?_
    exact s_aret (pc := 82) dX4_nameOf_82 rfl rfl
  refine s_sw (fun hx5 => ?_) (fun hx5 => ?_)
  · refine s_tin (pc := 1) 83 dX4_nameOf_1 (by rw [hx5]; decide) (by rw [hx5]; decide) (by rw [hx5]; rfl) rfl ?_
    refine s_ldcS (pc := 83) 5 dX4_nameOf_83 (show (RX4, 146, 5) ∈ strRefs by decide +kernel) ?_
    exact s_aret (pc := 85) dX4_nameOf_85 rfl rfl
  refine s_sw (fun hx6 => ?_) (fun hx6 => ?_)
  · refine s_tin (pc := 1) 86 dX4_nameOf_1 (by rw [hx6]; decide) (by rw [hx6]; decide) (by rw [hx6]; rfl) rfl ?_
    refine s_ldcS (pc := 86) 6 dX4_nameOf_86 (show (RX4, 148, 6) ∈ strRefs by decide +kernel) ?_
    exact s_aret (pc := 88) dX4_nameOf_88 rfl rfl
  refine s_sw (fun hx7 => ?_) (fun hx7 => ?_)
  · refine s_tin (pc := 1) 89 dX4_nameOf_1 (by rw [hx7]; decide) (by rw [hx7]; decide) (by rw [hx7]; rfl) rfl ?_
    refine s_ldcS (pc := 89) 7 dX4_nameOf_89 (show (RX4, 150, 7) ∈ strRefs by decide +kernel) ?_
    exact s_aret (pc := 91) dX4_nameOf_91 rfl rfl
  refine s_sw (fun hx8 => ?_) (fun hx8 => ?_)
  · refine s_tin (pc := 1) 92 dX4_nameOf_1 (by rw [hx8]; decide) (by rw [hx8]; decide) (by rw [hx8]; rfl) rfl ?_
    refine s_ldcS (pc := 92) 8 dX4_nameOf_92 (show (RX4, 152, 8) ∈ strRefs by decide +kernel) ?_
    exact s_aret (pc := 94) dX4_nameOf_94 rfl rfl
  refine s_sw (fun hx9 => ?_) (fun hx9 => ?_)
  · refine s_tin (pc := 1) 95 dX4_nameOf_1 (by rw [hx9]; decide) (by rw [hx9]; decide) (by rw [hx9]; rfl) rfl ?_
    refine s_ldcS (pc := 95) 9 dX4_nameOf_95 (show (RX4, 154, 9) ∈ strRefs by decide +kernel) ?_
    exact s_aret (pc := 97) dX4_nameOf_97 rfl rfl
  refine s_sw (fun hx10 => ?_) (fun hx10 => ?_)
  · refine s_tin (pc := 1) 98 dX4_nameOf_1 (by rw [hx10]; decide) (by rw [hx10]; decide) (by rw [hx10]; rfl) rfl ?_
    refine s_ldcS (pc := 98) 10 dX4_nameOf_98 (show (RX4, 156, 10) ∈ strRefs by decide +kernel) ?_
    exact s_aret (pc := 100) dX4_nameOf_100 rfl rfl
  refine s_sw (fun hx11 => ?_) (fun hx11 => ?_)
  · refine s_tin (pc := 1) 101 dX4_nameOf_1 (by rw [hx11]; decide) (by rw [hx11]; decide) (by rw [hx11]; rfl) rfl ?_
    refine s_ldcS (pc := 101) 11 dX4_nameOf_101 (show (RX4, 158, 11) ∈ strRefs by decide +kernel) ?_
    exact s_aret (pc := 103) dX4_nameOf_103 rfl rfl
  refine s_sw (fun hx12 => ?_) (fun hx12 => ?_)
  · refine s_tin (pc := 1) 104 dX4_nameOf_1 (by rw [hx12]; decide) (by rw [hx12]; decide) (by rw [hx12]; rfl) rfl ?_
    refine s_ldcS (pc := 104) 12 dX4_nameOf_104 (show (RX4, 160, 12) ∈ strRefs by decide +kernel) ?_
    exact s_aret (pc := 106) dX4_nameOf_106 rfl rfl
  refine s_tout (pc := 1) 107 dX4_nameOf_1 (Classical.byContradiction fun hq => ?_) rfl ?_
  · have h9 : Int32.toInt v0 = 0 ∨ Int32.toInt v0 = 1 ∨ Int32.toInt v0 = 2 ∨ Int32.toInt v0 = 3 ∨ Int32.toInt v0 = 4 ∨ Int32.toInt v0 = 5 ∨ Int32.toInt v0 = 6 ∨ Int32.toInt v0 = 7 ∨ Int32.toInt v0 = 8 ∨ Int32.toInt v0 = 9 ∨ Int32.toInt v0 = 10 ∨ Int32.toInt v0 = 11 ∨ Int32.toInt v0 = 12 := by omega
    rcases h9 with h9 | h9 | h9 | h9 | h9 | h9 | h9 | h9 | h9 | h9 | h9 | h9 | h9
    · exact hx0 (Int32.toInt_inj.mp h9)
    · exact hx1 (Int32.toInt_inj.mp h9)
    · exact hx2 (Int32.toInt_inj.mp h9)
    · exact hx3 (Int32.toInt_inj.mp h9)
    · exact hx4 (Int32.toInt_inj.mp h9)
    · exact hx5 (Int32.toInt_inj.mp h9)
    · exact hx6 (Int32.toInt_inj.mp h9)
    · exact hx7 (Int32.toInt_inj.mp h9)
    · exact hx8 (Int32.toInt_inj.mp h9)
    · exact hx9 (Int32.toInt_inj.mp h9)
    · exact hx10 (Int32.toInt_inj.mp h9)
    · exact hx11 (Int32.toInt_inj.mp h9)
    · exact hx12 (Int32.toInt_inj.mp h9)
  · refine s_ldcS (pc := 107) 13 dX4_nameOf_107 (show (RX4, 162, 13) ∈ strRefs by decide +kernel) ?_
    exact s_aret (pc := 109) dX4_nameOf_109 rfl rfl
def Re_wordTold_2    (P : PH) : Nat → Int32 → Option (Int32)
  | 0 => fun _ => none
  | n + 1 => fun v1 =>
    if (14 : Int32) ≤ v1 then
      some (-1 : Int32)
    else
      (Re_nameOf v1 P).bind fun (x10 : Nat) =>
      gdP (x10 < 14) <|
      (Re_isSpelled x10 P).bind fun (x13 : Int32) =>
      if x13 = 0 then
        Re_wordTold_2 P n (v1 + 1)
      else
        some v1
set_option maxRecDepth 100000 in
set_option maxHeartbeats 4000000 in
theorem Re_wordTold_2_sem {G : GT} {l : Launch} (hG : GOK G l)   (P : PH)   : ∀ (n : Nat) (v1 : Int32), Sem G l miX4_wordTold 0 0 (rn (tI P)) 2 [(0, .ref (gA G 71)), (1, .int v1)] [] P (Re_wordTold_2 P n v1) := by
  intro n
  induction n with
  | zero => intro v1; exact s_none rfl
  | succ n ih =>
    intro v1
    rw [Re_wordTold_2]
    refine s_iload_n (pc := 2) 1 dX4_wordTold_2 rfl rfl ?_
    refine s_bipush (pc := 3) (v := 14) dX4_wordTold_3 rfl ?_
    refine s_icmp_ge (pc := 5) 27 dX4_wordTold_5 rfl ?_ ?_
    · refine s_iconst (pc := 27) (v := -1) dX4_wordTold_27 rfl ?_
      exact s_iret (pc := 28) dX4_wordTold_28 rfl rfl
    · refine s_aload_n (pc := 8) 0 dX4_wordTold_8 rfl rfl ?_
      refine s_iload_n (pc := 9) 1 dX4_wordTold_9 rfl rfl ?_
      refine s_callS (k := 0) (n := 0) (pc := 10) [.int v1] (fun x10 => .ref (gK G x10) :: [.ref (gA G 71)]) (fun _ => P) dX4_wordTold_10 (cS_X4_119 hG) (Nat.le_of_ble_eq_true rfl) rfl (Re_nameOf_ok hG v1 P) rfl (fun _ => rfl) (fun _ => rfl) (Nat.le_of_ble_eq_true rfl) rfl rfl (fun x10 => ?_)
      refine s_guard (fun hk10 => ?_)
      refine s_callV (k := 0) (n := 0) (pc := 13) [.ref (gK G x10)] (fun x13 => .int x13 :: []) (fun _ => P) dX4_wordTold_13 (cV_X4_123 hG) (Nat.le_of_ble_eq_true rfl) rfl kd_71 (Re_isSpelled_ok hG x10 hk10 P) rfl (fun _ => rfl) (fun _ => rfl) (Nat.le_of_ble_eq_true rfl) rfl rfl (fun x13 => ?_)
      refine s_if_eq (pc := 16) 21 dX4_wordTold_16 rfl ?_ ?_
      · refine s_iinc (pc := 21) 1 1 [(1, .int (v1 + 1)), (0, .ref (gA G 71))] dX4_wordTold_21 rfl rfl (Nat.le_of_ble_eq_true rfl) rfl ?_
        refine s_goto (pc := 24) 2 dX4_wordTold_24 rfl ?_
        refine s_sub [1, 0] rfl ?_
        exact ih (v1 + 1)
      · refine s_iload_n (pc := 19) 1 dX4_wordTold_19 rfl rfl ?_
        exact s_iret (pc := 20) dX4_wordTold_20 rfl rfl
def Re_wordTold   (P : PH) : Option (Int32) :=
  Re_wordTold_2 P bigN (0 : Int32)
set_option maxRecDepth 100000 in
set_option maxHeartbeats 4000000 in
theorem Re_wordTold_ok {G : GT} {l : Launch} (hG : GOK G l)   (P : PH) : OkN G l yX4_wordTold miX4_wordTold 0 0 (tI P) [.ref (gA G 71)] P (Re_wordTold P) := by
  refine okN_of hG _ [(0, .ref (gA G 71))] rfl rfl rfl (Nat.le_of_ble_eq_true rfl) rfl ?_
  unfold Re_wordTold
  refine s_iconst (pc := 0) (v := 0) dX4_wordTold_0 rfl ?_
  refine s_istore_n (pc := 1) [(1, .int ((0 : Int32))), (0, .ref (gA G 71))] dX4_wordTold_1 rfl (Nat.le_of_ble_eq_true rfl) rfl ?_
  refine s_sub [1, 0] rfl ?_
  exact Re_wordTold_2_sem hG P bigN (0 : Int32)
def Re_number_36    (P : PH) : Option (Int32 × PH) :=
  (Re_fail (3 : Int32) P).bind fun (x38 : PH) =>
  some (x38.1 71 9, x38)
set_option maxRecDepth 100000 in
set_option maxHeartbeats 4000000 in
theorem Re_number_36_sem {G : GT} {l : Launch} (hG : GOK G l)   (P : PH)   : Sem G l miX4_number 0 0 (rn tIH) 36 [(0, .ref (gA G 71))] [] P (Re_number_36 P) := by
  unfold Re_number_36
  refine s_aload_n (pc := 36) 0 dX4_number_36 rfl rfl ?_
  refine s_iconst (pc := 37) (v := 3) dX4_number_37 rfl ?_
  refine s_callV (k := 0) (n := 0) (pc := 38) [.int ((3 : Int32))] (fun _ => []) (fun x38 => x38) dX4_number_38 (cV_X4_77 hG) (Nat.le_of_ble_eq_true rfl) rfl kd_71 (Re_fail_ok hG (3 : Int32) P) rfl (fun _ => rfl) (fun _ => rfl) (Nat.le_of_ble_eq_true rfl) rfl rfl (fun x38 => ?_)
  refine s_aload_n (pc := 41) 0 dX4_number_41 rfl rfl ?_
  refine s_getI (pc := 42) dX4_number_42 (fi_X4_96 hG) kd_71 ?_
  exact s_iret (pc := 45) dX4_number_45 rfl rfl
def Re_number  (v1 : Int32) (v2 : Int32) (P : PH) : Option (Int32 × PH) :=
  (Re_token P).bind fun (x1 : PH) =>
  if (x1.1 71 7) = (2 : Int32) then
    if (x1.1 71 9) < v1 then
      Re_number_36 x1
    else
      if (x1.1 71 9) ≤ v2 then
        some (x1.1 71 9, x1)
      else
        Re_number_36 x1
  else
    (Re_fail (2 : Int32) x1).bind fun (x14 : PH) =>
    some (x14.1 71 9, x14)
set_option maxRecDepth 100000 in
set_option maxHeartbeats 4000000 in
theorem Re_number_ok {G : GT} {l : Launch} (hG : GOK G l)  (v1 : Int32) (v2 : Int32) (P : PH) : OkN G l yX4_number miX4_number 0 0 tIH [.ref (gA G 71), .int v1, .int v2] P (Re_number v1 v2 P) := by
  refine okN_of hG _ [(0, .ref (gA G 71)), (1, .int v1), (2, .int v2)] rfl rfl rfl (Nat.le_of_ble_eq_true rfl) rfl ?_
  unfold Re_number
  refine s_aload_n (pc := 0) 0 dX4_number_0 rfl rfl ?_
  refine s_callV (k := 0) (n := 0) (pc := 1) [] (fun _ => []) (fun x1 => x1) dX4_number_1 (cV_X4_53 hG) (Nat.le_of_ble_eq_true rfl) rfl kd_71 (Re_token_ok hG P) rfl (fun _ => rfl) (fun _ => rfl) (Nat.le_of_ble_eq_true rfl) rfl rfl (fun x1 => ?_)
  refine s_aload_n (pc := 4) 0 dX4_number_4 rfl rfl ?_
  refine s_getI (pc := 5) dX4_number_5 (fi_X4_56 hG) kd_71 ?_
  refine s_iconst (pc := 8) (v := 2) dX4_number_8 rfl ?_
  refine s_icmp_eq (pc := 9) 20 dX4_number_9 rfl ?_ ?_
  · refine s_aload_n (pc := 20) 0 dX4_number_20 rfl rfl ?_
    refine s_getI (pc := 21) dX4_number_21 (fi_X4_96 hG) kd_71 ?_
    refine s_iload_n (pc := 24) 1 dX4_number_24 rfl rfl ?_
    refine s_icmp_lt (pc := 25) 36 dX4_number_25 rfl ?_ ?_
    · refine s_sub [0] rfl ?_
      exact Re_number_36_sem hG x1
    · refine s_aload_n (pc := 28) 0 dX4_number_28 rfl rfl ?_
      refine s_getI (pc := 29) dX4_number_29 (fi_X4_96 hG) kd_71 ?_
      refine s_iload_n (pc := 32) 2 dX4_number_32 rfl rfl ?_
      refine s_icmp_le (pc := 33) 41 dX4_number_33 rfl ?_ ?_
      · refine s_aload_n (pc := 41) 0 dX4_number_41 rfl rfl ?_
        refine s_getI (pc := 42) dX4_number_42 (fi_X4_96 hG) kd_71 ?_
        exact s_iret (pc := 45) dX4_number_45 rfl rfl
      · refine s_sub [0] rfl ?_
        exact Re_number_36_sem hG x1
  · refine s_aload_n (pc := 12) 0 dX4_number_12 rfl rfl ?_
    refine s_iconst (pc := 13) (v := 2) dX4_number_13 rfl ?_
    refine s_callV (k := 0) (n := 0) (pc := 14) [.int ((2 : Int32))] (fun _ => []) (fun x14 => x14) dX4_number_14 (cV_X4_77 hG) (Nat.le_of_ble_eq_true rfl) rfl kd_71 (Re_fail_ok hG (2 : Int32) x1) rfl (fun _ => rfl) (fun _ => rfl) (Nat.le_of_ble_eq_true rfl) rfl rfl (fun x14 => ?_)
    refine s_goto (pc := 17) 41 dX4_number_17 rfl ?_
    refine s_aload_n (pc := 41) 0 dX4_number_41 rfl rfl ?_
    refine s_getI (pc := 42) dX4_number_42 (fi_X4_96 hG) kd_71 ?_
    exact s_iret (pc := 45) dX4_number_45 rfl rfl
