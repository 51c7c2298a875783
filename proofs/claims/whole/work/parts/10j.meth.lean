def Bs_kthSame_43  (r4 : Int32 → Int32 → PH → Option (Int32 × PH)) (v1 : Int32) (v2 : Int32) (v3 : Int32) (P : PH) : Option (Int32 × PH) :=
  (Ne_wayOf 43 v3 P).bind fun (x52 : Int32) =>
  (Ne_go 45 x52 P).bind fun (x55 : Int32 × PH) =>
  r4 v2 (v3 + 1) x55.2
set_option maxRecDepth 100000 in
set_option maxHeartbeats 4000000 in
theorem Bs_kthSame_43_sem {G : GT} {l : Launch} (hG : GOK G l)  (v1 : Int32) (v2 : Int32) (v3 : Int32) (P : PH)  (r4 : Int32 → Int32 → PH → Option (Int32 × PH)) (hr4 : ∀ (v2 : Int32) (v3 : Int32) (P : PH), Sem G l miX10_kthSame 0 0 (rn tIH) 4 [(0, .ref (gA G 0)), (1, .int v1), (2, .int v2), (3, .int v3)] [] P (r4 v2 v3 P)) : Sem G l miX10_kthSame 0 0 (rn tIH) 43 [(0, .ref (gA G 0)), (1, .int v1), (2, .int v2), (3, .int v3)] [] P (Bs_kthSame_43 r4 v1 v2 v3 P) := by
  unfold Bs_kthSame_43
  refine s_aload_n (pc := 43) 0 dX10_kthSame_43 rfl rfl ?_
  refine s_getR (pc := 44) 45 dX10_kthSame_44 (fi_X10_65 hG) kd_0 rfl ?_
  refine s_aload_n (pc := 47) 0 dX10_kthSame_47 rfl rfl ?_
  refine s_getR (pc := 48) 43 dX10_kthSame_48 (fi_X10_61 hG) kd_0 rfl ?_
  refine s_iload_n (pc := 51) 3 dX10_kthSame_51 rfl rfl ?_
  refine s_callV (k := 0) (n := 0) (pc := 52) [.int v3] (fun x52 => .int x52 :: [.ref (gA G 45)]) (fun _ => P) dX10_kthSame_52 (cV_X10_241 hG) (Nat.le_of_ble_eq_true rfl) rfl kd_43 (Ne_wayOf_ok hG 43 kd_43 v3 P) rfl (fun _ => rfl) (fun _ => rfl) (Nat.le_of_ble_eq_true rfl) rfl rfl (fun x52 => ?_)
  refine s_callV (k := 0) (n := 0) (pc := 55) [.int x52] (fun x55 => .int (x55.1) :: []) (fun x55 => x55.2) dX10_kthSame_55 (cV_X10_218 hG) (Nat.le_of_ble_eq_true rfl) rfl kd_45 (Ne_go_ok hG 45 kd_45 x52 P) rfl (fun _ => rfl) (fun _ => rfl) (Nat.le_of_ble_eq_true rfl) rfl rfl (fun x55 => ?_)
  refine s_pop (pc := 58) dX10_kthSame_58 rfl ?_
  refine s_iinc (pc := 59) 3 1 [(3, .int (v3 + 1)), (0, .ref (gA G 0)), (1, .int v1), (2, .int v2)] dX10_kthSame_59 rfl rfl (Nat.le_of_ble_eq_true rfl) rfl ?_
  refine s_goto (pc := 62) 4 dX10_kthSame_62 rfl ?_
  refine s_sub [1, 2, 3, 0] rfl ?_
  exact hr4 v2 (v3 + 1) x55.2
def Bs_kthSame_4   (v1 : Int32)  : Nat → Int32 → Int32 → PH → Option (Int32 × PH)
  | 0 => fun _ _ _ => none
  | n + 1 => fun v2 v3 P =>
    if (P.1 43 6) < v3 then
      some ((-1 : Int32), P)
    else
      if (lg_cmp (P.2 45 0) (P.2 45 1)) = 0 then
        if v2 = v1 then
          some (v3, P)
        else
          Bs_kthSame_43 (Bs_kthSame_4 v1 n) v1 (v2 + 1) v3 P
      else
        Bs_kthSame_43 (Bs_kthSame_4 v1 n) v1 v2 v3 P
set_option maxRecDepth 100000 in
set_option maxHeartbeats 4000000 in
theorem Bs_kthSame_4_sem {G : GT} {l : Launch} (hG : GOK G l)  (v1 : Int32)    : ∀ (n : Nat) (v2 : Int32) (v3 : Int32) (P : PH), Sem G l miX10_kthSame 0 0 (rn tIH) 4 [(0, .ref (gA G 0)), (1, .int v1), (2, .int v2), (3, .int v3)] [] P (Bs_kthSame_4 v1 n v2 v3 P) := by
  intro n
  induction n with
  | zero => intro v2 v3 P; exact s_none rfl
  | succ n ih =>
    intro v2 v3 P
    rw [Bs_kthSame_4]
    refine s_iload_n (pc := 4) 3 dX10_kthSame_4 rfl rfl ?_
    refine s_aload_n (pc := 5) 0 dX10_kthSame_5 rfl rfl ?_
    refine s_getR (pc := 6) 43 dX10_kthSame_6 (fi_X10_61 hG) kd_0 rfl ?_
    refine s_getI (pc := 9) dX10_kthSame_9 (fi_X10_212 hG) kd_43 ?_
    refine s_icmp_gt (pc := 12) 65 dX10_kthSame_12 rfl ?_ ?_
    · refine s_iconst (pc := 65) (v := -1) dX10_kthSame_65 rfl ?_
      exact s_iret (pc := 66) dX10_kthSame_66 rfl rfl
    · refine s_aload_n (pc := 15) 0 dX10_kthSame_15 rfl rfl ?_
      refine s_getR (pc := 16) 45 dX10_kthSame_16 (fi_X10_65 hG) kd_0 rfl ?_
      refine s_getL (pc := 19) dX10_kthSame_19 (fi_X10_316 hG) kd_45 ?_
      refine s_aload_n (pc := 22) 0 dX10_kthSame_22 rfl rfl ?_
      refine s_getR (pc := 23) 45 dX10_kthSame_23 (fi_X10_65 hG) kd_0 rfl ?_
      refine s_getL (pc := 26) dX10_kthSame_26 (fi_X10_320 hG) kd_45 ?_
      refine s_lcmp (pc := 29) dX10_kthSame_29 ?_
      refine s_if_ne (pc := 30) 43 dX10_kthSame_30 rfl ?_ ?_
      · refine s_iload_n (pc := 33) 2 dX10_kthSame_33 rfl rfl ?_
        refine s_iload_n (pc := 34) 1 dX10_kthSame_34 rfl rfl ?_
        refine s_icmp_ne (pc := 35) 40 dX10_kthSame_35 rfl ?_ ?_
        · refine s_iload_n (pc := 38) 3 dX10_kthSame_38 rfl rfl ?_
          exact s_iret (pc := 39) dX10_kthSame_39 rfl rfl
        · refine s_iinc (pc := 40) 2 1 [(2, .int (v2 + 1)), (0, .ref (gA G 0)), (1, .int v1), (3, .int v3)] dX10_kthSame_40 rfl rfl (Nat.le_of_ble_eq_true rfl) rfl ?_
          refine s_sub [1, 2, 0, 3] rfl ?_
          exact Bs_kthSame_43_sem hG v1 (v2 + 1) v3 P (Bs_kthSame_4 v1 n) ih
      · exact Bs_kthSame_43_sem hG v1 v2 v3 P (Bs_kthSame_4 v1 n) ih
def Bs_kthSame  (v1 : Int32) (P : PH) : Option (Int32 × PH) :=
  Bs_kthSame_4 v1 bigN (0 : Int32) (0 : Int32) P
set_option maxRecDepth 100000 in
set_option maxHeartbeats 4000000 in
theorem Bs_kthSame_ok {G : GT} {l : Launch} (hG : GOK G l)  (v1 : Int32) (P : PH) : OkN G l yX10_kthSame miX10_kthSame 0 0 tIH [.ref (gA G 0), .int v1] P (Bs_kthSame v1 P) := by
  refine okN_of hG _ [(0, .ref (gA G 0)), (1, .int v1)] rfl rfl rfl (Nat.le_of_ble_eq_true rfl) rfl ?_
  unfold Bs_kthSame
  refine s_iconst (pc := 0) (v := 0) dX10_kthSame_0 rfl ?_
  refine s_istore_n (pc := 1) [(2, .int ((0 : Int32))), (0, .ref (gA G 0)), (1, .int v1)] dX10_kthSame_1 rfl (Nat.le_of_ble_eq_true rfl) rfl ?_
  refine s_iconst (pc := 2) (v := 0) dX10_kthSame_2 rfl ?_
  refine s_istore_n (pc := 3) [(3, .int ((0 : Int32))), (2, .int ((0 : Int32))), (0, .ref (gA G 0)), (1, .int v1)] dX10_kthSame_3 rfl (Nat.le_of_ble_eq_true rfl) rfl ?_
  refine s_sub [2, 3, 1, 0] rfl ?_
  exact Bs_kthSame_4_sem hG v1 bigN (0 : Int32) (0 : Int32) P
def Bs_sameAt_40   (v1 : Int32) (P : PH) : Option ((String ⊕ Int32) × PH) :=
  (Bs_kthSame v1 P).bind fun (x42 : Int32 × PH) =>
  some (Sum.inr (x42.1), x42.2)
set_option maxRecDepth 100000 in
set_option maxHeartbeats 4000000 in
theorem Bs_sameAt_40_sem {G : GT} {l : Launch} (hG : GOK G l)  (v1 : Int32) (P : PH)   : Sem G l miX10_sameAt 0 0 xIH 40 [(0, .ref (gA G 0)), (1, .int v1)] [] P (Bs_sameAt_40 v1 P) := by
  unfold Bs_sameAt_40
  refine s_aload_n (pc := 40) 0 dX10_sameAt_40 rfl rfl ?_
  refine s_iload_n (pc := 41) 1 dX10_sameAt_41 rfl rfl ?_
  refine s_callV (k := 0) (n := 0) (pc := 42) [.int v1] (fun x42 => .int (x42.1) :: []) (fun x42 => x42.2) dX10_sameAt_42 (cV_X10_323 hG) (Nat.le_of_ble_eq_true rfl) rfl kd_0 (Bs_kthSame_ok hG v1 P) rfl (fun _ => rfl) (fun _ => rfl) (Nat.le_of_ble_eq_true rfl) rfl rfl (fun x42 => ?_)
  exact s_iret (pc := 45) dX10_sameAt_45 rfl rfl
def Bs_sameAt_23   (v1 : Int32)  : Nat → Int32 → PH → Option ((String ⊕ Int32) × PH)
  | 0 => fun _ _ => none
  | n + 1 => fun v2 P =>
    if v2 ≤ 0 then
      Bs_sameAt_40 v1 P
    else
      (Ne_goBack 45 P).bind fun (x31 : PH) =>
      Bs_sameAt_23 v1 n (v2 + (-1)) x31
set_option maxRecDepth 100000 in
set_option maxHeartbeats 4000000 in
theorem Bs_sameAt_23_sem {G : GT} {l : Launch} (hG : GOK G l)  (v1 : Int32)    : ∀ (n : Nat) (v2 : Int32) (P : PH), Sem G l miX10_sameAt 0 0 xIH 23 [(0, .ref (gA G 0)), (1, .int v1), (2, .int v2)] [] P (Bs_sameAt_23 v1 n v2 P) := by
  intro n
  induction n with
  | zero => intro v2 P; exact s_none rfl
  | succ n ih =>
    intro v2 P
    rw [Bs_sameAt_23]
    refine s_iload_n (pc := 23) 2 dX10_sameAt_23 rfl rfl ?_
    refine s_if_le (pc := 24) 40 dX10_sameAt_24 rfl ?_ ?_
    · refine s_sub [0, 1] rfl ?_
      exact Bs_sameAt_40_sem hG v1 P
    · refine s_aload_n (pc := 27) 0 dX10_sameAt_27 rfl rfl ?_
      refine s_getR (pc := 28) 45 dX10_sameAt_28 (fi_X10_65 hG) kd_0 rfl ?_
      refine s_callV (k := 0) (n := 0) (pc := 31) [] (fun _ => []) (fun x31 => x31) dX10_sameAt_31 (cV_X10_223 hG) (Nat.le_of_ble_eq_true rfl) rfl kd_45 (Ne_goBack_ok hG 45 kd_45 P) rfl (fun _ => rfl) (fun _ => rfl) (Nat.le_of_ble_eq_true rfl) rfl rfl (fun x31 => ?_)
      refine s_iinc (pc := 34) 2 (-1) [(2, .int (v2 + (-1))), (0, .ref (gA G 0)), (1, .int v1)] dX10_sameAt_34 rfl rfl (Nat.le_of_ble_eq_true rfl) rfl ?_
      refine s_goto (pc := 37) 23 dX10_sameAt_37 rfl ?_
      refine s_sub [1, 2, 0] rfl ?_
      exact ih (v2 + (-1)) x31
def Bs_sameAt  (v1 : Int32) (P : PH) : Option ((String ⊕ Int32) × PH) :=
  (Bs_checkThread P).bind fun (x1 : String ⊕ Unit) =>
  Sum.elim (fun E => some (Sum.inl E, P)) (fun (w1 : Unit) =>
    (Ne_copy 45 43 P).bind fun (x12 : PH) =>
    (some (x12.1 45 6)).bind fun (u2_22 : Int32) =>
    Bs_sameAt_23 v1 bigN u2_22 x12) x1
set_option maxRecDepth 100000 in
set_option maxHeartbeats 4000000 in
theorem Bs_sameAt_ok {G : GT} {l : Launch} (hG : GOK G l)  (v1 : Int32) (P : PH) : OkT G l yX10_sameAt miX10_sameAt 1 6 xIH [.ref (gA G 0), .int v1] P (Bs_sameAt v1 P) := by
  refine okT_of hG _ [(0, .ref (gA G 0)), (1, .int v1)] rfl rfl rfl (Nat.le_of_ble_eq_true rfl) rfl ?_
  unfold Bs_sameAt
  refine s_aload_n (pc := 0) 0 dX10_sameAt_0 rfl rfl ?_
  refine s_callVTp (k := 0) (n := 0) (pc := 1) [] (fun w => []) (fun E => (Sum.inl E, P)) dX10_sameAt_1 (cV_X10_206 hG) (Nat.le_of_ble_eq_true rfl) rfl kd_0 (Bs_checkThread_ok hG P) rfl rfl (fun _ => rfl) (Nat.le_of_ble_eq_true rfl) rfl rfl (fun _ => rfl) (fun w1 => ?_)
  refine s_aload_n (pc := 4) 0 dX10_sameAt_4 rfl rfl ?_
  refine s_getR (pc := 5) 45 dX10_sameAt_5 (fi_X10_65 hG) kd_0 rfl ?_
  refine s_aload_n (pc := 8) 0 dX10_sameAt_8 rfl rfl ?_
  refine s_getR (pc := 9) 43 dX10_sameAt_9 (fi_X10_61 hG) kd_0 rfl ?_
  refine s_callV (k := 0) (n := 0) (pc := 12) [.ref (gA G 43)] (fun _ => []) (fun x12 => x12) dX10_sameAt_12 (cV_X10_254 hG) (Nat.le_of_ble_eq_true rfl) rfl kd_45 (Ne_copy_ok hG 45 kd_45 43 kd_43 P) rfl (fun _ => rfl) (fun _ => rfl) (Nat.le_of_ble_eq_true rfl) rfl rfl (fun x12 => ?_)
  refine s_aload_n (pc := 15) 0 dX10_sameAt_15 rfl rfl ?_
  refine s_getR (pc := 16) 45 dX10_sameAt_16 (fi_X10_65 hG) kd_0 rfl ?_
  refine s_getI (pc := 19) dX10_sameAt_19 (fi_X10_212 hG) kd_45 ?_
  refine s_letI (fun u2_22 => ?_)
  refine s_istore_n (pc := 22) [(2, .int u2_22), (0, .ref (gA G 0)), (1, .int v1)] dX10_sameAt_22 rfl (Nat.le_of_ble_eq_true rfl) rfl ?_
  refine s_sub [1, 2, 0] rfl ?_
  exact Bs_sameAt_23_sem hG v1 bigN u2_22 x12
def Bs_unlike  (v1 : Int32) (P : PH) : Option ((String ⊕ Int32)) :=
  (Bs_checkHole v1 P).bind fun (x1 : String ⊕ Unit) =>
  Sum.elim (fun E => some (Sum.inl E)) (fun (w1 : Unit) =>
    (Dr_linesAt 3 v1 P).bind fun (x9 : Int64) =>
    (Jl_bitCount (x9 &&& ((P.2 43 0) ^^^ (P.2 43 1))) P).bind fun (x28 : Int32) =>
    some (Sum.inr x28)) x1
set_option maxRecDepth 100000 in
set_option maxHeartbeats 4000000 in
theorem Bs_unlike_ok {G : GT} {l : Launch} (hG : GOK G l)  (v1 : Int32) (P : PH) : OkT G l yX10_unlike miX10_unlike 1 6 (xI P) [.ref (gA G 0), .int v1] P (Bs_unlike v1 P) := by
  refine okT_of hG _ [(0, .ref (gA G 0)), (1, .int v1)] rfl rfl rfl (Nat.le_of_ble_eq_true rfl) rfl ?_
  unfold Bs_unlike
  refine s_iload_n (pc := 0) 1 dX10_unlike_0 rfl rfl ?_
  refine s_callSTp (k := 0) (n := 0) (pc := 1) [.int v1] (fun w => []) (fun E => Sum.inl E) dX10_unlike_1 (cS_X10_147 hG) (Nat.le_of_ble_eq_true rfl) rfl (Bs_checkHole_ok hG v1 P) rfl rfl (fun _ => rfl) (Nat.le_of_ble_eq_true rfl) rfl rfl (fun _ => rfl) (fun w1 => ?_)
  refine s_aload_n (pc := 4) 0 dX10_unlike_4 rfl rfl ?_
  refine s_getR (pc := 5) 3 dX10_unlike_5 (fi_X10_28 hG) kd_0 rfl ?_
  refine s_iload_n (pc := 8) 1 dX10_unlike_8 rfl rfl ?_
  refine s_callV (k := 0) (n := 0) (pc := 9) [.int v1] (fun x9 => .long x9 :: []) (fun _ => P) dX10_unlike_9 (cV_X10_160 hG) (Nat.le_of_ble_eq_true rfl) rfl kd_3 (Dr_linesAt_ok hG 3 kd_3 v1 P) rfl (fun _ => rfl) (fun _ => rfl) (Nat.le_of_ble_eq_true rfl) rfl rfl (fun x9 => ?_)
  refine s_aload_n (pc := 12) 0 dX10_unlike_12 rfl rfl ?_
  refine s_getR (pc := 13) 43 dX10_unlike_13 (fi_X10_61 hG) kd_0 rfl ?_
  refine s_getL (pc := 16) dX10_unlike_16 (fi_X10_316 hG) kd_43 ?_
  refine s_aload_n (pc := 19) 0 dX10_unlike_19 rfl rfl ?_
  refine s_getR (pc := 20) 43 dX10_unlike_20 (fi_X10_61 hG) kd_0 rfl ?_
  refine s_getL (pc := 23) dX10_unlike_23 (fi_X10_320 hG) kd_43 ?_
  refine s_lxor (pc := 26) dX10_unlike_26 ?_
  refine s_land (pc := 27) dX10_unlike_27 ?_
  refine s_callS (k := 0) (n := 0) (pc := 28) [.long (x9 &&& ((P.2 43 0) ^^^ (P.2 43 1)))] (fun x28 => .int x28 :: []) (fun _ => P) dX10_unlike_28 (cS_X10_167 hG) (Nat.le_of_ble_eq_true rfl) rfl (Jl_bitCount_ok hG (x9 &&& ((P.2 43 0) ^^^ (P.2 43 1))) P) rfl (fun _ => rfl) (fun _ => rfl) (Nat.le_of_ble_eq_true rfl) rfl rfl (fun x28 => ?_)
  exact s_iret (pc := 31) dX10_unlike_31 rfl rfl
def Bs_tray_26    (P : PH) : Option ((String ⊕ Unit) × PH) :=
  some ((Sum.inl "java/lang/IllegalArgumentException", P))
set_option maxRecDepth 100000 in
set_option maxHeartbeats 4000000 in
theorem Bs_tray_26_sem {G : GT} {l : Launch} (hG : GOK G l)   (P : PH)   : Sem G l miX10_tray 1 6 xVH 26 [] [] P (Bs_tray_26 P) := by
  unfold Bs_tray_26
  exact s_throwW (pc := 26) (thr_X10_326 hG) dX10_tray_26 dX10_tray_29 dX10_tray_30 dX10_tray_33 dX10_tray_36 rfl rfl (Nat.le_of_ble_eq_true rfl) (Nat.le_of_ble_eq_true rfl) (Nat.le_of_ble_eq_true rfl)
def Bs_tray  (v1 : Int32) (v2 : Int32) (v3 : Int32) (P : PH) : Option ((String ⊕ Unit) × PH) :=
  (Bs_checkTray v1 P).bind fun (x2 : String ⊕ Nat) =>
  Sum.elim (fun E => some (Sum.inl E, P)) (fun (w2 : Nat) =>
    gdP (kd w2 = 8) <|
    if v2 < 0 then
      Bs_tray_26 P
    else
      if (3 : Int32) < v2 then
        Bs_tray_26 P
      else
        if v3 < 0 then
          Bs_tray_26 P
        else
          if v3 ≤ (40 : Int32) then
            (Tr_lay w2 v2 v3 P).bind fun (x41 : PH) =>
            some (Sum.inr (), x41)
          else
            Bs_tray_26 P) x2
set_option maxRecDepth 100000 in
set_option maxHeartbeats 4000000 in
theorem Bs_tray_ok {G : GT} {l : Launch} (hG : GOK G l)  (v1 : Int32) (v2 : Int32) (v3 : Int32) (P : PH) : OkT G l yX10_tray miX10_tray 2 12 xVH [.ref (gA G 0), .int v1, .int v2, .int v3] P (Bs_tray v1 v2 v3 P) := by
  refine okT_of hG _ [(0, .ref (gA G 0)), (1, .int v1), (2, .int v2), (3, .int v3)] rfl rfl rfl (Nat.le_of_ble_eq_true rfl) rfl ?_
  unfold Bs_tray
  refine s_aload_n (pc := 0) 0 dX10_tray_0 rfl rfl ?_
  refine s_iload_n (pc := 1) 1 dX10_tray_1 rfl rfl ?_
  refine s_callVTp (k := 1) (n := 6) (pc := 2) [.int v1] (fun w => .ref (gA G w) :: []) (fun E => (Sum.inl E, P)) dX10_tray_2 (cV_X10_244 hG) (Nat.le_of_ble_eq_true rfl) rfl kd_0 (Bs_checkTray_ok hG v1 P) rfl rfl (fun _ => rfl) (Nat.le_of_ble_eq_true rfl) rfl rfl (fun _ => rfl) (fun w2 => ?_)
  refine s_guard (fun hk2 => ?_)
  refine s_astore (pc := 5) [(4, .ref (gA G w2)), (0, .ref (gA G 0)), (1, .int v1), (2, .int v2), (3, .int v3)] dX10_tray_5 (Nat.le_of_ble_eq_true rfl) rfl ?_
  refine s_iload_n (pc := 7) 3 dX10_tray_7 rfl rfl ?_
  refine s_if_lt (pc := 8) 26 dX10_tray_8 rfl ?_ ?_
  · refine s_sub [] rfl ?_
    exact Bs_tray_26_sem hG P
  · refine s_iload_n (pc := 11) 3 dX10_tray_11 rfl rfl ?_
    refine s_iconst (pc := 12) (v := 3) dX10_tray_12 rfl ?_
    refine s_icmp_gt (pc := 13) 26 dX10_tray_13 rfl ?_ ?_
    · refine s_sub [] rfl ?_
      exact Bs_tray_26_sem hG P
    · refine s_iload_n (pc := 16) 4 dX10_tray_16 rfl rfl ?_
      refine s_if_lt (pc := 17) 26 dX10_tray_17 rfl ?_ ?_
      · refine s_sub [] rfl ?_
        exact Bs_tray_26_sem hG P
      · refine s_iload_n (pc := 20) 4 dX10_tray_20 rfl rfl ?_
        refine s_bipush (pc := 21) (v := 40) dX10_tray_21 rfl ?_
        refine s_icmp_le (pc := 23) 37 dX10_tray_23 rfl ?_ ?_
        · refine s_aload (pc := 37) 0 dX10_tray_37 rfl ?_
          refine s_iload_n (pc := 39) 3 dX10_tray_39 rfl rfl ?_
          refine s_iload_n (pc := 40) 4 dX10_tray_40 rfl rfl ?_
          refine s_callV (k := 1) (n := 6) (pc := 41) [.int v2, .int v3] (fun _ => []) (fun x41 => x41) dX10_tray_41 (cV_X10_328 hG) (Nat.le_of_ble_eq_true rfl) rfl hk2 (Tr_lay_ok hG w2 hk2 v2 v3 P) rfl (fun _ => rfl) (fun _ => rfl) (Nat.le_of_ble_eq_true rfl) rfl rfl (fun x41 => ?_)
          exact s_vret (pc := 44) dX10_tray_44 rfl rfl
        · refine s_sub [] rfl ?_
          exact Bs_tray_26_sem hG P
def Bs_write_25    (P : PH) : Option ((String ⊕ Int64) × PH) :=
  some ((Sum.inl "java/lang/IndexOutOfBoundsException", P))
set_option maxRecDepth 100000 in
set_option maxHeartbeats 4000000 in
theorem Bs_write_25_sem {G : GT} {l : Launch} (hG : GOK G l)   (P : PH)   : Sem G l miX10_write 1 6 xLH 25 [] [] P (Bs_write_25 P) := by
  unfold Bs_write_25
  exact s_throwW (pc := 25) (thr_X10_334 hG) dX10_write_25 dX10_write_28 dX10_write_29 dX10_write_32 dX10_write_35 rfl rfl (Nat.le_of_ble_eq_true rfl) (Nat.le_of_ble_eq_true rfl) (Nat.le_of_ble_eq_true rfl)
def Bs_write  (v1 : Int32) (v2 : Int32) (v3 : Int64) (P : PH) : Option ((String ⊕ Int64) × PH) :=
  (Bs_checkTray v1 P).bind fun (x2 : String ⊕ Nat) =>
  Sum.elim (fun E => some (Sum.inl E, P)) (fun (w2 : Nat) =>
    gdP (kd w2 = 8) <|
    (Bs_checkThere w2 P).bind fun (x9 : String ⊕ Unit) =>
    Sum.elim (fun E => some (Sum.inl E, P)) (fun (w9 : Unit) =>
      if v2 < 0 then
        Bs_write_25 P
      else
        if v2 < (P.1 w2 1) then
          (Tr_put w2 v2 v3 P).bind fun (x40 : Int64 × PH) =>
          some (Sum.inr (x40.1), x40.2)
        else
          Bs_write_25 P) x9) x2
set_option maxRecDepth 100000 in
set_option maxHeartbeats 4000000 in
theorem Bs_write_ok {G : GT} {l : Launch} (hG : GOK G l)  (v1 : Int32) (v2 : Int32) (v3 : Int64) (P : PH) : OkT G l yX10_write miX10_write 3 18 xLH [.ref (gA G 0), .int v1, .int v2, .long v3] P (Bs_write v1 v2 v3 P) := by
  refine okT_of hG _ [(0, .ref (gA G 0)), (1, .int v1), (2, .int v2), (3, .long v3)] rfl rfl rfl (Nat.le_of_ble_eq_true rfl) rfl ?_
  unfold Bs_write
  refine s_aload_n (pc := 0) 0 dX10_write_0 rfl rfl ?_
  refine s_iload_n (pc := 1) 1 dX10_write_1 rfl rfl ?_
  refine s_callVTp (k := 2) (n := 12) (pc := 2) [.int v1] (fun w => .ref (gA G w) :: []) (fun E => (Sum.inl E, P)) dX10_write_2 (cV_X10_244 hG) (Nat.le_of_ble_eq_true rfl) rfl kd_0 (Bs_checkTray_ok hG v1 P) rfl rfl (fun _ => rfl) (Nat.le_of_ble_eq_true rfl) rfl rfl (fun _ => rfl) (fun w2 => ?_)
  refine s_guard (fun hk2 => ?_)
  refine s_astore (pc := 5) [(5, .ref (gA G w2)), (0, .ref (gA G 0)), (1, .int v1), (2, .int v2), (3, .long v3)] dX10_write_5 (Nat.le_of_ble_eq_true rfl) rfl ?_
  refine s_aload (pc := 7) 0 dX10_write_7 rfl ?_
  refine s_callSTp (k := 1) (n := 6) (pc := 9) [.ref (gA G w2)] (fun w => []) (fun E => (Sum.inl E, P)) dX10_write_9 (cS_X10_248 hG) (Nat.le_of_ble_eq_true rfl) rfl (Bs_checkThere_ok hG w2 hk2 P) rfl rfl (fun _ => rfl) (Nat.le_of_ble_eq_true rfl) rfl rfl (fun _ => rfl) (fun w9 => ?_)
  refine s_iload_n (pc := 12) 3 dX10_write_12 rfl rfl ?_
  refine s_if_lt (pc := 13) 25 dX10_write_13 rfl ?_ ?_
  · refine s_sub [] rfl ?_
    exact Bs_write_25_sem hG P
  · refine s_iload_n (pc := 16) 3 dX10_write_16 rfl rfl ?_
    refine s_aload (pc := 17) 0 dX10_write_17 rfl ?_
    refine s_getI (pc := 19) dX10_write_19 (fi_X10_261 hG) hk2 ?_
    refine s_icmp_lt (pc := 22) 36 dX10_write_22 rfl ?_ ?_
    · refine s_aload (pc := 36) 0 dX10_write_36 rfl ?_
      refine s_iload_n (pc := 38) 3 dX10_write_38 rfl rfl ?_
      refine s_lload_n (pc := 39) 4 dX10_write_39 rfl rfl ?_
      refine s_callV (k := 1) (n := 6) (pc := 40) [.int v2, .long v3] (fun x40 => .long (x40.1) :: []) (fun x40 => x40.2) dX10_write_40 (cV_X10_337 hG) (Nat.le_of_ble_eq_true rfl) rfl hk2 (Tr_put_ok hG w2 hk2 v2 v3 P) rfl (fun _ => rfl) (fun _ => rfl) (Nat.le_of_ble_eq_true rfl) rfl rfl (fun x40 => ?_)
      exact s_lret (pc := 43) dX10_write_43 rfl rfl
    · refine s_sub [] rfl ?_
      exact Bs_write_25_sem hG P
def Bs_checkImage_13    (P : PH) : Option ((String ⊕ Nat)) :=
  some (Sum.inl "java/util/NoSuchElementException")
set_option maxRecDepth 100000 in
set_option maxHeartbeats 4000000 in
theorem Bs_checkImage_13_sem {G : GT} {l : Launch} (hG : GOK G l)   (P : PH)   : Sem G l miX10_checkImage 1 6 (xR G P) 13 [] [] P (Bs_checkImage_13 P) := by
  unfold Bs_checkImage_13
  exact s_throwNW (pc := 13) (thr_X10_387 hG) dX10_checkImage_13 dX10_checkImage_16 dX10_checkImage_17 dX10_checkImage_20 dX10_checkImage_23 rfl rfl (Nat.le_of_ble_eq_true rfl) (Nat.le_of_ble_eq_true rfl) (Nat.le_of_ble_eq_true rfl)
def Bs_checkImage  (v1 : Int32) (P : PH) : Option ((String ⊕ Nat)) :=
  if v1 < 0 then
    Bs_checkImage_13 P
  else
    if v1 < (3 : Int32) then
      gdI v1 3 <|
      gdP (kd (61 + v1.toNatClampNeg) = 1) <|
      some (Sum.inr (61 + v1.toNatClampNeg))
    else
      Bs_checkImage_13 P
set_option maxRecDepth 100000 in
set_option maxHeartbeats 4000000 in
theorem Bs_checkImage_ok {G : GT} {l : Launch} (hG : GOK G l)  (v1 : Int32) (P : PH) : OkT G l yX10_checkImage miX10_checkImage 1 6 (xR G P) [.ref (gA G 0), .int v1] P (Bs_checkImage v1 P) := by
  refine okT_of hG _ [(0, .ref (gA G 0)), (1, .int v1)] rfl rfl rfl (Nat.le_of_ble_eq_true rfl) rfl ?_
  unfold Bs_checkImage
  refine s_iload_n (pc := 0) 1 dX10_checkImage_0 rfl rfl ?_
  refine s_if_lt (pc := 1) 13 dX10_checkImage_1 rfl ?_ ?_
  · refine s_sub [] rfl ?_
    exact Bs_checkImage_13_sem hG P
  · refine s_iload_n (pc := 4) 1 dX10_checkImage_4 rfl rfl ?_
    refine s_aload_n (pc := 5) 0 dX10_checkImage_5 rfl rfl ?_
    refine s_getR (pc := 6) 65 dX10_checkImage_6 (fi_X10_17 hG) kd_0 rfl ?_
    refine s_alen (pc := 9) (t := 4) 3 3 dX10_checkImage_9 kd_65 (Nat.le_of_ble_eq_true rfl) ln_65 rfl ?_
    refine s_icmp_lt (pc := 10) 24 dX10_checkImage_10 rfl ?_ ?_
    · refine s_aload_n (pc := 24) 0 dX10_checkImage_24 rfl rfl ?_
      refine s_getR (pc := 25) 65 dX10_checkImage_25 (fi_X10_17 hG) kd_0 rfl ?_
      refine s_iload_n (pc := 28) 1 dX10_checkImage_28 rfl rfl ?_
      refine s_aaldI (pc := 29) dX10_checkImage_29 kd_65 ln_65 ?_
      refine s_guard (fun hk29 => ?_)
      exact s_aret (pc := 30) dX10_checkImage_30 rfl rfl
    · refine s_sub [] rfl ?_
      exact Bs_checkImage_13_sem hG P
def Bs_image  (v1 : Int32) (P : PH) : Option ((String ⊕ Unit) × PH) :=
  (Bs_checkImage v1 P).bind fun (x2 : String ⊕ Nat) =>
  Sum.elim (fun E => some (Sum.inl E, P)) (fun (w2 : Nat) =>
    gdP (kd w2 = 1) <|
    (Im_make w2 3 43 P).bind fun (x13 : PH) =>
    some (Sum.inr (), x13)) x2
set_option maxRecDepth 100000 in
set_option maxHeartbeats 4000000 in
theorem Bs_image_ok {G : GT} {l : Launch} (hG : GOK G l)  (v1 : Int32) (P : PH) : OkT G l yX10_image miX10_image 1 6 xVH [.ref (gA G 0), .int v1] P (Bs_image v1 P) := by
  refine okT_of hG _ [(0, .ref (gA G 0)), (1, .int v1)] rfl rfl rfl (Nat.le_of_ble_eq_true rfl) rfl ?_
  unfold Bs_image
  refine s_aload_n (pc := 0) 0 dX10_image_0 rfl rfl ?_
  refine s_iload_n (pc := 1) 1 dX10_image_1 rfl rfl ?_
  refine s_callVTp (k := 0) (n := 0) (pc := 2) [.int v1] (fun w => .ref (gA G w) :: []) (fun E => (Sum.inl E, P)) dX10_image_2 (cV_X10_341 hG) (Nat.le_of_ble_eq_true rfl) rfl kd_0 (Bs_checkImage_ok hG v1 P) rfl rfl (fun _ => rfl) (Nat.le_of_ble_eq_true rfl) rfl rfl (fun _ => rfl) (fun w2 => ?_)
  refine s_guard (fun hk2 => ?_)
  refine s_aload_n (pc := 5) 0 dX10_image_5 rfl rfl ?_
  refine s_getR (pc := 6) 3 dX10_image_6 (fi_X10_28 hG) kd_0 rfl ?_
  refine s_aload_n (pc := 9) 0 dX10_image_9 rfl rfl ?_
  refine s_getR (pc := 10) 43 dX10_image_10 (fi_X10_61 hG) kd_0 rfl ?_
  refine s_callV (k := 0) (n := 0) (pc := 13) [.ref (gA G 3), .ref (gA G 43)] (fun _ => []) (fun x13 => x13) dX10_image_13 (cV_X10_345 hG) (Nat.le_of_ble_eq_true rfl) rfl hk2 (Im_make_ok hG w2 hk2 3 kd_3 43 kd_43 P) rfl (fun _ => rfl) (fun _ => rfl) (Nat.le_of_ble_eq_true rfl) rfl rfl (fun x13 => ?_)
  exact s_vret (pc := 16) dX10_image_16 rfl rfl
def Bs_restore  (v1 : Int32) (P : PH) : Option ((String ⊕ Unit) × PH) :=
  (Bs_checkImage v1 P).bind fun (x2 : String ⊕ Nat) =>
  Sum.elim (fun E => some (Sum.inl E, P)) (fun (w2 : Nat) =>
    gdP (kd w2 = 1) <|
    if (P.1 w2 0) = 0 then
      some ((Sum.inl "java/lang/IllegalStateException", P))
    else
      (Dr_copy 3 (imD w2) P).bind fun (x32 : PH) =>
      (Ne_copy 43 (imN w2) x32).bind fun (x43 : PH) =>
      some (Sum.inr (), x43)) x2
set_option maxRecDepth 100000 in
set_option maxHeartbeats 4000000 in
theorem Bs_restore_ok {G : GT} {l : Launch} (hG : GOK G l)  (v1 : Int32) (P : PH) : OkT G l yX10_restore miX10_restore 2 12 xVH [.ref (gA G 0), .int v1] P (Bs_restore v1 P) := by
  refine okT_of hG _ [(0, .ref (gA G 0)), (1, .int v1)] rfl rfl rfl (Nat.le_of_ble_eq_true rfl) rfl ?_
  unfold Bs_restore
  refine s_aload_n (pc := 0) 0 dX10_restore_0 rfl rfl ?_
  refine s_iload_n (pc := 1) 1 dX10_restore_1 rfl rfl ?_
  refine s_callVTp (k := 1) (n := 6) (pc := 2) [.int v1] (fun w => .ref (gA G w) :: []) (fun E => (Sum.inl E, P)) dX10_restore_2 (cV_X10_341 hG) (Nat.le_of_ble_eq_true rfl) rfl kd_0 (Bs_checkImage_ok hG v1 P) rfl rfl (fun _ => rfl) (Nat.le_of_ble_eq_true rfl) rfl rfl (fun _ => rfl) (fun w2 => ?_)
  refine s_guard (fun hk2 => ?_)
  refine s_astore_n (pc := 5) [(2, .ref (gA G w2)), (0, .ref (gA G 0)), (1, .int v1)] dX10_restore_5 rfl (Nat.le_of_ble_eq_true rfl) rfl ?_
  refine s_aload_n (pc := 6) 0 dX10_restore_6 rfl rfl ?_
  refine s_getI (pc := 7) dX10_restore_7 (fi_X10_349 hG) hk2 ?_
  refine s_if_ne (pc := 10) 24 dX10_restore_10 rfl ?_ ?_
  · exact s_throwW (pc := 13) (thr_X10_355 hG) dX10_restore_13 dX10_restore_16 dX10_restore_17 dX10_restore_20 dX10_restore_23 rfl rfl (Nat.le_of_ble_eq_true rfl) (Nat.le_of_ble_eq_true rfl) (Nat.le_of_ble_eq_true rfl)
  · refine s_aload_n (pc := 24) 1 dX10_restore_24 rfl rfl ?_
    refine s_getR (pc := 25) 3 dX10_restore_25 (fi_X10_28 hG) kd_0 rfl ?_
    refine s_aload_n (pc := 28) 0 dX10_restore_28 rfl rfl ?_
    refine s_getR (pc := 29) (imD w2) dX10_restore_29 (fi_X10_358 hG) hk2 rfl ?_
    refine s_callV (k := 1) (n := 6) (pc := 32) [.ref (gA G (imD w2))] (fun _ => []) (fun x32 => x32) dX10_restore_32 (cV_X10_120 hG) (Nat.le_of_ble_eq_true rfl) rfl kd_3 (Dr_copy_ok hG 3 kd_3 (imD w2) (kdf_1_1 hk2) P) rfl (fun _ => rfl) (fun _ => rfl) (Nat.le_of_ble_eq_true rfl) rfl rfl (fun x32 => ?_)
    refine s_aload_n (pc := 35) 1 dX10_restore_35 rfl rfl ?_
    refine s_getR (pc := 36) 43 dX10_restore_36 (fi_X10_61 hG) kd_0 rfl ?_
    refine s_aload_n (pc := 39) 0 dX10_restore_39 rfl rfl ?_
    refine s_getR (pc := 40) (imN w2) dX10_restore_40 (fi_X10_359 hG) hk2 rfl ?_
    refine s_callV (k := 1) (n := 6) (pc := 43) [.ref (gA G (imN w2))] (fun _ => []) (fun x43 => x43) dX10_restore_43 (cV_X10_254 hG) (Nat.le_of_ble_eq_true rfl) rfl kd_43 (Ne_copy_ok hG 43 kd_43 (imN w2) (kdf_1_2 hk2) x32) rfl (fun _ => rfl) (fun _ => rfl) (Nat.le_of_ble_eq_true rfl) rfl rfl (fun x43 => ?_)
    exact s_vret (pc := 46) dX10_restore_46 rfl rfl
def Bs_count  (v1 : Int32) (P : PH) : Option (Int32) :=
  if v1 = 0 then
    some (P.1 3 0)
  else
  if v1 = 1 then
    some (P.1 3 1)
  else
  if v1 = 2 then
    some (P.1 43 7)
  else
  if v1 = 3 then
    (Jl_bitCount ((P.2 43 0) &&& (P.2 43 1)) P).bind fun (x75 : Int32) =>
    some x75
  else
  if v1 = 4 then
    some (P.1 71 0)
  else
    some (-1 : Int32)
set_option maxRecDepth 100000 in
set_option maxHeartbeats 4000000 in
theorem Bs_count_ok {G : GT} {l : Launch} (hG : GOK G l)  (v1 : Int32) (P : PH) : OkN G l yX10_count miX10_count 0 0 (tI P) [.ref (gA G 0), .int v1] P (Bs_count v1 P) := by
  refine okN_of hG _ [(0, .ref (gA G 0)), (1, .int v1)] rfl rfl rfl (Nat.le_of_ble_eq_true rfl) rfl ?_
  unfold Bs_count
  refine s_iload_n (pc := 0) 1 dX10_count_0 rfl rfl ?_
  refine s_sw (fun hx0 => ?_) (fun hx0 => ?_)
  · refine s_tin (pc := 1) 36 dX10_count_1 (by rw [hx0]; decide) (by rw [hx0]; decide) (by rw [hx0]; rfl) rfl ?_
    refine s_aload_n (pc := 36) 0 dX10_count_36 rfl rfl ?_
    refine s_getR (pc := 37) 3 dX10_count_37 (fi_X10_28 hG) kd_0 rfl ?_
    refine s_getI (pc := 40) dX10_count_40 (fi_X10_126 hG) kd_3 ?_
    exact s_iret (pc := 43) dX10_count_43 rfl rfl
  refine s_sw (fun hx1 => ?_) (fun hx1 => ?_)
  · refine s_tin (pc := 1) 44 dX10_count_1 (by rw [hx1]; decide) (by rw [hx1]; decide) (by rw [hx1]; rfl) rfl ?_
    refine s_aload_n (pc := 44) 0 dX10_count_44 rfl rfl ?_
    refine s_getR (pc := 45) 3 dX10_count_45 (fi_X10_28 hG) kd_0 rfl ?_
    refine s_getI (pc := 48) dX10_count_48 (fi_X10_360 hG) kd_3 ?_
    exact s_iret (pc := 51) dX10_count_51 rfl rfl
  refine s_sw (fun hx2 => ?_) (fun hx2 => ?_)
  · refine s_tin (pc := 1) 52 dX10_count_1 (by rw [hx2]; decide) (by rw [hx2]; decide) (by rw [hx2]; rfl) rfl ?_
    refine s_aload_n (pc := 52) 0 dX10_count_52 rfl rfl ?_
    refine s_getR (pc := 53) 43 dX10_count_53 (fi_X10_61 hG) kd_0 rfl ?_
    refine s_getI (pc := 56) dX10_count_56 (fi_X10_363 hG) kd_43 ?_
    exact s_iret (pc := 59) dX10_count_59 rfl rfl
  refine s_sw (fun hx3 => ?_) (fun hx3 => ?_)
  · refine s_tin (pc := 1) 60 dX10_count_1 (by rw [hx3]; decide) (by rw [hx3]; decide) (by rw [hx3]; rfl) rfl ?_
    refine s_aload_n (pc := 60) 0 dX10_count_60 rfl rfl ?_
    refine s_getR (pc := 61) 43 dX10_count_61 (fi_X10_61 hG) kd_0 rfl ?_
    refine s_getL (pc := 64) dX10_count_64 (fi_X10_316 hG) kd_43 ?_
    refine s_aload_n (pc := 67) 0 dX10_count_67 rfl rfl ?_
    refine s_getR (pc := 68) 43 dX10_count_68 (fi_X10_61 hG) kd_0 rfl ?_
    refine s_getL (pc := 71) dX10_count_71 (fi_X10_320 hG) kd_43 ?_
    refine s_land (pc := 74) dX10_count_74 ?_
    refine s_callS (k := 0) (n := 0) (pc := 75) [.long ((P.2 43 0) &&& (P.2 43 1))] (fun x75 => .int x75 :: []) (fun _ => P) dX10_count_75 (cS_X10_167 hG) (Nat.le_of_ble_eq_true rfl) rfl (Jl_bitCount_ok hG ((P.2 43 0) &&& (P.2 43 1)) P) rfl (fun _ => rfl) (fun _ => rfl) (Nat.le_of_ble_eq_true rfl) rfl rfl (fun x75 => ?_)
    exact s_iret (pc := 78) dX10_count_78 rfl rfl
  refine s_sw (fun hx4 => ?_) (fun hx4 => ?_)
  · refine s_tin (pc := 1) 79 dX10_count_1 (by rw [hx4]; decide) (by rw [hx4]; decide) (by rw [hx4]; rfl) rfl ?_
    refine s_aload_n (pc := 79) 0 dX10_count_79 rfl rfl ?_
    refine s_getR (pc := 80) 71 dX10_count_80 (fi_X10_43 hG) kd_0 rfl ?_
    refine s_getI (pc := 83) dX10_count_83 (fi_X10_93 hG) kd_71 ?_
    exact s_iret (pc := 86) dX10_count_86 rfl rfl
  refine s_tout (pc := 1) 87 dX10_count_1 (Classical.byContradiction fun hq => ?_) rfl ?_
  · have h9 : Int32.toInt v1 = 0 ∨ Int32.toInt v1 = 1 ∨ Int32.toInt v1 = 2 ∨ Int32.toInt v1 = 3 ∨ Int32.toInt v1 = 4 := by omega
    rcases h9 with h9 | h9 | h9 | h9 | h9
    · exact hx0 (Int32.toInt_inj.mp h9)
    · exact hx1 (Int32.toInt_inj.mp h9)
    · exact hx2 (Int32.toInt_inj.mp h9)
    · exact hx3 (Int32.toInt_inj.mp h9)
    · exact hx4 (Int32.toInt_inj.mp h9)
  · refine s_iconst (pc := 87) (v := -1) dX10_count_87 rfl ?_
    exact s_iret (pc := 88) dX10_count_88 rfl rfl
