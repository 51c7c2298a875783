def Dr_partsOf_12   (t : Nat) (P : PH) : Nat → Int64 → Int32 → Int32 → Option (Int32)
  | 0 => fun _ _ _ => none
  | n + 1 => fun v2 v4 v5 =>
    if (60 : Int32) ≤ v5 then
      some v4
    else
      if (lg_cmp v2 (0 : Int64)) = 0 then
        some v4
      else
        (Bs_lowest v2 P).bind fun (x30 : Int32) =>
        (Dr_fromOf t x30 P).bind fun (x33 : Int32) =>
        (Dr_together t v2 x33 P).bind fun (x36 : Int64) =>
        (some (v2 &&& (x36 ^^^ (-1 : Int64)))).bind fun (u2_44 : Int64) =>
        Dr_partsOf_12 t P n u2_44 (v4 + 1) (v5 + 1)
set_option maxRecDepth 100000 in
set_option maxHeartbeats 4000000 in
theorem Dr_partsOf_12_sem {G : GT} {l : Launch} (hG : GOK G l)  (t : Nat) (ht : kd t = 0) (P : PH)   : ∀ (n : Nat) (v2 : Int64) (v4 : Int32) (v5 : Int32), Sem G l miX0_partsOf 0 0 (rn (tI P)) 12 [(0, .ref (gA G t)), (2, .long v2), (4, .int v4), (5, .int v5)] [] P (Dr_partsOf_12 t P n v2 v4 v5) := by
  intro n
  induction n with
  | zero => intro v2 v4 v5; exact s_none rfl
  | succ n ih =>
    intro v2 v4 v5
    rw [Dr_partsOf_12]
    refine s_iload (pc := 12) 3 dX0_partsOf_12 rfl ?_
    refine s_bipush (pc := 14) (v := 60) dX0_partsOf_14 rfl ?_
    refine s_icmp_ge (pc := 16) 54 dX0_partsOf_16 rfl ?_ ?_
    · refine s_iload (pc := 54) 2 dX0_partsOf_54 rfl ?_
      exact s_iret (pc := 56) dX0_partsOf_56 rfl rfl
    · refine s_lload_n (pc := 19) 1 dX0_partsOf_19 rfl rfl ?_
      refine s_lconst (pc := 20) (v := 0) dX0_partsOf_20 rfl ?_
      refine s_lcmp (pc := 21) dX0_partsOf_21 ?_
      refine s_if_eq (pc := 22) 54 dX0_partsOf_22 rfl ?_ ?_
      · refine s_iload (pc := 54) 2 dX0_partsOf_54 rfl ?_
        exact s_iret (pc := 56) dX0_partsOf_56 rfl rfl
      · refine s_lload_n (pc := 25) 1 dX0_partsOf_25 rfl rfl ?_
        refine s_aload_n (pc := 26) 0 dX0_partsOf_26 rfl rfl ?_
        refine s_lload_n (pc := 27) 1 dX0_partsOf_27 rfl rfl ?_
        refine s_aload_n (pc := 28) 0 dX0_partsOf_28 rfl rfl ?_
        refine s_lload_n (pc := 29) 1 dX0_partsOf_29 rfl rfl ?_
        refine s_callSN (k := 0) (n := 0) (pc := 30) [.long v2] (fun x30 => .int x30 :: [.ref (gA G t), .long v2, .ref (gA G t), .long v2]) (fun _ => P) dX0_partsOf_30 (cSN_X0_71 hG) (Nat.le_of_ble_eq_true rfl) rfl (Bs_lowest_ok hG v2 P) rfl (fun _ => rfl) (fun _ => rfl) (Nat.le_of_ble_eq_true rfl) rfl rfl (fun x30 => ?_)
        refine s_callV (k := 0) (n := 0) (pc := 33) [.int x30] (fun x33 => .int x33 :: [.long v2, .ref (gA G t), .long v2]) (fun _ => P) dX0_partsOf_33 (cV_X0_60 hG) (Nat.le_of_ble_eq_true rfl) rfl ht (Dr_fromOf_ok hG t ht x30 P) rfl (fun _ => rfl) (fun _ => rfl) (Nat.le_of_ble_eq_true rfl) rfl rfl (fun x33 => ?_)
        refine s_callV (k := 0) (n := 0) (pc := 36) [.long v2, .int x33] (fun x36 => .long x36 :: [.long v2]) (fun _ => P) dX0_partsOf_36 (cV_X0_80 hG) (Nat.le_of_ble_eq_true rfl) rfl ht (Dr_together_ok hG t ht v2 x33 P) rfl (fun _ => rfl) (fun _ => rfl) (Nat.le_of_ble_eq_true rfl) rfl rfl (fun x36 => ?_)
        refine s_ldc2 (pc := 39) (v := (-1)) dX0_partsOf_39 (gw_X0_75 hG) ?_
        refine s_lxor (pc := 42) dX0_partsOf_42 ?_
        refine s_land (pc := 43) dX0_partsOf_43 ?_
        refine s_letL (fun u2_44 => ?_)
        refine s_lstore_n (pc := 44) [(2, .long u2_44), (0, .ref (gA G t)), (4, .int v4), (5, .int v5)] dX0_partsOf_44 rfl (Nat.le_of_ble_eq_true rfl) rfl ?_
        refine s_iinc (pc := 45) 2 1 [(4, .int (v4 + 1)), (2, .long u2_44), (0, .ref (gA G t)), (5, .int v5)] dX0_partsOf_45 rfl rfl (Nat.le_of_ble_eq_true rfl) rfl ?_
        refine s_iinc (pc := 48) 3 1 [(5, .int (v5 + 1)), (4, .int (v4 + 1)), (2, .long u2_44), (0, .ref (gA G t))] dX0_partsOf_48 rfl rfl (Nat.le_of_ble_eq_true rfl) rfl ?_
        refine s_goto (pc := 51) 12 dX0_partsOf_51 rfl ?_
        refine s_sub [3, 2, 1, 0] rfl ?_
        exact ih u2_44 (v4 + 1) (v5 + 1)
def Dr_partsOf  (t : Nat) (v1 : Int32) (P : PH) : Option (Int32) :=
  (Dr_linesOf t v1 P).bind fun (x2 : Int64) =>
  Dr_partsOf_12 t P bigN x2 (0 : Int32) (0 : Int32)
set_option maxRecDepth 100000 in
set_option maxHeartbeats 4000000 in
theorem Dr_partsOf_ok {G : GT} {l : Launch} (hG : GOK G l)  (t : Nat) (ht : kd t = 0) (v1 : Int32) (P : PH) : OkN G l yX0_partsOf miX0_partsOf 0 0 (tI P) [.ref (gA G t), .int v1] P (Dr_partsOf t v1 P) := by
  refine okN_of hG _ [(0, .ref (gA G t)), (1, .int v1)] rfl rfl rfl (Nat.le_of_ble_eq_true rfl) rfl ?_
  unfold Dr_partsOf
  refine s_aload_n (pc := 0) 0 dX0_partsOf_0 rfl rfl ?_
  refine s_iload_n (pc := 1) 1 dX0_partsOf_1 rfl rfl ?_
  refine s_callV (k := 0) (n := 0) (pc := 2) [.int v1] (fun x2 => .long x2 :: []) (fun _ => P) dX0_partsOf_2 (cV_X0_77 hG) (Nat.le_of_ble_eq_true rfl) rfl ht (Dr_linesOf_ok hG t ht v1 P) rfl (fun _ => rfl) (fun _ => rfl) (Nat.le_of_ble_eq_true rfl) rfl rfl (fun x2 => ?_)
  refine s_lstore_n (pc := 5) [(2, .long x2), (0, .ref (gA G t)), (1, .int v1)] dX0_partsOf_5 rfl (Nat.le_of_ble_eq_true rfl) rfl ?_
  refine s_iconst (pc := 6) (v := 0) dX0_partsOf_6 rfl ?_
  refine s_istore (pc := 7) [(4, .int ((0 : Int32))), (2, .long x2), (0, .ref (gA G t)), (1, .int v1)] dX0_partsOf_7 (Nat.le_of_ble_eq_true rfl) rfl ?_
  refine s_iconst (pc := 9) (v := 0) dX0_partsOf_9 rfl ?_
  refine s_istore (pc := 10) [(5, .int ((0 : Int32))), (4, .int ((0 : Int32))), (2, .long x2), (0, .ref (gA G t)), (1, .int v1)] dX0_partsOf_10 (Nat.le_of_ble_eq_true rfl) rfl ?_
  refine s_sub [3, 2, 1, 0] rfl ?_
  exact Dr_partsOf_12_sem hG t ht P bigN x2 (0 : Int32) (0 : Int32)
def Dr_threadFor_26  (r4 : Int32 → Int32 → Option (Int32)) (t : Nat) (v1 : Int32) (v2 : Int32) (v3 : Int32) (P : PH) : Option (Int32) :=
  (Dr_toOf t v3 P).bind fun (x28 : Int32) =>
  (Dr_fromOf t v3 P).bind fun (x33 : Int32) =>
  (some (jAbs (x28 - x33))).bind fun (u4_40 : Int32) =>
  if u4_40 = (1 : Int32) then
    (some (v2 + (20 : Int32))).bind fun (u2_64 : Int32) =>
    r4 u2_64 (v3 + 1)
  else
    if u4_40 = (12 : Int32) then
      (some (v2 + (20 : Int32))).bind fun (u2_64 : Int32) =>
      r4 u2_64 (v3 + 1)
    else
      (some (v2 + (28 : Int32))).bind fun (u2_64 : Int32) =>
      r4 u2_64 (v3 + 1)
set_option maxRecDepth 100000 in
set_option maxHeartbeats 4000000 in
theorem Dr_threadFor_26_sem {G : GT} {l : Launch} (hG : GOK G l)  (t : Nat) (ht : kd t = 0) (v1 : Int32) (v2 : Int32) (v3 : Int32) (P : PH)  (r4 : Int32 → Int32 → Option (Int32)) (hr4 : ∀ (v2 : Int32) (v3 : Int32), Sem G l miX0_threadFor 0 0 (rn (tI P)) 4 [(0, .ref (gA G t)), (1, .int v1), (2, .int v2), (3, .int v3)] [] P (r4 v2 v3)) : Sem G l miX0_threadFor 0 0 (rn (tI P)) 26 [(0, .ref (gA G t)), (1, .int v1), (2, .int v2), (3, .int v3)] [] P (Dr_threadFor_26 r4 t v1 v2 v3 P) := by
  unfold Dr_threadFor_26
  refine s_aload_n (pc := 26) 0 dX0_threadFor_26 rfl rfl ?_
  refine s_iload_n (pc := 27) 3 dX0_threadFor_27 rfl rfl ?_
  refine s_callV (k := 0) (n := 0) (pc := 28) [.int v3] (fun x28 => .int x28 :: []) (fun _ => P) dX0_threadFor_28 (cV_X0_64 hG) (Nat.le_of_ble_eq_true rfl) rfl ht (Dr_toOf_ok hG t ht v3 P) rfl (fun _ => rfl) (fun _ => rfl) (Nat.le_of_ble_eq_true rfl) rfl rfl (fun x28 => ?_)
  refine s_aload_n (pc := 31) 0 dX0_threadFor_31 rfl rfl ?_
  refine s_iload_n (pc := 32) 3 dX0_threadFor_32 rfl rfl ?_
  refine s_callV (k := 0) (n := 0) (pc := 33) [.int v3] (fun x33 => .int x33 :: [.int x28]) (fun _ => P) dX0_threadFor_33 (cV_X0_60 hG) (Nat.le_of_ble_eq_true rfl) rfl ht (Dr_fromOf_ok hG t ht v3 P) rfl (fun _ => rfl) (fun _ => rfl) (Nat.le_of_ble_eq_true rfl) rfl rfl (fun x33 => ?_)
  refine s_isub (pc := 36) dX0_threadFor_36 ?_
  refine s_mabs (pc := 37) dX0_threadFor_37 (mk_X0_87 hG) (Nat.le_of_ble_eq_true rfl) (Nat.le_of_ble_eq_true rfl) ?_
  refine s_letI (fun u4_40 => ?_)
  refine s_istore (pc := 40) [(4, .int u4_40), (0, .ref (gA G t)), (1, .int v1), (2, .int v2), (3, .int v3)] dX0_threadFor_40 (Nat.le_of_ble_eq_true rfl) rfl ?_
  refine s_iload_n (pc := 42) 3 dX0_threadFor_42 rfl rfl ?_
  refine s_iload (pc := 43) 0 dX0_threadFor_43 rfl ?_
  refine s_iconst (pc := 45) (v := 1) dX0_threadFor_45 rfl ?_
  refine s_icmp_eq (pc := 46) 56 dX0_threadFor_46 rfl ?_ ?_
  · refine s_bipush (pc := 56) (v := 20) dX0_threadFor_56 rfl ?_
    refine s_goto (pc := 58) 63 dX0_threadFor_58 rfl ?_
    refine s_iadd (pc := 63) dX0_threadFor_63 ?_
    refine s_letI (fun u2_64 => ?_)
    refine s_istore_n (pc := 64) [(2, .int u2_64), (4, .int u4_40), (0, .ref (gA G t)), (1, .int v1), (3, .int v3)] dX0_threadFor_64 rfl (Nat.le_of_ble_eq_true rfl) rfl ?_
    refine s_iinc (pc := 65) 4 1 [(3, .int (v3 + 1)), (2, .int u2_64), (4, .int u4_40), (0, .ref (gA G t)), (1, .int v1)] dX0_threadFor_65 rfl rfl (Nat.le_of_ble_eq_true rfl) rfl ?_
    refine s_goto (pc := 68) 4 dX0_threadFor_68 rfl ?_
    refine s_sub [3, 4, 1, 0] rfl ?_
    exact hr4 u2_64 (v3 + 1)
  · refine s_iload (pc := 49) 0 dX0_threadFor_49 rfl ?_
    refine s_bipush (pc := 51) (v := 12) dX0_threadFor_51 rfl ?_
    refine s_icmp_ne (pc := 53) 61 dX0_threadFor_53 rfl ?_ ?_
    · refine s_bipush (pc := 56) (v := 20) dX0_threadFor_56 rfl ?_
      refine s_goto (pc := 58) 63 dX0_threadFor_58 rfl ?_
      refine s_iadd (pc := 63) dX0_threadFor_63 ?_
      refine s_letI (fun u2_64 => ?_)
      refine s_istore_n (pc := 64) [(2, .int u2_64), (4, .int u4_40), (0, .ref (gA G t)), (1, .int v1), (3, .int v3)] dX0_threadFor_64 rfl (Nat.le_of_ble_eq_true rfl) rfl ?_
      refine s_iinc (pc := 65) 4 1 [(3, .int (v3 + 1)), (2, .int u2_64), (4, .int u4_40), (0, .ref (gA G t)), (1, .int v1)] dX0_threadFor_65 rfl rfl (Nat.le_of_ble_eq_true rfl) rfl ?_
      refine s_goto (pc := 68) 4 dX0_threadFor_68 rfl ?_
      refine s_sub [3, 4, 1, 0] rfl ?_
      exact hr4 u2_64 (v3 + 1)
    · refine s_bipush (pc := 61) (v := 28) dX0_threadFor_61 rfl ?_
      refine s_iadd (pc := 63) dX0_threadFor_63 ?_
      refine s_letI (fun u2_64 => ?_)
      refine s_istore_n (pc := 64) [(2, .int u2_64), (4, .int u4_40), (0, .ref (gA G t)), (1, .int v1), (3, .int v3)] dX0_threadFor_64 rfl (Nat.le_of_ble_eq_true rfl) rfl ?_
      refine s_iinc (pc := 65) 4 1 [(3, .int (v3 + 1)), (2, .int u2_64), (4, .int u4_40), (0, .ref (gA G t)), (1, .int v1)] dX0_threadFor_65 rfl rfl (Nat.le_of_ble_eq_true rfl) rfl ?_
      refine s_goto (pc := 68) 4 dX0_threadFor_68 rfl ?_
      refine s_sub [3, 4, 1, 0] rfl ?_
      exact hr4 u2_64 (v3 + 1)
def Dr_threadFor_4   (t : Nat) (v1 : Int32) (P : PH) : Nat → Int32 → Int32 → Option (Int32)
  | 0 => fun _ _ => none
  | n + 1 => fun v2 v3 =>
    if (P.1 t 0) ≤ v3 then
      some v2
    else
      if v1 = (-1 : Int32) then
        Dr_threadFor_26 (Dr_threadFor_4 t v1 P n) t v1 v2 v3 P
      else
        (Dr_inkOf t v3 P).bind fun (x19 : Int32) =>
        if x19 = v1 then
          Dr_threadFor_26 (Dr_threadFor_4 t v1 P n) t v1 v2 v3 P
        else
          Dr_threadFor_4 t v1 P n v2 (v3 + 1)
set_option maxRecDepth 100000 in
set_option maxHeartbeats 4000000 in
theorem Dr_threadFor_4_sem {G : GT} {l : Launch} (hG : GOK G l)  (t : Nat) (ht : kd t = 0) (v1 : Int32) (P : PH)   : ∀ (n : Nat) (v2 : Int32) (v3 : Int32), Sem G l miX0_threadFor 0 0 (rn (tI P)) 4 [(0, .ref (gA G t)), (1, .int v1), (2, .int v2), (3, .int v3)] [] P (Dr_threadFor_4 t v1 P n v2 v3) := by
  intro n
  induction n with
  | zero => intro v2 v3; exact s_none rfl
  | succ n ih =>
    intro v2 v3
    rw [Dr_threadFor_4]
    refine s_iload_n (pc := 4) 3 dX0_threadFor_4 rfl rfl ?_
    refine s_aload_n (pc := 5) 0 dX0_threadFor_5 rfl rfl ?_
    refine s_getI (pc := 6) dX0_threadFor_6 (fi_X0_34 hG) ht ?_
    refine s_icmp_ge (pc := 9) 71 dX0_threadFor_9 rfl ?_ ?_
    · refine s_iload_n (pc := 71) 2 dX0_threadFor_71 rfl rfl ?_
      exact s_iret (pc := 72) dX0_threadFor_72 rfl rfl
    · refine s_iload_n (pc := 12) 1 dX0_threadFor_12 rfl rfl ?_
      refine s_iconst (pc := 13) (v := -1) dX0_threadFor_13 rfl ?_
      refine s_icmp_eq (pc := 14) 26 dX0_threadFor_14 rfl ?_ ?_
      · exact Dr_threadFor_26_sem hG t ht v1 v2 v3 P (Dr_threadFor_4 t v1 P n) ih
      · refine s_aload_n (pc := 17) 0 dX0_threadFor_17 rfl rfl ?_
        refine s_iload_n (pc := 18) 3 dX0_threadFor_18 rfl rfl ?_
        refine s_callV (k := 0) (n := 0) (pc := 19) [.int v3] (fun x19 => .int x19 :: []) (fun _ => P) dX0_threadFor_19 (cV_X0_84 hG) (Nat.le_of_ble_eq_true rfl) rfl ht (Dr_inkOf_ok hG t ht v3 P) rfl (fun _ => rfl) (fun _ => rfl) (Nat.le_of_ble_eq_true rfl) rfl rfl (fun x19 => ?_)
        refine s_iload_n (pc := 22) 1 dX0_threadFor_22 rfl rfl ?_
        refine s_icmp_ne (pc := 23) 65 dX0_threadFor_23 rfl ?_ ?_
        · exact Dr_threadFor_26_sem hG t ht v1 v2 v3 P (Dr_threadFor_4 t v1 P n) ih
        · refine s_iinc (pc := 65) 3 1 [(3, .int (v3 + 1)), (0, .ref (gA G t)), (1, .int v1), (2, .int v2)] dX0_threadFor_65 rfl rfl (Nat.le_of_ble_eq_true rfl) rfl ?_
          refine s_goto (pc := 68) 4 dX0_threadFor_68 rfl ?_
          refine s_sub [1, 2, 3, 0] rfl ?_
          exact ih v2 (v3 + 1)
def Dr_threadFor  (t : Nat) (v1 : Int32) (P : PH) : Option (Int32) :=
  Dr_threadFor_4 t v1 P bigN (0 : Int32) (0 : Int32)
set_option maxRecDepth 100000 in
set_option maxHeartbeats 4000000 in
theorem Dr_threadFor_ok {G : GT} {l : Launch} (hG : GOK G l)  (t : Nat) (ht : kd t = 0) (v1 : Int32) (P : PH) : OkN G l yX0_threadFor miX0_threadFor 0 0 (tI P) [.ref (gA G t), .int v1] P (Dr_threadFor t v1 P) := by
  refine okN_of hG _ [(0, .ref (gA G t)), (1, .int v1)] rfl rfl rfl (Nat.le_of_ble_eq_true rfl) rfl ?_
  unfold Dr_threadFor
  refine s_iconst (pc := 0) (v := 0) dX0_threadFor_0 rfl ?_
  refine s_istore_n (pc := 1) [(2, .int ((0 : Int32))), (0, .ref (gA G t)), (1, .int v1)] dX0_threadFor_1 rfl (Nat.le_of_ble_eq_true rfl) rfl ?_
  refine s_iconst (pc := 2) (v := 0) dX0_threadFor_2 rfl ?_
  refine s_istore_n (pc := 3) [(3, .int ((0 : Int32))), (2, .int ((0 : Int32))), (0, .ref (gA G t)), (1, .int v1)] dX0_threadFor_3 rfl (Nat.le_of_ble_eq_true rfl) rfl ?_
  refine s_sub [2, 3, 1, 0] rfl ?_
  exact Dr_threadFor_4_sem hG t ht v1 P bigN (0 : Int32) (0 : Int32)
def Bs_holeAt  (v0 : Int32) (v1 : Int32) (P : PH) : Option (Int32) :=
  if v0 < 0 then
    some (-1 : Int32)
  else
    if (12 : Int32) ≤ v0 then
      some (-1 : Int32)
    else
      if v1 < 0 then
        some (-1 : Int32)
      else
        if v1 < (12 : Int32) then
          some (((12 : Int32) * v1) + v0)
        else
          some (-1 : Int32)
set_option maxRecDepth 100000 in
set_option maxHeartbeats 4000000 in
theorem Bs_holeAt_ok {G : GT} {l : Launch} (hG : GOK G l)  (v0 : Int32) (v1 : Int32) (P : PH) : OkN G l yX10_holeAt miX10_holeAt 0 0 (tI P) [.int v0, .int v1] P (Bs_holeAt v0 v1 P) := by
  refine okN_of hG _ [(0, .int v0), (1, .int v1)] rfl rfl rfl (Nat.le_of_ble_eq_true rfl) rfl ?_
  unfold Bs_holeAt
  refine s_iload_n (pc := 0) 0 dX10_holeAt_0 rfl rfl ?_
  refine s_if_lt (pc := 1) 20 dX10_holeAt_1 rfl ?_ ?_
  · refine s_iconst (pc := 20) (v := -1) dX10_holeAt_20 rfl ?_
    refine s_goto (pc := 21) 30 dX10_holeAt_21 rfl ?_
    exact s_iret (pc := 30) dX10_holeAt_30 rfl rfl
  · refine s_iload_n (pc := 4) 0 dX10_holeAt_4 rfl rfl ?_
    refine s_bipush (pc := 5) (v := 12) dX10_holeAt_5 rfl ?_
    refine s_icmp_ge (pc := 7) 20 dX10_holeAt_7 rfl ?_ ?_
    · refine s_iconst (pc := 20) (v := -1) dX10_holeAt_20 rfl ?_
      refine s_goto (pc := 21) 30 dX10_holeAt_21 rfl ?_
      exact s_iret (pc := 30) dX10_holeAt_30 rfl rfl
    · refine s_iload_n (pc := 10) 1 dX10_holeAt_10 rfl rfl ?_
      refine s_if_lt (pc := 11) 20 dX10_holeAt_11 rfl ?_ ?_
      · refine s_iconst (pc := 20) (v := -1) dX10_holeAt_20 rfl ?_
        refine s_goto (pc := 21) 30 dX10_holeAt_21 rfl ?_
        exact s_iret (pc := 30) dX10_holeAt_30 rfl rfl
      · refine s_iload_n (pc := 14) 1 dX10_holeAt_14 rfl rfl ?_
        refine s_bipush (pc := 15) (v := 12) dX10_holeAt_15 rfl ?_
        refine s_icmp_lt (pc := 17) 24 dX10_holeAt_17 rfl ?_ ?_
        · refine s_bipush (pc := 24) (v := 12) dX10_holeAt_24 rfl ?_
          refine s_iload_n (pc := 26) 1 dX10_holeAt_26 rfl rfl ?_
          refine s_imul (pc := 27) dX10_holeAt_27 ?_
          refine s_iload_n (pc := 28) 0 dX10_holeAt_28 rfl rfl ?_
          refine s_iadd (pc := 29) dX10_holeAt_29 ?_
          exact s_iret (pc := 30) dX10_holeAt_30 rfl rfl
        · refine s_iconst (pc := 20) (v := -1) dX10_holeAt_20 rfl ?_
          refine s_goto (pc := 21) 30 dX10_holeAt_21 rfl ?_
          exact s_iret (pc := 30) dX10_holeAt_30 rfl rfl
def Bs_step  (v0 : Int32) (v1 : Int32) (P : PH) : Option (Int32) :=
  if v0 < 0 then
    some (-1 : Int32)
  else
    if (144 : Int32) ≤ v0 then
      some (-1 : Int32)
    else
      if v1 < 0 then
        some (-1 : Int32)
      else
        if (8 : Int32) ≤ v1 then
          some (-1 : Int32)
        else
          if v1 < (8 : Int32) then
            gdI v1 8 <|
            gdI v1 8 <|
            (Bs_holeAt ((v0 - v0 / (12 : Int32) * (12 : Int32)) + (eastBy v1.toNatClampNeg)) ((v0 / (12 : Int32)) + (northBy v1.toNatClampNeg)) P).bind fun (x53 : Int32) =>
            some x53
          else
            some (-1 : Int32)
set_option maxRecDepth 100000 in
set_option maxHeartbeats 4000000 in
theorem Bs_step_ok {G : GT} {l : Launch} (hG : GOK G l)  (v0 : Int32) (v1 : Int32) (P : PH) : OkN G l yX10_step miX10_step 0 0 (tI P) [.int v0, .int v1] P (Bs_step v0 v1 P) := by
  refine okN_of hG _ [(0, .int v0), (1, .int v1)] rfl rfl rfl (Nat.le_of_ble_eq_true rfl) rfl ?_
  unfold Bs_step
  refine s_iload_n (pc := 0) 0 dX10_step_0 rfl rfl ?_
  refine s_if_lt (pc := 1) 31 dX10_step_1 rfl ?_ ?_
  · refine s_iconst (pc := 31) (v := -1) dX10_step_31 rfl ?_
    exact s_iret (pc := 32) dX10_step_32 rfl rfl
  · refine s_iload_n (pc := 4) 0 dX10_step_4 rfl rfl ?_
    refine s_sipush (pc := 5) (v := 144) dX10_step_5 rfl ?_
    refine s_icmp_ge (pc := 8) 31 dX10_step_8 rfl ?_ ?_
    · refine s_iconst (pc := 31) (v := -1) dX10_step_31 rfl ?_
      exact s_iret (pc := 32) dX10_step_32 rfl rfl
    · refine s_iload_n (pc := 11) 1 dX10_step_11 rfl rfl ?_
      refine s_if_lt (pc := 12) 31 dX10_step_12 rfl ?_ ?_
      · refine s_iconst (pc := 31) (v := -1) dX10_step_31 rfl ?_
        exact s_iret (pc := 32) dX10_step_32 rfl rfl
      · refine s_iload_n (pc := 15) 1 dX10_step_15 rfl rfl ?_
        refine s_get_east (pc := 16) dX10_step_16 (gw_X10_389 hG) ?_
        refine s_len_east (pc := 19) dX10_step_19 ?_
        refine s_icmp_ge (pc := 20) 31 dX10_step_20 rfl ?_ ?_
        · refine s_iconst (pc := 31) (v := -1) dX10_step_31 rfl ?_
          exact s_iret (pc := 32) dX10_step_32 rfl rfl
        · refine s_iload_n (pc := 23) 1 dX10_step_23 rfl rfl ?_
          refine s_get_north (pc := 24) dX10_step_24 (gw_X10_393 hG) ?_
          refine s_len_north (pc := 27) dX10_step_27 ?_
          refine s_icmp_lt (pc := 28) 33 dX10_step_28 rfl ?_ ?_
          · refine s_iload_n (pc := 33) 0 dX10_step_33 rfl rfl ?_
            refine s_bipush (pc := 34) (v := 12) dX10_step_34 rfl ?_
            refine s_irem (pc := 36) dX10_step_36 (by decide) ?_
            refine s_get_east (pc := 37) dX10_step_37 (gw_X10_389 hG) ?_
            refine s_iload_n (pc := 40) 1 dX10_step_40 rfl rfl ?_
            refine s_ld_east (pc := 41) dX10_step_41 ?_
            refine s_iadd (pc := 42) dX10_step_42 ?_
            refine s_iload_n (pc := 43) 0 dX10_step_43 rfl rfl ?_
            refine s_bipush (pc := 44) (v := 12) dX10_step_44 rfl ?_
            refine s_idiv (pc := 46) dX10_step_46 (by decide) ?_
            refine s_get_north (pc := 47) dX10_step_47 (gw_X10_393 hG) ?_
            refine s_iload_n (pc := 50) 1 dX10_step_50 rfl rfl ?_
            refine s_ld_north (pc := 51) dX10_step_51 ?_
            refine s_iadd (pc := 52) dX10_step_52 ?_
            refine s_callS (k := 0) (n := 0) (pc := 53) [.int ((v0 - v0 / (12 : Int32) * (12 : Int32)) + (eastBy v1.toNatClampNeg)), .int ((v0 / (12 : Int32)) + (northBy v1.toNatClampNeg))] (fun x53 => .int x53 :: []) (fun _ => P) dX10_step_53 (cS_X10_396 hG) (Nat.le_of_ble_eq_true rfl) rfl (Bs_holeAt_ok hG ((v0 - v0 / (12 : Int32) * (12 : Int32)) + (eastBy v1.toNatClampNeg)) ((v0 / (12 : Int32)) + (northBy v1.toNatClampNeg)) P) rfl (fun _ => rfl) (fun _ => rfl) (Nat.le_of_ble_eq_true rfl) rfl rfl (fun x53 => ?_)
            exact s_iret (pc := 56) dX10_step_56 rfl rfl
          · refine s_iconst (pc := 31) (v := -1) dX10_step_31 rfl ?_
            exact s_iret (pc := 32) dX10_step_32 rfl rfl
def Dr_crossed_4   (t : Nat) (v1 : Int32) (P : PH) : Nat → Int32 → Int32 → Option (Int32)
  | 0 => fun _ _ => none
  | n + 1 => fun v2 v3 =>
    if (144 : Int32) ≤ v3 then
      some v2
    else
      (Dr_lineBy t v3 (1 : Int32) P).bind fun (x14 : Int32) =>
      (Bs_step v3 (0 : Int32) P).bind fun (x22 : Int32) =>
      (Dr_lineBy t x22 (3 : Int32) P).bind fun (x26 : Int32) =>
      if x14 = (-1 : Int32) then
        Dr_crossed_4 t v1 P n v2 (v3 + 1)
      else
        if x26 = (-1 : Int32) then
          Dr_crossed_4 t v1 P n v2 (v3 + 1)
        else
          if v1 = 0 then
            Dr_crossed_4 t v1 P n (v2 + 1) (v3 + 1)
          else
            (Dr_inkOf t x14 P).bind fun (x50 : Int32) =>
            (Dr_inkOf t x26 P).bind fun (x56 : Int32) =>
            if x50 = x56 then
              Dr_crossed_4 t v1 P n v2 (v3 + 1)
            else
              Dr_crossed_4 t v1 P n (v2 + 1) (v3 + 1)
set_option maxRecDepth 100000 in
set_option maxHeartbeats 4000000 in
theorem Dr_crossed_4_sem {G : GT} {l : Launch} (hG : GOK G l)  (t : Nat) (ht : kd t = 0) (v1 : Int32) (P : PH)   : ∀ (n : Nat) (v2 : Int32) (v3 : Int32), Sem G l miX0_crossed 0 0 (rn (tI P)) 4 [(0, .ref (gA G t)), (1, .int v1), (2, .int v2), (3, .int v3)] [] P (Dr_crossed_4 t v1 P n v2 v3) := by
  intro n
  induction n with
  | zero => intro v2 v3; exact s_none rfl
  | succ n ih =>
    intro v2 v3
    rw [Dr_crossed_4]
    refine s_iload_n (pc := 4) 3 dX0_crossed_4 rfl rfl ?_
    refine s_sipush (pc := 5) (v := 144) dX0_crossed_5 rfl ?_
    refine s_icmp_ge (pc := 8) 71 dX0_crossed_8 rfl ?_ ?_
    · refine s_iload_n (pc := 71) 2 dX0_crossed_71 rfl rfl ?_
      exact s_iret (pc := 72) dX0_crossed_72 rfl rfl
    · refine s_aload_n (pc := 11) 0 dX0_crossed_11 rfl rfl ?_
      refine s_iload_n (pc := 12) 3 dX0_crossed_12 rfl rfl ?_
      refine s_iconst (pc := 13) (v := 1) dX0_crossed_13 rfl ?_
      refine s_callV (k := 0) (n := 0) (pc := 14) [.int v3, .int ((1 : Int32))] (fun x14 => .int x14 :: []) (fun _ => P) dX0_crossed_14 (cV_X0_92 hG) (Nat.le_of_ble_eq_true rfl) rfl ht (Dr_lineBy_ok hG t ht v3 (1 : Int32) P) rfl (fun _ => rfl) (fun _ => rfl) (Nat.le_of_ble_eq_true rfl) rfl rfl (fun x14 => ?_)
      refine s_istore (pc := 17) [(4, .int x14), (0, .ref (gA G t)), (1, .int v1), (2, .int v2), (3, .int v3)] dX0_crossed_17 (Nat.le_of_ble_eq_true rfl) rfl ?_
      refine s_aload_n (pc := 19) 1 dX0_crossed_19 rfl rfl ?_
      refine s_iload_n (pc := 20) 4 dX0_crossed_20 rfl rfl ?_
      refine s_iconst (pc := 21) (v := 0) dX0_crossed_21 rfl ?_
      refine s_callSN (k := 0) (n := 0) (pc := 22) [.int v3, .int ((0 : Int32))] (fun x22 => .int x22 :: [.ref (gA G t)]) (fun _ => P) dX0_crossed_22 (cSN_X0_96 hG) (Nat.le_of_ble_eq_true rfl) rfl (Bs_step_ok hG v3 (0 : Int32) P) rfl (fun _ => rfl) (fun _ => rfl) (Nat.le_of_ble_eq_true rfl) rfl rfl (fun x22 => ?_)
      refine s_iconst (pc := 25) (v := 3) dX0_crossed_25 rfl ?_
      refine s_callV (k := 0) (n := 0) (pc := 26) [.int x22, .int ((3 : Int32))] (fun x26 => .int x26 :: []) (fun _ => P) dX0_crossed_26 (cV_X0_92 hG) (Nat.le_of_ble_eq_true rfl) rfl ht (Dr_lineBy_ok hG t ht x22 (3 : Int32) P) rfl (fun _ => rfl) (fun _ => rfl) (Nat.le_of_ble_eq_true rfl) rfl rfl (fun x26 => ?_)
      refine s_istore (pc := 29) [(5, .int x26), (4, .int x14), (0, .ref (gA G t)), (1, .int v1), (2, .int v2), (3, .int v3)] dX0_crossed_29 (Nat.le_of_ble_eq_true rfl) rfl ?_
      refine s_iload (pc := 31) 1 dX0_crossed_31 rfl ?_
      refine s_iconst (pc := 33) (v := -1) dX0_crossed_33 rfl ?_
      refine s_icmp_eq (pc := 34) 65 dX0_crossed_34 rfl ?_ ?_
      · refine s_iinc (pc := 65) 5 1 [(3, .int (v3 + 1)), (5, .int x26), (4, .int x14), (0, .ref (gA G t)), (1, .int v1), (2, .int v2)] dX0_crossed_65 rfl rfl (Nat.le_of_ble_eq_true rfl) rfl ?_
        refine s_goto (pc := 68) 4 dX0_crossed_68 rfl ?_
        refine s_sub [3, 4, 5, 0] rfl ?_
        exact ih v2 (v3 + 1)
      · refine s_iload (pc := 37) 0 dX0_crossed_37 rfl ?_
        refine s_iconst (pc := 39) (v := -1) dX0_crossed_39 rfl ?_
        refine s_icmp_eq (pc := 40) 65 dX0_crossed_40 rfl ?_ ?_
        · refine s_iinc (pc := 65) 5 1 [(3, .int (v3 + 1)), (5, .int x26), (4, .int x14), (0, .ref (gA G t)), (1, .int v1), (2, .int v2)] dX0_crossed_65 rfl rfl (Nat.le_of_ble_eq_true rfl) rfl ?_
          refine s_goto (pc := 68) 4 dX0_crossed_68 rfl ?_
          refine s_sub [3, 4, 5, 0] rfl ?_
          exact ih v2 (v3 + 1)
        · refine s_iload_n (pc := 43) 3 dX0_crossed_43 rfl rfl ?_
          refine s_if_eq (pc := 44) 62 dX0_crossed_44 rfl ?_ ?_
          · refine s_iinc (pc := 62) 4 1 [(2, .int (v2 + 1)), (5, .int x26), (4, .int x14), (0, .ref (gA G t)), (1, .int v1), (3, .int v3)] dX0_crossed_62 rfl rfl (Nat.le_of_ble_eq_true rfl) rfl ?_
            refine s_iinc (pc := 65) 5 1 [(3, .int (v3 + 1)), (2, .int (v2 + 1)), (5, .int x26), (4, .int x14), (0, .ref (gA G t)), (1, .int v1)] dX0_crossed_65 rfl rfl (Nat.le_of_ble_eq_true rfl) rfl ?_
            refine s_goto (pc := 68) 4 dX0_crossed_68 rfl ?_
            refine s_sub [4, 5, 1, 0] rfl ?_
            exact ih (v2 + 1) (v3 + 1)
          · refine s_aload_n (pc := 47) 2 dX0_crossed_47 rfl rfl ?_
            refine s_iload (pc := 48) 1 dX0_crossed_48 rfl ?_
            refine s_callV (k := 0) (n := 0) (pc := 50) [.int x14] (fun x50 => .int x50 :: []) (fun _ => P) dX0_crossed_50 (cV_X0_84 hG) (Nat.le_of_ble_eq_true rfl) rfl ht (Dr_inkOf_ok hG t ht x14 P) rfl (fun _ => rfl) (fun _ => rfl) (Nat.le_of_ble_eq_true rfl) rfl rfl (fun x50 => ?_)
            refine s_aload_n (pc := 53) 2 dX0_crossed_53 rfl rfl ?_
            refine s_iload (pc := 54) 0 dX0_crossed_54 rfl ?_
            refine s_callV (k := 0) (n := 0) (pc := 56) [.int x26] (fun x56 => .int x56 :: [.int x50]) (fun _ => P) dX0_crossed_56 (cV_X0_84 hG) (Nat.le_of_ble_eq_true rfl) rfl ht (Dr_inkOf_ok hG t ht x26 P) rfl (fun _ => rfl) (fun _ => rfl) (Nat.le_of_ble_eq_true rfl) rfl rfl (fun x56 => ?_)
            refine s_icmp_eq (pc := 59) 65 dX0_crossed_59 rfl ?_ ?_
            · refine s_iinc (pc := 65) 5 1 [(3, .int (v3 + 1)), (5, .int x26), (4, .int x14), (0, .ref (gA G t)), (1, .int v1), (2, .int v2)] dX0_crossed_65 rfl rfl (Nat.le_of_ble_eq_true rfl) rfl ?_
              refine s_goto (pc := 68) 4 dX0_crossed_68 rfl ?_
              refine s_sub [3, 4, 5, 0] rfl ?_
              exact ih v2 (v3 + 1)
            · refine s_iinc (pc := 62) 4 1 [(2, .int (v2 + 1)), (5, .int x26), (4, .int x14), (0, .ref (gA G t)), (1, .int v1), (3, .int v3)] dX0_crossed_62 rfl rfl (Nat.le_of_ble_eq_true rfl) rfl ?_
              refine s_iinc (pc := 65) 5 1 [(3, .int (v3 + 1)), (2, .int (v2 + 1)), (5, .int x26), (4, .int x14), (0, .ref (gA G t)), (1, .int v1)] dX0_crossed_65 rfl rfl (Nat.le_of_ble_eq_true rfl) rfl ?_
              refine s_goto (pc := 68) 4 dX0_crossed_68 rfl ?_
              refine s_sub [4, 5, 1, 0] rfl ?_
              exact ih (v2 + 1) (v3 + 1)
def Dr_crossed  (t : Nat) (v1 : Int32) (P : PH) : Option (Int32) :=
  Dr_crossed_4 t v1 P bigN (0 : Int32) (0 : Int32)
set_option maxRecDepth 100000 in
set_option maxHeartbeats 4000000 in
theorem Dr_crossed_ok {G : GT} {l : Launch} (hG : GOK G l)  (t : Nat) (ht : kd t = 0) (v1 : Int32) (P : PH) : OkN G l yX0_crossed miX0_crossed 0 0 (tI P) [.ref (gA G t), .int v1] P (Dr_crossed t v1 P) := by
  refine okN_of hG _ [(0, .ref (gA G t)), (1, .int v1)] rfl rfl rfl (Nat.le_of_ble_eq_true rfl) rfl ?_
  unfold Dr_crossed
  refine s_iconst (pc := 0) (v := 0) dX0_crossed_0 rfl ?_
  refine s_istore_n (pc := 1) [(2, .int ((0 : Int32))), (0, .ref (gA G t)), (1, .int v1)] dX0_crossed_1 rfl (Nat.le_of_ble_eq_true rfl) rfl ?_
  refine s_iconst (pc := 2) (v := 0) dX0_crossed_2 rfl ?_
  refine s_istore_n (pc := 3) [(3, .int ((0 : Int32))), (2, .int ((0 : Int32))), (0, .ref (gA G t)), (1, .int v1)] dX0_crossed_3 rfl (Nat.le_of_ble_eq_true rfl) rfl ?_
  refine s_sub [2, 3, 1, 0] rfl ?_
  exact Dr_crossed_4_sem hG t ht v1 P bigN (0 : Int32) (0 : Int32)
def Dr_changed  (v0 : Int32) (v1 : Int32) (v2 : Int32) (v3 : Int32) (v4 : Int32) (v5 : Int32) (P : PH) : Option (Int32) :=
  (some (v0 - v0 / (12 : Int32) * (12 : Int32))).bind fun (u6_4 : Int32) =>
  (some (v0 / (12 : Int32))).bind fun (u7_10 : Int32) =>
  if v1 = 0 then
    (Bs_holeAt ((v2 + v5) - u7_10) ((v4 + u6_4) - v2) P).bind fun (x54 : Int32) =>
    some x54
  else
  if v1 = 1 then
    (Bs_holeAt ((v2 + v3) - u6_4) ((v4 + v5) - u7_10) P).bind fun (x72 : Int32) =>
    some x72
  else
  if v1 = 2 then
    (Bs_holeAt ((v2 + v3) - u6_4) u7_10 P).bind fun (x84 : Int32) =>
    some x84
  else
    (Bs_holeAt u6_4 ((v4 + v5) - u7_10) P).bind fun (x98 : Int32) =>
    some x98
set_option maxRecDepth 100000 in
set_option maxHeartbeats 4000000 in
theorem Dr_changed_ok {G : GT} {l : Launch} (hG : GOK G l)  (v0 : Int32) (v1 : Int32) (v2 : Int32) (v3 : Int32) (v4 : Int32) (v5 : Int32) (P : PH) : OkN G l yX0_changed miX0_changed 0 0 (tI P) [.int v0, .int v1, .int v2, .int v3, .int v4, .int v5] P (Dr_changed v0 v1 v2 v3 v4 v5 P) := by
  refine okN_of hG _ [(0, .int v0), (1, .int v1), (2, .int v2), (3, .int v3), (4, .int v4), (5, .int v5)] rfl rfl rfl (Nat.le_of_ble_eq_true rfl) rfl ?_
  unfold Dr_changed
  refine s_iload_n (pc := 0) 0 dX0_changed_0 rfl rfl ?_
  refine s_bipush (pc := 1) (v := 12) dX0_changed_1 rfl ?_
  refine s_irem (pc := 3) dX0_changed_3 (by decide) ?_
  refine s_letI (fun u6_4 => ?_)
  refine s_istore (pc := 4) [(6, .int u6_4), (0, .int v0), (1, .int v1), (2, .int v2), (3, .int v3), (4, .int v4), (5, .int v5)] dX0_changed_4 (Nat.le_of_ble_eq_true rfl) rfl ?_
  refine s_iload_n (pc := 6) 1 dX0_changed_6 rfl rfl ?_
  refine s_bipush (pc := 7) (v := 12) dX0_changed_7 rfl ?_
  refine s_idiv (pc := 9) dX0_changed_9 (by decide) ?_
  refine s_letI (fun u7_10 => ?_)
  refine s_istore (pc := 10) [(7, .int u7_10), (6, .int u6_4), (0, .int v0), (1, .int v1), (2, .int v2), (3, .int v3), (4, .int v4), (5, .int v5)] dX0_changed_10 (Nat.le_of_ble_eq_true rfl) rfl ?_
  refine s_iload_n (pc := 12) 3 dX0_changed_12 rfl rfl ?_
  refine s_sw (fun hx0 => ?_) (fun hx0 => ?_)
  · refine s_tin (pc := 13) 40 dX0_changed_13 (by rw [hx0]; decide) (by rw [hx0]; decide) (by rw [hx0]; rfl) rfl ?_
    refine s_iload_n (pc := 40) 4 dX0_changed_40 rfl rfl ?_
    refine s_iload (pc := 41) 7 dX0_changed_41 rfl ?_
    refine s_iadd (pc := 43) dX0_changed_43 ?_
    refine s_iload (pc := 44) 0 dX0_changed_44 rfl ?_
    refine s_isub (pc := 46) dX0_changed_46 ?_
    refine s_iload (pc := 47) 6 dX0_changed_47 rfl ?_
    refine s_iload (pc := 49) 1 dX0_changed_49 rfl ?_
    refine s_iadd (pc := 51) dX0_changed_51 ?_
    refine s_iload_n (pc := 52) 4 dX0_changed_52 rfl rfl ?_
    refine s_isub (pc := 53) dX0_changed_53 ?_
    refine s_callSN (k := 0) (n := 0) (pc := 54) [.int ((v2 + v5) - u7_10), .int ((v4 + u6_4) - v2)] (fun x54 => .int x54 :: []) (fun _ => P) dX0_changed_54 (cSN_X0_112 hG) (Nat.le_of_ble_eq_true rfl) rfl (Bs_holeAt_ok hG ((v2 + v5) - u7_10) ((v4 + u6_4) - v2) P) rfl (fun _ => rfl) (fun _ => rfl) (Nat.le_of_ble_eq_true rfl) rfl rfl (fun x54 => ?_)
    exact s_iret (pc := 57) dX0_changed_57 rfl rfl
  refine s_sw (fun hx1 => ?_) (fun hx1 => ?_)
  · refine s_tin (pc := 13) 58 dX0_changed_13 (by rw [hx1]; decide) (by rw [hx1]; decide) (by rw [hx1]; rfl) rfl ?_
    refine s_iload_n (pc := 58) 4 dX0_changed_58 rfl rfl ?_
    refine s_iload_n (pc := 59) 5 dX0_changed_59 rfl rfl ?_
    refine s_iadd (pc := 60) dX0_changed_60 ?_
    refine s_iload (pc := 61) 1 dX0_changed_61 rfl ?_
    refine s_isub (pc := 63) dX0_changed_63 ?_
    refine s_iload (pc := 64) 6 dX0_changed_64 rfl ?_
    refine s_iload (pc := 66) 7 dX0_changed_66 rfl ?_
    refine s_iadd (pc := 68) dX0_changed_68 ?_
    refine s_iload (pc := 69) 0 dX0_changed_69 rfl ?_
    refine s_isub (pc := 71) dX0_changed_71 ?_
    refine s_callSN (k := 0) (n := 0) (pc := 72) [.int ((v2 + v3) - u6_4), .int ((v4 + v5) - u7_10)] (fun x72 => .int x72 :: []) (fun _ => P) dX0_changed_72 (cSN_X0_112 hG) (Nat.le_of_ble_eq_true rfl) rfl (Bs_holeAt_ok hG ((v2 + v3) - u6_4) ((v4 + v5) - u7_10) P) rfl (fun _ => rfl) (fun _ => rfl) (Nat.le_of_ble_eq_true rfl) rfl rfl (fun x72 => ?_)
    exact s_iret (pc := 75) dX0_changed_75 rfl rfl
  refine s_sw (fun hx2 => ?_) (fun hx2 => ?_)
  · refine s_tin (pc := 13) 76 dX0_changed_13 (by rw [hx2]; decide) (by rw [hx2]; decide) (by rw [hx2]; rfl) rfl ?_
    refine s_iload_n (pc := 76) 4 dX0_changed_76 rfl rfl ?_
    refine s_iload_n (pc := 77) 5 dX0_changed_77 rfl rfl ?_
    refine s_iadd (pc := 78) dX0_changed_78 ?_
    refine s_iload (pc := 79) 1 dX0_changed_79 rfl ?_
    refine s_isub (pc := 81) dX0_changed_81 ?_
    refine s_iload (pc := 82) 0 dX0_changed_82 rfl ?_
    refine s_callSN (k := 0) (n := 0) (pc := 84) [.int ((v2 + v3) - u6_4), .int u7_10] (fun x84 => .int x84 :: []) (fun _ => P) dX0_changed_84 (cSN_X0_112 hG) (Nat.le_of_ble_eq_true rfl) rfl (Bs_holeAt_ok hG ((v2 + v3) - u6_4) u7_10 P) rfl (fun _ => rfl) (fun _ => rfl) (Nat.le_of_ble_eq_true rfl) rfl rfl (fun x84 => ?_)
    exact s_iret (pc := 87) dX0_changed_87 rfl rfl
  refine s_tout (pc := 13) 88 dX0_changed_13 (Classical.byContradiction fun hq => ?_) rfl ?_
  · have h9 : Int32.toInt v1 = 0 ∨ Int32.toInt v1 = 1 ∨ Int32.toInt v1 = 2 := by omega
    rcases h9 with h9 | h9 | h9
    · exact hx0 (Int32.toInt_inj.mp h9)
    · exact hx1 (Int32.toInt_inj.mp h9)
    · exact hx2 (Int32.toInt_inj.mp h9)
  · refine s_iload (pc := 88) 1 dX0_changed_88 rfl ?_
    refine s_iload (pc := 90) 6 dX0_changed_90 rfl ?_
    refine s_iload (pc := 92) 7 dX0_changed_92 rfl ?_
    refine s_iadd (pc := 94) dX0_changed_94 ?_
    refine s_iload (pc := 95) 0 dX0_changed_95 rfl ?_
    refine s_isub (pc := 97) dX0_changed_97 ?_
    refine s_callSN (k := 0) (n := 0) (pc := 98) [.int u6_4, .int ((v4 + v5) - u7_10)] (fun x98 => .int x98 :: []) (fun _ => P) dX0_changed_98 (cSN_X0_112 hG) (Nat.le_of_ble_eq_true rfl) rfl (Bs_holeAt_ok hG u6_4 ((v4 + v5) - u7_10) P) rfl (fun _ => rfl) (fun _ => rfl) (Nat.le_of_ble_eq_true rfl) rfl rfl (fun x98 => ?_)
    exact s_iret (pc := 101) dX0_changed_101 rfl rfl
def Dr_lineBetween  (t : Nat) (v1 : Int32) (v2 : Int32) (P : PH) : Option (Int32) :=
  (Dr_linesAt t v1 P).bind fun (x2 : Int64) =>
  (Dr_linesAt t v2 P).bind fun (x7 : Int64) =>
  (some (x2 &&& x7)).bind fun (u3_11 : Int64) =>
  if v1 = v2 then
    some (-1 : Int32)
  else
    if (lg_cmp u3_11 (0 : Int64)) = 0 then
      some (-1 : Int32)
    else
      (Bs_lowest u3_11 P).bind fun (x28 : Int32) =>
      some x28
set_option maxRecDepth 100000 in
set_option maxHeartbeats 4000000 in
theorem Dr_lineBetween_ok {G : GT} {l : Launch} (hG : GOK G l)  (t : Nat) (ht : kd t = 0) (v1 : Int32) (v2 : Int32) (P : PH) : OkN G l yX0_lineBetween miX0_lineBetween 0 0 (tI P) [.ref (gA G t), .int v1, .int v2] P (Dr_lineBetween t v1 v2 P) := by
  refine okN_of hG _ [(0, .ref (gA G t)), (1, .int v1), (2, .int v2)] rfl rfl rfl (Nat.le_of_ble_eq_true rfl) rfl ?_
  unfold Dr_lineBetween
  refine s_aload_n (pc := 0) 0 dX0_lineBetween_0 rfl rfl ?_
  refine s_iload_n (pc := 1) 1 dX0_lineBetween_1 rfl rfl ?_
  refine s_callV (k := 0) (n := 0) (pc := 2) [.int v1] (fun x2 => .long x2 :: []) (fun _ => P) dX0_lineBetween_2 (cV_X0_67 hG) (Nat.le_of_ble_eq_true rfl) rfl ht (Dr_linesAt_ok hG t ht v1 P) rfl (fun _ => rfl) (fun _ => rfl) (Nat.le_of_ble_eq_true rfl) rfl rfl (fun x2 => ?_)
  refine s_aload_n (pc := 5) 0 dX0_lineBetween_5 rfl rfl ?_
  refine s_iload_n (pc := 6) 2 dX0_lineBetween_6 rfl rfl ?_
  refine s_callV (k := 0) (n := 0) (pc := 7) [.int v2] (fun x7 => .long x7 :: [.long x2]) (fun _ => P) dX0_lineBetween_7 (cV_X0_67 hG) (Nat.le_of_ble_eq_true rfl) rfl ht (Dr_linesAt_ok hG t ht v2 P) rfl (fun _ => rfl) (fun _ => rfl) (Nat.le_of_ble_eq_true rfl) rfl rfl (fun x7 => ?_)
  refine s_land (pc := 10) dX0_lineBetween_10 ?_
  refine s_letL (fun u3_11 => ?_)
  refine s_lstore_n (pc := 11) [(3, .long u3_11), (0, .ref (gA G t)), (1, .int v1), (2, .int v2)] dX0_lineBetween_11 rfl (Nat.le_of_ble_eq_true rfl) rfl ?_
  refine s_iload_n (pc := 12) 2 dX0_lineBetween_12 rfl rfl ?_
  refine s_iload_n (pc := 13) 3 dX0_lineBetween_13 rfl rfl ?_
  refine s_icmp_eq (pc := 14) 23 dX0_lineBetween_14 rfl ?_ ?_
  · refine s_iconst (pc := 23) (v := -1) dX0_lineBetween_23 rfl ?_
    refine s_goto (pc := 24) 31 dX0_lineBetween_24 rfl ?_
    exact s_iret (pc := 31) dX0_lineBetween_31 rfl rfl
  · refine s_lload_n (pc := 17) 0 dX0_lineBetween_17 rfl rfl ?_
    refine s_lconst (pc := 18) (v := 0) dX0_lineBetween_18 rfl ?_
    refine s_lcmp (pc := 19) dX0_lineBetween_19 ?_
    refine s_if_ne (pc := 20) 27 dX0_lineBetween_20 rfl ?_ ?_
    · refine s_iconst (pc := 23) (v := -1) dX0_lineBetween_23 rfl ?_
      refine s_goto (pc := 24) 31 dX0_lineBetween_24 rfl ?_
      exact s_iret (pc := 31) dX0_lineBetween_31 rfl rfl
    · refine s_lload_n (pc := 27) 0 dX0_lineBetween_27 rfl rfl ?_
      refine s_callSN (k := 0) (n := 0) (pc := 28) [.long u3_11] (fun x28 => .int x28 :: []) (fun _ => P) dX0_lineBetween_28 (cSN_X0_71 hG) (Nat.le_of_ble_eq_true rfl) rfl (Bs_lowest_ok hG u3_11 P) rfl (fun _ => rfl) (fun _ => rfl) (Nat.le_of_ble_eq_true rfl) rfl rfl (fun x28 => ?_)
      exact s_iret (pc := 31) dX0_lineBetween_31 rfl rfl
def Dr_likeItself_87   (t : Nat) (v1 : Int32) (v2 : Int32) (v3 : Int32) (v4 : Int32) (v5 : Int32) (P : PH) : Nat → Int32 → Option (Int32)
  | 0 => fun _ => none
  | n + 1 => fun v6 =>
    if (P.1 t 0) ≤ v6 then
      gdP ((1 : Int32) = 0 ∨ (1 : Int32) = 1) <|
      some (1 : Int32)
    else
      (Dr_fromOf t v6 P).bind fun (x99 : Int32) =>
      (Dr_changed x99 v1 v2 v3 v4 v5 P).bind fun (x109 : Int32) =>
      (Dr_toOf t v6 P).bind fun (x117 : Int32) =>
      (Dr_changed x117 v1 v2 v3 v4 v5 P).bind fun (x127 : Int32) =>
      (Dr_lineBetween t x109 x127 P).bind fun (x137 : Int32) =>
      if x137 = (-1 : Int32) then
        gdP ((0 : Int32) = 0 ∨ (0 : Int32) = 1) <|
        some (0 : Int32)
      else
        (Dr_inkOf t x137 P).bind fun (x151 : Int32) =>
        (Dr_inkOf t v6 P).bind fun (x157 : Int32) =>
        if x151 = x157 then
          Dr_likeItself_87 t v1 v2 v3 v4 v5 P n (v6 + 1)
        else
          gdP ((0 : Int32) = 0 ∨ (0 : Int32) = 1) <|
          some (0 : Int32)
set_option maxRecDepth 100000 in
set_option maxHeartbeats 4000000 in
theorem Dr_likeItself_87_sem {G : GT} {l : Launch} (hG : GOK G l)  (t : Nat) (ht : kd t = 0) (v1 : Int32) (v2 : Int32) (v3 : Int32) (v4 : Int32) (v5 : Int32) (P : PH)   : ∀ (n : Nat) (v6 : Int32), Sem G l miX0_likeItself 0 0 (rn (tI P)) 87 [(0, .ref (gA G t)), (1, .int v1), (2, .int v2), (3, .int v3), (4, .int v4), (5, .int v5), (6, .int v6)] [] P (Dr_likeItself_87 t v1 v2 v3 v4 v5 P n v6) := by
  intro n
  induction n with
  | zero => intro v6; exact s_none rfl
  | succ n ih =>
    intro v6
    rw [Dr_likeItself_87]
    refine s_iload (pc := 87) 6 dX0_likeItself_87 rfl ?_
    refine s_aload_n (pc := 89) 0 dX0_likeItself_89 rfl rfl ?_
    refine s_getI (pc := 90) dX0_likeItself_90 (fi_X0_34 hG) ht ?_
    refine s_icmp_ge (pc := 93) 171 dX0_likeItself_93 rfl ?_ ?_
    · refine s_iconst (pc := 171) (v := 1) dX0_likeItself_171 rfl ?_
      exact s_zret (pc := 172) dX0_likeItself_172 rfl rfl
    · refine s_aload_n (pc := 96) 0 dX0_likeItself_96 rfl rfl ?_
      refine s_iload (pc := 97) 6 dX0_likeItself_97 rfl ?_
      refine s_callV (k := 0) (n := 0) (pc := 99) [.int v6] (fun x99 => .int x99 :: []) (fun _ => P) dX0_likeItself_99 (cV_X0_60 hG) (Nat.le_of_ble_eq_true rfl) rfl ht (Dr_fromOf_ok hG t ht v6 P) rfl (fun _ => rfl) (fun _ => rfl) (Nat.le_of_ble_eq_true rfl) rfl rfl (fun x99 => ?_)
      refine s_iload_n (pc := 102) 1 dX0_likeItself_102 rfl rfl ?_
      refine s_iload_n (pc := 103) 2 dX0_likeItself_103 rfl rfl ?_
      refine s_iload_n (pc := 104) 3 dX0_likeItself_104 rfl rfl ?_
      refine s_iload (pc := 105) 4 dX0_likeItself_105 rfl ?_
      refine s_iload (pc := 107) 5 dX0_likeItself_107 rfl ?_
      refine s_callS (k := 0) (n := 0) (pc := 109) [.int x99, .int v1, .int v2, .int v3, .int v4, .int v5] (fun x109 => .int x109 :: []) (fun _ => P) dX0_likeItself_109 (cS_X0_105 hG) (Nat.le_of_ble_eq_true rfl) rfl (Dr_changed_ok hG x99 v1 v2 v3 v4 v5 P) rfl (fun _ => rfl) (fun _ => rfl) (Nat.le_of_ble_eq_true rfl) rfl rfl (fun x109 => ?_)
      refine s_istore (pc := 112) [(7, .int x109), (0, .ref (gA G t)), (1, .int v1), (2, .int v2), (3, .int v3), (4, .int v4), (5, .int v5), (6, .int v6)] dX0_likeItself_112 (Nat.le_of_ble_eq_true rfl) rfl ?_
      refine s_aload_n (pc := 114) 1 dX0_likeItself_114 rfl rfl ?_
      refine s_iload (pc := 115) 7 dX0_likeItself_115 rfl ?_
      refine s_callV (k := 0) (n := 0) (pc := 117) [.int v6] (fun x117 => .int x117 :: []) (fun _ => P) dX0_likeItself_117 (cV_X0_64 hG) (Nat.le_of_ble_eq_true rfl) rfl ht (Dr_toOf_ok hG t ht v6 P) rfl (fun _ => rfl) (fun _ => rfl) (Nat.le_of_ble_eq_true rfl) rfl rfl (fun x117 => ?_)
      refine s_iload_n (pc := 120) 2 dX0_likeItself_120 rfl rfl ?_
      refine s_iload_n (pc := 121) 3 dX0_likeItself_121 rfl rfl ?_
      refine s_iload_n (pc := 122) 4 dX0_likeItself_122 rfl rfl ?_
      refine s_iload (pc := 123) 5 dX0_likeItself_123 rfl ?_
      refine s_iload (pc := 125) 6 dX0_likeItself_125 rfl ?_
      refine s_callS (k := 0) (n := 0) (pc := 127) [.int x117, .int v1, .int v2, .int v3, .int v4, .int v5] (fun x127 => .int x127 :: []) (fun _ => P) dX0_likeItself_127 (cS_X0_105 hG) (Nat.le_of_ble_eq_true rfl) rfl (Dr_changed_ok hG x117 v1 v2 v3 v4 v5 P) rfl (fun _ => rfl) (fun _ => rfl) (Nat.le_of_ble_eq_true rfl) rfl rfl (fun x127 => ?_)
      refine s_istore (pc := 130) [(8, .int x127), (7, .int x109), (0, .ref (gA G t)), (1, .int v1), (2, .int v2), (3, .int v3), (4, .int v4), (5, .int v5), (6, .int v6)] dX0_likeItself_130 (Nat.le_of_ble_eq_true rfl) rfl ?_
      refine s_aload_n (pc := 132) 2 dX0_likeItself_132 rfl rfl ?_
      refine s_iload (pc := 133) 1 dX0_likeItself_133 rfl ?_
      refine s_iload (pc := 135) 0 dX0_likeItself_135 rfl ?_
      refine s_callV (k := 0) (n := 0) (pc := 137) [.int x109, .int x127] (fun x137 => .int x137 :: []) (fun _ => P) dX0_likeItself_137 (cV_X0_109 hG) (Nat.le_of_ble_eq_true rfl) rfl ht (Dr_lineBetween_ok hG t ht x109 x127 P) rfl (fun _ => rfl) (fun _ => rfl) (Nat.le_of_ble_eq_true rfl) rfl rfl (fun x137 => ?_)
      refine s_istore (pc := 140) [(9, .int x137), (8, .int x127), (7, .int x109), (0, .ref (gA G t)), (1, .int v1), (2, .int v2), (3, .int v3), (4, .int v4), (5, .int v5), (6, .int v6)] dX0_likeItself_140 (Nat.le_of_ble_eq_true rfl) rfl ?_
      refine s_iload (pc := 142) 0 dX0_likeItself_142 rfl ?_
      refine s_iconst (pc := 144) (v := -1) dX0_likeItself_144 rfl ?_
      refine s_icmp_eq (pc := 145) 163 dX0_likeItself_145 rfl ?_ ?_
      · refine s_iconst (pc := 163) (v := 0) dX0_likeItself_163 rfl ?_
        exact s_zret (pc := 164) dX0_likeItself_164 rfl rfl
      · refine s_aload_n (pc := 148) 3 dX0_likeItself_148 rfl rfl ?_
        refine s_iload (pc := 149) 0 dX0_likeItself_149 rfl ?_
        refine s_callV (k := 0) (n := 0) (pc := 151) [.int x137] (fun x151 => .int x151 :: []) (fun _ => P) dX0_likeItself_151 (cV_X0_84 hG) (Nat.le_of_ble_eq_true rfl) rfl ht (Dr_inkOf_ok hG t ht x137 P) rfl (fun _ => rfl) (fun _ => rfl) (Nat.le_of_ble_eq_true rfl) rfl rfl (fun x151 => ?_)
        refine s_aload_n (pc := 154) 3 dX0_likeItself_154 rfl rfl ?_
        refine s_iload (pc := 155) 9 dX0_likeItself_155 rfl ?_
        refine s_callV (k := 0) (n := 0) (pc := 157) [.int v6] (fun x157 => .int x157 :: [.int x151]) (fun _ => P) dX0_likeItself_157 (cV_X0_84 hG) (Nat.le_of_ble_eq_true rfl) rfl ht (Dr_inkOf_ok hG t ht v6 P) rfl (fun _ => rfl) (fun _ => rfl) (Nat.le_of_ble_eq_true rfl) rfl rfl (fun x157 => ?_)
        refine s_icmp_eq (pc := 160) 165 dX0_likeItself_160 rfl ?_ ?_
        · refine s_iinc (pc := 165) 9 1 [(6, .int (v6 + 1)), (9, .int x137), (8, .int x127), (7, .int x109), (0, .ref (gA G t)), (1, .int v1), (2, .int v2), (3, .int v3), (4, .int v4), (5, .int v5)] dX0_likeItself_165 rfl rfl (Nat.le_of_ble_eq_true rfl) rfl ?_
          refine s_goto (pc := 168) 87 dX0_likeItself_168 rfl ?_
          refine s_sub [4, 5, 6, 7, 8, 9, 0] rfl ?_
          exact ih (v6 + 1)
        · refine s_iconst (pc := 163) (v := 0) dX0_likeItself_163 rfl ?_
          exact s_zret (pc := 164) dX0_likeItself_164 rfl rfl
def Dr_likeItself_15   (t : Nat) (v1 : Int32) (P : PH) : Nat → Int32 → Int32 → Int32 → Int32 → Int32 → Option (Int32)
  | 0 => fun _ _ _ _ _ => none
  | n + 1 => fun v2 v3 v4 v5 v6 =>
    if (144 : Int32) ≤ v6 then
      Dr_likeItself_87 t v1 v2 v3 v4 v5 P bigN (0 : Int32)
    else
      (Dr_linesAt t v6 P).bind fun (x26 : Int64) =>
      if (lg_cmp x26 (0 : Int64)) = 0 then
        Dr_likeItself_15 t v1 P n v2 v3 v4 v5 (v6 + 1)
      else
        (some (jMin v2 (v6 - v6 / (12 : Int32) * (12 : Int32)))).bind fun (u2_43 : Int32) =>
        (some (jMax v3 (v6 - v6 / (12 : Int32) * (12 : Int32)))).bind fun (u3_53 : Int32) =>
        (some (jMin v4 (v6 / (12 : Int32)))).bind fun (u4_64 : Int32) =>
        (some (jMax v5 (v6 / (12 : Int32)))).bind fun (u5_76 : Int32) =>
        Dr_likeItself_15 t v1 P n u2_43 u3_53 u4_64 u5_76 (v6 + 1)
set_option maxRecDepth 100000 in
set_option maxHeartbeats 4000000 in
theorem Dr_likeItself_15_sem {G : GT} {l : Launch} (hG : GOK G l)  (t : Nat) (ht : kd t = 0) (v1 : Int32) (P : PH)   : ∀ (n : Nat) (v2 : Int32) (v3 : Int32) (v4 : Int32) (v5 : Int32) (v6 : Int32), Sem G l miX0_likeItself 0 0 (rn (tI P)) 15 [(0, .ref (gA G t)), (1, .int v1), (2, .int v2), (3, .int v3), (4, .int v4), (5, .int v5), (6, .int v6)] [] P (Dr_likeItself_15 t v1 P n v2 v3 v4 v5 v6) := by
  intro n
  induction n with
  | zero => intro v2 v3 v4 v5 v6; exact s_none rfl
  | succ n ih =>
    intro v2 v3 v4 v5 v6
    rw [Dr_likeItself_15]
    refine s_iload (pc := 15) 6 dX0_likeItself_15 rfl ?_
    refine s_sipush (pc := 17) (v := 144) dX0_likeItself_17 rfl ?_
    refine s_icmp_ge (pc := 20) 84 dX0_likeItself_20 rfl ?_ ?_
    · refine s_iconst (pc := 84) (v := 0) dX0_likeItself_84 rfl ?_
      refine s_istore (pc := 85) [(6, .int ((0 : Int32))), (0, .ref (gA G t)), (1, .int v1), (2, .int v2), (3, .int v3), (4, .int v4), (5, .int v5)] dX0_likeItself_85 (Nat.le_of_ble_eq_true rfl) rfl ?_
      refine s_sub [1, 2, 3, 4, 5, 6, 0] rfl ?_
      exact Dr_likeItself_87_sem hG t ht v1 v2 v3 v4 v5 P bigN (0 : Int32)
    · refine s_aload_n (pc := 23) 0 dX0_likeItself_23 rfl rfl ?_
      refine s_iload (pc := 24) 6 dX0_likeItself_24 rfl ?_
      refine s_callV (k := 0) (n := 0) (pc := 26) [.int v6] (fun x26 => .long x26 :: []) (fun _ => P) dX0_likeItself_26 (cV_X0_67 hG) (Nat.le_of_ble_eq_true rfl) rfl ht (Dr_linesAt_ok hG t ht v6 P) rfl (fun _ => rfl) (fun _ => rfl) (Nat.le_of_ble_eq_true rfl) rfl rfl (fun x26 => ?_)
      refine s_lconst (pc := 29) (v := 0) dX0_likeItself_29 rfl ?_
      refine s_lcmp (pc := 30) dX0_likeItself_30 ?_
      refine s_if_eq (pc := 31) 78 dX0_likeItself_31 rfl ?_ ?_
      · refine s_iinc (pc := 78) 6 1 [(6, .int (v6 + 1)), (0, .ref (gA G t)), (1, .int v1), (2, .int v2), (3, .int v3), (4, .int v4), (5, .int v5)] dX0_likeItself_78 rfl rfl (Nat.le_of_ble_eq_true rfl) rfl ?_
        refine s_goto (pc := 81) 15 dX0_likeItself_81 rfl ?_
        refine s_sub [1, 2, 3, 4, 5, 6, 0] rfl ?_
        exact ih v2 v3 v4 v5 (v6 + 1)
      · refine s_iload_n (pc := 34) 2 dX0_likeItself_34 rfl rfl ?_
        refine s_iload (pc := 35) 6 dX0_likeItself_35 rfl ?_
        refine s_bipush (pc := 37) (v := 12) dX0_likeItself_37 rfl ?_
        refine s_irem (pc := 39) dX0_likeItself_39 (by decide) ?_
        refine s_mmin (pc := 40) dX0_likeItself_40 (mk_X0_99 hG) (Nat.le_of_ble_eq_true rfl) (Nat.le_of_ble_eq_true rfl) ?_
        refine s_letI (fun u2_43 => ?_)
        refine s_istore_n (pc := 43) [(2, .int u2_43), (0, .ref (gA G t)), (1, .int v1), (3, .int v3), (4, .int v4), (5, .int v5), (6, .int v6)] dX0_likeItself_43 rfl (Nat.le_of_ble_eq_true rfl) rfl ?_
        refine s_iload_n (pc := 44) 3 dX0_likeItself_44 rfl rfl ?_
        refine s_iload (pc := 45) 6 dX0_likeItself_45 rfl ?_
        refine s_bipush (pc := 47) (v := 12) dX0_likeItself_47 rfl ?_
        refine s_irem (pc := 49) dX0_likeItself_49 (by decide) ?_
        refine s_mmax (pc := 50) dX0_likeItself_50 (mk_X0_102 hG) (Nat.le_of_ble_eq_true rfl) (Nat.le_of_ble_eq_true rfl) ?_
        refine s_letI (fun u3_53 => ?_)
        refine s_istore_n (pc := 53) [(3, .int u3_53), (2, .int u2_43), (0, .ref (gA G t)), (1, .int v1), (4, .int v4), (5, .int v5), (6, .int v6)] dX0_likeItself_53 rfl (Nat.le_of_ble_eq_true rfl) rfl ?_
        refine s_iload (pc := 54) 4 dX0_likeItself_54 rfl ?_
        refine s_iload (pc := 56) 6 dX0_likeItself_56 rfl ?_
        refine s_bipush (pc := 58) (v := 12) dX0_likeItself_58 rfl ?_
        refine s_idiv (pc := 60) dX0_likeItself_60 (by decide) ?_
        refine s_mmin (pc := 61) dX0_likeItself_61 (mk_X0_99 hG) (Nat.le_of_ble_eq_true rfl) (Nat.le_of_ble_eq_true rfl) ?_
        refine s_letI (fun u4_64 => ?_)
        refine s_istore (pc := 64) [(4, .int u4_64), (3, .int u3_53), (2, .int u2_43), (0, .ref (gA G t)), (1, .int v1), (5, .int v5), (6, .int v6)] dX0_likeItself_64 (Nat.le_of_ble_eq_true rfl) rfl ?_
        refine s_iload (pc := 66) 5 dX0_likeItself_66 rfl ?_
        refine s_iload (pc := 68) 6 dX0_likeItself_68 rfl ?_
        refine s_bipush (pc := 70) (v := 12) dX0_likeItself_70 rfl ?_
        refine s_idiv (pc := 72) dX0_likeItself_72 (by decide) ?_
        refine s_mmax (pc := 73) dX0_likeItself_73 (mk_X0_102 hG) (Nat.le_of_ble_eq_true rfl) (Nat.le_of_ble_eq_true rfl) ?_
        refine s_letI (fun u5_76 => ?_)
        refine s_istore (pc := 76) [(5, .int u5_76), (4, .int u4_64), (3, .int u3_53), (2, .int u2_43), (0, .ref (gA G t)), (1, .int v1), (6, .int v6)] dX0_likeItself_76 (Nat.le_of_ble_eq_true rfl) rfl ?_
        refine s_iinc (pc := 78) 6 1 [(6, .int (v6 + 1)), (5, .int u5_76), (4, .int u4_64), (3, .int u3_53), (2, .int u2_43), (0, .ref (gA G t)), (1, .int v1)] dX0_likeItself_78 rfl rfl (Nat.le_of_ble_eq_true rfl) rfl ?_
        refine s_goto (pc := 81) 15 dX0_likeItself_81 rfl ?_
        refine s_sub [5, 6, 4, 3, 2, 1, 0] rfl ?_
        exact ih u2_43 u3_53 u4_64 u5_76 (v6 + 1)
def Dr_likeItself  (t : Nat) (v1 : Int32) (P : PH) : Option (Int32) :=
  Dr_likeItself_15 t v1 P bigN (12 : Int32) (0 : Int32) (12 : Int32) (0 : Int32) (0 : Int32)
set_option maxRecDepth 100000 in
set_option maxHeartbeats 4000000 in
theorem Dr_likeItself_ok {G : GT} {l : Launch} (hG : GOK G l)  (t : Nat) (ht : kd t = 0) (v1 : Int32) (P : PH) : OkN G l yX0_likeItself miX0_likeItself 0 0 (tI P) [.ref (gA G t), .int v1] P (Dr_likeItself t v1 P) := by
  refine okN_of hG _ [(0, .ref (gA G t)), (1, .int v1)] rfl rfl rfl (Nat.le_of_ble_eq_true rfl) rfl ?_
  unfold Dr_likeItself
  refine s_bipush (pc := 0) (v := 12) dX0_likeItself_0 rfl ?_
  refine s_istore_n (pc := 2) [(2, .int ((12 : Int32))), (0, .ref (gA G t)), (1, .int v1)] dX0_likeItself_2 rfl (Nat.le_of_ble_eq_true rfl) rfl ?_
  refine s_iconst (pc := 3) (v := 0) dX0_likeItself_3 rfl ?_
  refine s_istore_n (pc := 4) [(3, .int ((0 : Int32))), (2, .int ((12 : Int32))), (0, .ref (gA G t)), (1, .int v1)] dX0_likeItself_4 rfl (Nat.le_of_ble_eq_true rfl) rfl ?_
  refine s_bipush (pc := 5) (v := 12) dX0_likeItself_5 rfl ?_
  refine s_istore (pc := 7) [(4, .int ((12 : Int32))), (3, .int ((0 : Int32))), (2, .int ((12 : Int32))), (0, .ref (gA G t)), (1, .int v1)] dX0_likeItself_7 (Nat.le_of_ble_eq_true rfl) rfl ?_
  refine s_iconst (pc := 9) (v := 0) dX0_likeItself_9 rfl ?_
  refine s_istore (pc := 10) [(5, .int ((0 : Int32))), (4, .int ((12 : Int32))), (3, .int ((0 : Int32))), (2, .int ((12 : Int32))), (0, .ref (gA G t)), (1, .int v1)] dX0_likeItself_10 (Nat.le_of_ble_eq_true rfl) rfl ?_
  refine s_iconst (pc := 12) (v := 0) dX0_likeItself_12 rfl ?_
  refine s_istore (pc := 13) [(6, .int ((0 : Int32))), (5, .int ((0 : Int32))), (4, .int ((12 : Int32))), (3, .int ((0 : Int32))), (2, .int ((12 : Int32))), (0, .ref (gA G t)), (1, .int v1)] dX0_likeItself_13 (Nat.le_of_ble_eq_true rfl) rfl ?_
  refine s_sub [5, 6, 4, 3, 2, 1, 0] rfl ?_
  exact Dr_likeItself_15_sem hG t ht v1 P bigN (12 : Int32) (0 : Int32) (12 : Int32) (0 : Int32) (0 : Int32)
def Ne_copy  (t : Nat) (v1 : Nat) (P : PH) : Option (PH) :=
  (some (sL P t 0 (P.2 v1 0))).bind fun (P5 : PH) =>
  (some (sL P5 t 1 (P5.2 v1 1))).bind fun (P13 : PH) =>
  gdP ((P13.1 v1 2) = 0 ∨ (P13.1 v1 2) = 1) <|
  (some (sI P13 t 2 (P13.1 v1 2))).bind fun (P21 : PH) =>
  (some (sI P21 t 3 (P21.1 v1 3))).bind fun (P29 : PH) =>
  (some (sI P29 t 4 (P29.1 v1 4))).bind fun (P37 : PH) =>
  (some (sI P37 t 5 (P37.1 v1 5))).bind fun (P45 : PH) =>
  (some (sI P45 t 6 (P45.1 v1 6))).bind fun (P53 : PH) =>
  (some (sI P53 t 7 (P53.1 v1 7))).bind fun (P61 : PH) =>
  gdP ((P61.1 v1 8) = 0 ∨ (P61.1 v1 8) = 1) <|
  (some (sI P61 t 8 (P61.1 v1 8))).bind fun (P69 : PH) =>
  (some (rI P69 (t + 1) (fun j => if j < 120 then P69.1 (v1 + 1) j else P69.1 (t + 1) j))).bind fun (P84 : PH) =>
  some P84
set_option maxRecDepth 100000 in
set_option maxHeartbeats 4000000 in
theorem Ne_copy_ok {G : GT} {l : Launch} (hG : GOK G l)  (t : Nat) (ht : kd t = 2) (v1 : Nat) (hv1 : kd v1 = 2) (P : PH) : OkN G l yX2_copy miX2_copy 0 0 tVH [.ref (gA G t), .ref (gA G v1)] P (Ne_copy t v1 P) := by
  refine okN_of hG _ [(0, .ref (gA G t)), (1, .ref (gA G v1))] rfl rfl rfl (Nat.le_of_ble_eq_true rfl) rfl ?_
  unfold Ne_copy
  refine s_aload_n (pc := 0) 0 dX2_copy_0 rfl rfl ?_
  refine s_aload_n (pc := 1) 1 dX2_copy_1 rfl rfl ?_
  refine s_getL (pc := 2) dX2_copy_2 (fi_X2_19 hG) hv1 ?_
  refine s_putL (pc := 5) dX2_copy_5 (fp_X2_19 hG) ht ?_
  refine s_letP (fun P5 => ?_)
  refine s_aload_n (pc := 8) 0 dX2_copy_8 rfl rfl ?_
  refine s_aload_n (pc := 9) 1 dX2_copy_9 rfl rfl ?_
  refine s_getL (pc := 10) dX2_copy_10 (fi_X2_23 hG) hv1 ?_
  refine s_putL (pc := 13) dX2_copy_13 (fp_X2_23 hG) ht ?_
  refine s_letP (fun P13 => ?_)
  refine s_aload_n (pc := 16) 0 dX2_copy_16 rfl rfl ?_
  refine s_aload_n (pc := 17) 1 dX2_copy_17 rfl rfl ?_
  refine s_getI (pc := 18) dX2_copy_18 (fi_X2_26 hG) hv1 ?_
  refine s_putZ (pc := 21) dX2_copy_21 (fp_X2_26 hG) ht ?_
  refine s_letP (fun P21 => ?_)
  refine s_aload_n (pc := 24) 0 dX2_copy_24 rfl rfl ?_
  refine s_aload_n (pc := 25) 1 dX2_copy_25 rfl rfl ?_
  refine s_getI (pc := 26) dX2_copy_26 (fi_X2_34 hG) hv1 ?_
  refine s_putI (pc := 29) dX2_copy_29 (fp_X2_34 hG) ht ?_
  refine s_letP (fun P29 => ?_)
  refine s_aload_n (pc := 32) 0 dX2_copy_32 rfl rfl ?_
  refine s_aload_n (pc := 33) 1 dX2_copy_33 rfl rfl ?_
  refine s_getI (pc := 34) dX2_copy_34 (fi_X2_37 hG) hv1 ?_
  refine s_putI (pc := 37) dX2_copy_37 (fp_X2_37 hG) ht ?_
  refine s_letP (fun P37 => ?_)
  refine s_aload_n (pc := 40) 0 dX2_copy_40 rfl rfl ?_
  refine s_aload_n (pc := 41) 1 dX2_copy_41 rfl rfl ?_
  refine s_getI (pc := 42) dX2_copy_42 (fi_X2_40 hG) hv1 ?_
  refine s_putI (pc := 45) dX2_copy_45 (fp_X2_40 hG) ht ?_
  refine s_letP (fun P45 => ?_)
  refine s_aload_n (pc := 48) 0 dX2_copy_48 rfl rfl ?_
  refine s_aload_n (pc := 49) 1 dX2_copy_49 rfl rfl ?_
  refine s_getI (pc := 50) dX2_copy_50 (fi_X2_43 hG) hv1 ?_
  refine s_putI (pc := 53) dX2_copy_53 (fp_X2_43 hG) ht ?_
  refine s_letP (fun P53 => ?_)
  refine s_aload_n (pc := 56) 0 dX2_copy_56 rfl rfl ?_
  refine s_aload_n (pc := 57) 1 dX2_copy_57 rfl rfl ?_
  refine s_getI (pc := 58) dX2_copy_58 (fi_X2_30 hG) hv1 ?_
  refine s_putI (pc := 61) dX2_copy_61 (fp_X2_30 hG) ht ?_
  refine s_letP (fun P61 => ?_)
  refine s_aload_n (pc := 64) 0 dX2_copy_64 rfl rfl ?_
  refine s_aload_n (pc := 65) 1 dX2_copy_65 rfl rfl ?_
  refine s_getI (pc := 66) dX2_copy_66 (fi_X2_46 hG) hv1 ?_
  refine s_putZ (pc := 69) dX2_copy_69 (fp_X2_46 hG) ht ?_
  refine s_letP (fun P69 => ?_)
  refine s_aload_n (pc := 72) 1 dX2_copy_72 rfl rfl ?_
  refine s_getR (pc := 73) (v1 + 1) dX2_copy_73 (fi_X2_9 hG) hv1 rfl ?_
  refine s_iconst (pc := 76) (v := 0) dX2_copy_76 rfl ?_
  refine s_aload_n (pc := 77) 0 dX2_copy_77 rfl rfl ?_
  refine s_getR (pc := 78) (t + 1) dX2_copy_78 (fi_X2_9 hG) ht rfl ?_
  refine s_iconst (pc := 81) (v := 0) dX2_copy_81 rfl ?_
  refine s_bipush (pc := 82) (v := 120) dX2_copy_82 rfl ?_
  refine s_copyI (pc := 84) 120 dX2_copy_84 (cp_X2_49 hG) (kdf_2_10 hv1).1 (kdf_2_10 hv1).2 (kdf_2_10 ht).1 (kdf_2_10 ht).2 (Nat.le_of_ble_eq_true rfl) (Nat.le_of_ble_eq_true rfl) (Nat.le_of_ble_eq_true rfl) (Nat.le_of_ble_eq_true rfl) ?_
  refine s_letP (fun P84 => ?_)
  exact s_vret (pc := 87) dX2_copy_87 rfl rfl
def Im_make  (t : Nat) (v1 : Nat) (v2 : Nat) (P : PH) : Option (PH) :=
  gdP ((1 : Int32) = 0 ∨ (1 : Int32) = 1) <|
  (some (sI P t 0 (1 : Int32))).bind fun (P2 : PH) =>
  (Dr_copy (imD t) v1 P2).bind fun (x10 : PH) =>
  (Ne_copy (imN t) v2 x10).bind fun (x18 : PH) =>
  some x18
set_option maxRecDepth 100000 in
set_option maxHeartbeats 4000000 in
theorem Im_make_ok {G : GT} {l : Launch} (hG : GOK G l)  (t : Nat) (ht : kd t = 1) (v1 : Nat) (hv1 : kd v1 = 0) (v2 : Nat) (hv2 : kd v2 = 2) (P : PH) : OkN G l yX1_make miX1_make 0 0 tVH [.ref (gA G t), .ref (gA G v1), .ref (gA G v2)] P (Im_make t v1 v2 P) := by
  refine okN_of hG _ [(0, .ref (gA G t)), (1, .ref (gA G v1)), (2, .ref (gA G v2))] rfl rfl rfl (Nat.le_of_ble_eq_true rfl) rfl ?_
  unfold Im_make
  refine s_aload_n (pc := 0) 0 dX1_make_0 rfl rfl ?_
  refine s_iconst (pc := 1) (v := 1) dX1_make_1 rfl ?_
  refine s_putZ (pc := 2) dX1_make_2 (fp_X1_25 hG) ht ?_
  refine s_letP (fun P2 => ?_)
  refine s_aload_n (pc := 5) 0 dX1_make_5 rfl rfl ?_
  refine s_getR (pc := 6) (imD t) dX1_make_6 (fi_X1_10 hG) ht rfl ?_
  refine s_aload_n (pc := 9) 1 dX1_make_9 rfl rfl ?_
  refine s_callV (k := 0) (n := 0) (pc := 10) [.ref (gA G v1)] (fun _ => []) (fun x10 => x10) dX1_make_10 (cV_X1_29 hG) (Nat.le_of_ble_eq_true rfl) rfl (kdf_1_1 ht) (Dr_copy_ok hG (imD t) (kdf_1_1 ht) v1 hv1 P2) rfl (fun _ => rfl) (fun _ => rfl) (Nat.le_of_ble_eq_true rfl) rfl rfl (fun x10 => ?_)
  refine s_aload_n (pc := 13) 0 dX1_make_13 rfl rfl ?_
  refine s_getR (pc := 14) (imN t) dX1_make_14 (fi_X1_21 hG) ht rfl ?_
  refine s_aload_n (pc := 17) 2 dX1_make_17 rfl rfl ?_
  refine s_callV (k := 0) (n := 0) (pc := 18) [.ref (gA G v2)] (fun _ => []) (fun x18 => x18) dX1_make_18 (cV_X1_32 hG) (Nat.le_of_ble_eq_true rfl) rfl (kdf_1_2 ht) (Ne_copy_ok hG (imN t) (kdf_1_2 ht) v2 hv2 x10) rfl (fun _ => rfl) (fun _ => rfl) (Nat.le_of_ble_eq_true rfl) rfl rfl (fun x18 => ?_)
  exact s_vret (pc := 21) dX1_make_21 rfl rfl
def Ne_clear  (t : Nat) (P : PH) : Option (PH) :=
  (some (sL P t 0 (0 : Int64))).bind fun (P2 : PH) =>
  (some (sL P2 t 1 (0 : Int64))).bind fun (P7 : PH) =>
  gdP ((0 : Int32) = 0 ∨ (0 : Int32) = 1) <|
  (some (sI P7 t 2 (0 : Int32))).bind fun (P12 : PH) =>
  (some (sI P12 t 7 (0 : Int32))).bind fun (P17 : PH) =>
  some P17
set_option maxRecDepth 100000 in
set_option maxHeartbeats 4000000 in
theorem Ne_clear_ok {G : GT} {l : Launch} (hG : GOK G l)  (t : Nat) (ht : kd t = 2) (P : PH) : OkN G l yX2_clear miX2_clear 0 0 tVH [.ref (gA G t)] P (Ne_clear t P) := by
  refine okN_of hG _ [(0, .ref (gA G t))] rfl rfl rfl (Nat.le_of_ble_eq_true rfl) rfl ?_
  unfold Ne_clear
  refine s_aload_n (pc := 0) 0 dX2_clear_0 rfl rfl ?_
  refine s_lconst (pc := 1) (v := 0) dX2_clear_1 rfl ?_
  refine s_putL (pc := 2) dX2_clear_2 (fp_X2_19 hG) ht ?_
  refine s_letP (fun P2 => ?_)
  refine s_aload_n (pc := 5) 0 dX2_clear_5 rfl rfl ?_
  refine s_lconst (pc := 6) (v := 0) dX2_clear_6 rfl ?_
  refine s_putL (pc := 7) dX2_clear_7 (fp_X2_23 hG) ht ?_
  refine s_letP (fun P7 => ?_)
  refine s_aload_n (pc := 10) 0 dX2_clear_10 rfl rfl ?_
  refine s_iconst (pc := 11) (v := 0) dX2_clear_11 rfl ?_
  refine s_putZ (pc := 12) dX2_clear_12 (fp_X2_26 hG) ht ?_
  refine s_letP (fun P12 => ?_)
  refine s_aload_n (pc := 15) 0 dX2_clear_15 rfl rfl ?_
  refine s_iconst (pc := 16) (v := 0) dX2_clear_16 rfl ?_
  refine s_putI (pc := 17) dX2_clear_17 (fp_X2_30 hG) ht ?_
  refine s_letP (fun P17 => ?_)
  exact s_vret (pc := 20) dX2_clear_20 rfl rfl
def Ne_snip  (t : Nat) (P : PH) : Option (PH) :=
  gdP ((0 : Int32) = 0 ∨ (0 : Int32) = 1) <|
  (some (sI P t 2 (0 : Int32))).bind fun (P2 : PH) =>
  (some (sI P2 t 7 ((P2.1 t 7) + (1 : Int32)))).bind fun (P12 : PH) =>
  some P12
set_option maxRecDepth 100000 in
set_option maxHeartbeats 4000000 in
theorem Ne_snip_ok {G : GT} {l : Launch} (hG : GOK G l)  (t : Nat) (ht : kd t = 2) (P : PH) : OkN G l yX2_snip miX2_snip 0 0 tVH [.ref (gA G t)] P (Ne_snip t P) := by
  refine okN_of hG _ [(0, .ref (gA G t))] rfl rfl rfl (Nat.le_of_ble_eq_true rfl) rfl ?_
  unfold Ne_snip
  refine s_aload_n (pc := 0) 0 dX2_snip_0 rfl rfl ?_
  refine s_iconst (pc := 1) (v := 0) dX2_snip_1 rfl ?_
  refine s_putZ (pc := 2) dX2_snip_2 (fp_X2_26 hG) ht ?_
  refine s_letP (fun P2 => ?_)
  refine s_aload_n (pc := 5) 0 dX2_snip_5 rfl rfl ?_
  refine s_dup (pc := 6) dX2_snip_6 rfl ?_
  refine s_getI (pc := 7) dX2_snip_7 (fi_X2_30 hG) ht ?_
  refine s_iconst (pc := 10) (v := 1) dX2_snip_10 rfl ?_
  refine s_iadd (pc := 11) dX2_snip_11 ?_
  refine s_putI (pc := 12) dX2_snip_12 (fp_X2_30 hG) ht ?_
  refine s_letP (fun P12 => ?_)
  exact s_vret (pc := 15) dX2_snip_15 rfl rfl
def Ne_start_11   (t : Nat) (v1 : Int32) (v2 : Int32) (v3 : Int32) (P : PH) : Option (PH) :=
  gdP ((1 : Int32) = 0 ∨ (1 : Int32) = 1) <|
  (some (sI P t 2 (1 : Int32))).bind fun (P13 : PH) =>
  (some (sI P13 t 3 v2)).bind fun (P18 : PH) =>
  (some (sI P18 t 4 v1)).bind fun (P23 : PH) =>
  (some (sI P23 t 5 v1)).bind fun (P28 : PH) =>
  (some (sI P28 t 6 (0 : Int32))).bind fun (P33 : PH) =>
  gdP (v3 = 0 ∨ v3 = 1) <|
  (some (sI P33 t 8 v3)).bind fun (P38 : PH) =>
  some P38
set_option maxRecDepth 100000 in
set_option maxHeartbeats 4000000 in
theorem Ne_start_11_sem {G : GT} {l : Launch} (hG : GOK G l)  (t : Nat) (ht : kd t = 2) (v1 : Int32) (v2 : Int32) (v3 : Int32) (P : PH)   : Sem G l miX2_start 0 0 (rn tVH) 11 [(0, .ref (gA G t)), (1, .int v1), (2, .int v2), (3, .int v3)] [] P (Ne_start_11 t v1 v2 v3 P) := by
  unfold Ne_start_11
  refine s_aload_n (pc := 11) 0 dX2_start_11 rfl rfl ?_
  refine s_iconst (pc := 12) (v := 1) dX2_start_12 rfl ?_
  refine s_putZ (pc := 13) dX2_start_13 (fp_X2_26 hG) ht ?_
  refine s_letP (fun P13 => ?_)
  refine s_aload_n (pc := 16) 0 dX2_start_16 rfl rfl ?_
  refine s_iload_n (pc := 17) 2 dX2_start_17 rfl rfl ?_
  refine s_putI (pc := 18) dX2_start_18 (fp_X2_34 hG) ht ?_
  refine s_letP (fun P18 => ?_)
  refine s_aload_n (pc := 21) 0 dX2_start_21 rfl rfl ?_
  refine s_iload_n (pc := 22) 1 dX2_start_22 rfl rfl ?_
  refine s_putI (pc := 23) dX2_start_23 (fp_X2_37 hG) ht ?_
  refine s_letP (fun P23 => ?_)
  refine s_aload_n (pc := 26) 0 dX2_start_26 rfl rfl ?_
  refine s_iload_n (pc := 27) 1 dX2_start_27 rfl rfl ?_
  refine s_putI (pc := 28) dX2_start_28 (fp_X2_40 hG) ht ?_
  refine s_letP (fun P28 => ?_)
  refine s_aload_n (pc := 31) 0 dX2_start_31 rfl rfl ?_
  refine s_iconst (pc := 32) (v := 0) dX2_start_32 rfl ?_
  refine s_putI (pc := 33) dX2_start_33 (fp_X2_43 hG) ht ?_
  refine s_letP (fun P33 => ?_)
  refine s_aload_n (pc := 36) 0 dX2_start_36 rfl rfl ?_
  refine s_iload_n (pc := 37) 3 dX2_start_37 rfl rfl ?_
  refine s_putZ (pc := 38) dX2_start_38 (fp_X2_46 hG) ht ?_
  refine s_letP (fun P38 => ?_)
  exact s_vret (pc := 41) dX2_start_41 rfl rfl
def Ne_start  (t : Nat) (v1 : Int32) (v2 : Int32) (v3 : Int32) (P : PH) : Option (PH) :=
  if (P.1 t 2) = 0 then
    Ne_start_11 t v1 v2 v3 P
  else
    (Ne_snip t P).bind fun (x8 : PH) =>
    Ne_start_11 t v1 v2 v3 x8
set_option maxRecDepth 100000 in
set_option maxHeartbeats 4000000 in
theorem Ne_start_ok {G : GT} {l : Launch} (hG : GOK G l)  (t : Nat) (ht : kd t = 2) (v1 : Int32) (v2 : Int32) (v3 : Int32) (P : PH) : OkN G l yX2_start miX2_start 0 0 tVH [.ref (gA G t), .int v1, .int v2, .int v3] P (Ne_start t v1 v2 v3 P) := by
  refine okN_of hG _ [(0, .ref (gA G t)), (1, .int v1), (2, .int v2), (3, .int v3)] rfl rfl rfl (Nat.le_of_ble_eq_true rfl) rfl ?_
  unfold Ne_start
  refine s_aload_n (pc := 0) 0 dX2_start_0 rfl rfl ?_
  refine s_getI (pc := 1) dX2_start_1 (fi_X2_26 hG) ht ?_
  refine s_if_eq (pc := 4) 11 dX2_start_4 rfl ?_ ?_
  · exact Ne_start_11_sem hG t ht v1 v2 v3 P
  · refine s_aload_n (pc := 7) 0 dX2_start_7 rfl rfl ?_
    refine s_callV (k := 0) (n := 0) (pc := 8) [] (fun _ => []) (fun x8 => x8) dX2_start_8 (cV_X2_55 hG) (Nat.le_of_ble_eq_true rfl) rfl ht (Ne_snip_ok hG t ht P) rfl (fun _ => rfl) (fun _ => rfl) (Nat.le_of_ble_eq_true rfl) rfl rfl (fun x8 => ?_)
    exact Ne_start_11_sem hG t ht v1 v2 v3 x8
def Ne_nextOver  (t : Nat) (P : PH) : Option (Int32) :=
  if ((P.1 t 6) &&& (1 : Int32)) = 0 then
    if (P.1 t 8) = (1 : Int32) then
      gdP ((1 : Int32) = 0 ∨ (1 : Int32) = 1) <|
      some (1 : Int32)
    else
      gdP ((0 : Int32) = 0 ∨ (0 : Int32) = 1) <|
      some (0 : Int32)
  else
    if (P.1 t 8) = (0 : Int32) then
      gdP ((1 : Int32) = 0 ∨ (1 : Int32) = 1) <|
      some (1 : Int32)
    else
      gdP ((0 : Int32) = 0 ∨ (0 : Int32) = 1) <|
      some (0 : Int32)
set_option maxRecDepth 100000 in
set_option maxHeartbeats 4000000 in
theorem Ne_nextOver_ok {G : GT} {l : Launch} (hG : GOK G l)  (t : Nat) (ht : kd t = 2) (P : PH) : OkN G l yX2_nextOver miX2_nextOver 0 0 (tI P) [.ref (gA G t)] P (Ne_nextOver t P) := by
  refine okN_of hG _ [(0, .ref (gA G t))] rfl rfl rfl (Nat.le_of_ble_eq_true rfl) rfl ?_
  unfold Ne_nextOver
  refine s_aload_n (pc := 0) 0 dX2_nextOver_0 rfl rfl ?_
  refine s_getI (pc := 1) dX2_nextOver_1 (fi_X2_46 hG) ht ?_
  refine s_aload_n (pc := 4) 0 dX2_nextOver_4 rfl rfl ?_
  refine s_getI (pc := 5) dX2_nextOver_5 (fi_X2_43 hG) ht ?_
  refine s_iconst (pc := 8) (v := 1) dX2_nextOver_8 rfl ?_
  refine s_iand (pc := 9) dX2_nextOver_9 ?_
  refine s_if_ne (pc := 10) 17 dX2_nextOver_10 rfl ?_ ?_
  · refine s_iconst (pc := 13) (v := 1) dX2_nextOver_13 rfl ?_
    refine s_goto (pc := 14) 18 dX2_nextOver_14 rfl ?_
    refine s_icmp_ne (pc := 18) 25 dX2_nextOver_18 rfl ?_ ?_
    · refine s_iconst (pc := 21) (v := 1) dX2_nextOver_21 rfl ?_
      refine s_goto (pc := 22) 26 dX2_nextOver_22 rfl ?_
      exact s_zret (pc := 26) dX2_nextOver_26 rfl rfl
    · refine s_iconst (pc := 25) (v := 0) dX2_nextOver_25 rfl ?_
      exact s_zret (pc := 26) dX2_nextOver_26 rfl rfl
  · refine s_iconst (pc := 17) (v := 0) dX2_nextOver_17 rfl ?_
    refine s_icmp_ne (pc := 18) 25 dX2_nextOver_18 rfl ?_ ?_
    · refine s_iconst (pc := 21) (v := 1) dX2_nextOver_21 rfl ?_
      refine s_goto (pc := 22) 26 dX2_nextOver_22 rfl ?_
      exact s_zret (pc := 26) dX2_nextOver_26 rfl rfl
    · refine s_iconst (pc := 25) (v := 0) dX2_nextOver_25 rfl ?_
      exact s_zret (pc := 26) dX2_nextOver_26 rfl rfl
def Ne_wayOf  (t : Nat) (v1 : Int32) (P : PH) : Option (Int32) :=
  if v1 < 0 then
    some (-1 : Int32)
  else
    if (P.1 t 6) ≤ v1 then
      some (-1 : Int32)
    else
      if (120 : Int32) ≤ v1 then
        some (-1 : Int32)
      else
        gdI v1 120 <|
        some (P.1 (t + 1) v1.toNatClampNeg)
set_option maxRecDepth 100000 in
set_option maxHeartbeats 4000000 in
theorem Ne_wayOf_ok {G : GT} {l : Launch} (hG : GOK G l)  (t : Nat) (ht : kd t = 2) (v1 : Int32) (P : PH) : OkN G l yX2_wayOf miX2_wayOf 0 0 (tI P) [.ref (gA G t), .int v1] P (Ne_wayOf t v1 P) := by
  refine okN_of hG _ [(0, .ref (gA G t)), (1, .int v1)] rfl rfl rfl (Nat.le_of_ble_eq_true rfl) rfl ?_
  unfold Ne_wayOf
  refine s_iload_n (pc := 0) 1 dX2_wayOf_0 rfl rfl ?_
  refine s_if_lt (pc := 1) 30 dX2_wayOf_1 rfl ?_ ?_
  · refine s_iconst (pc := 30) (v := -1) dX2_wayOf_30 rfl ?_
    exact s_iret (pc := 31) dX2_wayOf_31 rfl rfl
  · refine s_iload_n (pc := 4) 1 dX2_wayOf_4 rfl rfl ?_
    refine s_aload_n (pc := 5) 0 dX2_wayOf_5 rfl rfl ?_
    refine s_getI (pc := 6) dX2_wayOf_6 (fi_X2_43 hG) ht ?_
    refine s_icmp_ge (pc := 9) 30 dX2_wayOf_9 rfl ?_ ?_
    · refine s_iconst (pc := 30) (v := -1) dX2_wayOf_30 rfl ?_
      exact s_iret (pc := 31) dX2_wayOf_31 rfl rfl
    · refine s_iload_n (pc := 12) 1 dX2_wayOf_12 rfl rfl ?_
      refine s_aload_n (pc := 13) 0 dX2_wayOf_13 rfl rfl ?_
      refine s_getR (pc := 14) (t + 1) dX2_wayOf_14 (fi_X2_9 hG) ht rfl ?_
      refine s_alen (pc := 17) (t := 1) 120 120 dX2_wayOf_17 (kdf_2_10 ht).1 (Nat.le_of_ble_eq_true rfl) (kdf_2_10 ht).2 rfl ?_
      refine s_icmp_ge (pc := 18) 30 dX2_wayOf_18 rfl ?_ ?_
      · refine s_iconst (pc := 30) (v := -1) dX2_wayOf_30 rfl ?_
        exact s_iret (pc := 31) dX2_wayOf_31 rfl rfl
      · refine s_aload_n (pc := 21) 0 dX2_wayOf_21 rfl rfl ?_
        refine s_getR (pc := 22) (t + 1) dX2_wayOf_22 (fi_X2_9 hG) ht rfl ?_
        refine s_iload_n (pc := 25) 1 dX2_wayOf_25 rfl rfl ?_
        refine s_iald (pc := 26) 120 dX2_wayOf_26 (kdf_2_10 ht).1 (kdf_2_10 ht).2 ?_
        refine s_goto (pc := 27) 31 dX2_wayOf_27 rfl ?_
        exact s_iret (pc := 31) dX2_wayOf_31 rfl rfl
