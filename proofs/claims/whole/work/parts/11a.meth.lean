def Mo_thrown   (P : PH) : Option (Int32) :=
  some (P.1 1 5)
set_option maxRecDepth 100000 in
set_option maxHeartbeats 4000000 in
theorem Mo_thrown_ok {G : GT} {l : Launch} (hG : GOK G l)   (P : PH) : OkN G l yX11_thrown miX11_thrown 0 0 (tI P) [.ref (gA G 1)] P (Mo_thrown P) := by
  refine okN_of hG _ [(0, .ref (gA G 1))] rfl rfl rfl (Nat.le_of_ble_eq_true rfl) rfl ?_
  unfold Mo_thrown
  refine s_aload_n (pc := 0) 0 dX11_thrown_0 rfl rfl ?_
  refine s_getI (pc := 1) dX11_thrown_1 (fi_X11_86 hG) kd_1 ?_
  exact s_iret (pc := 4) dX11_thrown_4 rfl rfl
def Mo_fails  (v1 : Int32) (P : PH) : Option (Int32 × PH) :=
  (some (sI P 1 5 v1)).bind fun (P2 : PH) =>
  some ((0 : Int32), P2)
set_option maxRecDepth 100000 in
set_option maxHeartbeats 4000000 in
theorem Mo_fails_ok {G : GT} {l : Launch} (hG : GOK G l)  (v1 : Int32) (P : PH) : OkN G l yX11_fails miX11_fails 0 0 tIH [.ref (gA G 1), .int v1] P (Mo_fails v1 P) := by
  refine okN_of hG _ [(0, .ref (gA G 1)), (1, .int v1)] rfl rfl rfl (Nat.le_of_ble_eq_true rfl) rfl ?_
  unfold Mo_fails
  refine s_aload_n (pc := 0) 0 dX11_fails_0 rfl rfl ?_
  refine s_iload_n (pc := 1) 1 dX11_fails_1 rfl rfl ?_
  refine s_putI (pc := 2) dX11_fails_2 (fp_X11_86 hG) kd_1 ?_
  refine s_letP (fun P2 => ?_)
  refine s_iconst (pc := 5) (v := 0) dX11_fails_5 rfl ?_
  exact s_iret (pc := 6) dX11_fails_6 rfl rfl
def Mo_within  (v0 : Int64) (v2 : Int64) (v4 : Int64) (P : PH) : Option (Int32) :=
  if (lg_cmp v0 v2) < 0 then
    gdP ((0 : Int32) = 0 ∨ (0 : Int32) = 1) <|
    some (0 : Int32)
  else
    if 0 < (lg_cmp v0 v4) then
      gdP ((0 : Int32) = 0 ∨ (0 : Int32) = 1) <|
      some (0 : Int32)
    else
      gdP ((1 : Int32) = 0 ∨ (1 : Int32) = 1) <|
      some (1 : Int32)
set_option maxRecDepth 100000 in
set_option maxHeartbeats 4000000 in
theorem Mo_within_ok {G : GT} {l : Launch} (hG : GOK G l)  (v0 : Int64) (v2 : Int64) (v4 : Int64) (P : PH) : OkN G l yX11_within miX11_within 0 0 (tI P) [.long v0, .long v2, .long v4] P (Mo_within v0 v2 v4 P) := by
  refine okN_of hG _ [(0, .long v0), (2, .long v2), (4, .long v4)] rfl rfl rfl (Nat.le_of_ble_eq_true rfl) rfl ?_
  unfold Mo_within
  refine s_lload_n (pc := 0) 0 dX11_within_0 rfl rfl ?_
  refine s_lload_n (pc := 1) 1 dX11_within_1 rfl rfl ?_
  refine s_lcmp (pc := 2) dX11_within_2 ?_
  refine s_if_lt (pc := 3) 17 dX11_within_3 rfl ?_ ?_
  · refine s_iconst (pc := 17) (v := 0) dX11_within_17 rfl ?_
    exact s_zret (pc := 18) dX11_within_18 rfl rfl
  · refine s_lload_n (pc := 6) 0 dX11_within_6 rfl rfl ?_
    refine s_lload (pc := 7) 2 dX11_within_7 rfl ?_
    refine s_lcmp (pc := 9) dX11_within_9 ?_
    refine s_if_gt (pc := 10) 17 dX11_within_10 rfl ?_ ?_
    · refine s_iconst (pc := 17) (v := 0) dX11_within_17 rfl ?_
      exact s_zret (pc := 18) dX11_within_18 rfl rfl
    · refine s_iconst (pc := 13) (v := 1) dX11_within_13 rfl ?_
      refine s_goto (pc := 14) 18 dX11_within_14 rfl ?_
      exact s_zret (pc := 18) dX11_within_18 rfl rfl
def Mo_copies_2   (v0 : Nat) (v1 : Nat)  : Nat → Int32 → PH → Option (PH)
  | 0 => fun _ _ => none
  | n + 1 => fun v2 P =>
    if (512 : Int32) ≤ v2 then
      some P
    else
      gdI v2 512 <|
      gdI v2 512 <|
      (some (sI P v1 v2.toNatClampNeg (P.1 v0 v2.toNatClampNeg))).bind fun (P14 : PH) =>
      Mo_copies_2 v0 v1 n (v2 + 1) P14
set_option maxRecDepth 100000 in
set_option maxHeartbeats 4000000 in
theorem Mo_copies_2_sem {G : GT} {l : Launch} (hG : GOK G l)  (v0 : Nat) (hv0 : kd v0 = 13 ∧ ln v0 = 512) (v1 : Nat) (hv1 : kd v1 = 13 ∧ ln v1 = 512)    : ∀ (n : Nat) (v2 : Int32) (P : PH), Sem G l miX11_copies 0 0 (rn tVH) 2 [(0, .ref (gA G v0)), (1, .ref (gA G v1)), (2, .int v2)] [] P (Mo_copies_2 v0 v1 n v2 P) := by
  intro n
  induction n with
  | zero => intro v2 P; exact s_none rfl
  | succ n ih =>
    intro v2 P
    rw [Mo_copies_2]
    refine s_iload_n (pc := 2) 2 dX11_copies_2 rfl rfl ?_
    refine s_sipush (pc := 3) (v := 512) dX11_copies_3 rfl ?_
    refine s_icmp_ge (pc := 6) 21 dX11_copies_6 rfl ?_ ?_
    · exact s_vret (pc := 21) dX11_copies_21 rfl rfl
    · refine s_aload_n (pc := 9) 1 dX11_copies_9 rfl rfl ?_
      refine s_iload_n (pc := 10) 2 dX11_copies_10 rfl rfl ?_
      refine s_aload_n (pc := 11) 0 dX11_copies_11 rfl rfl ?_
      refine s_iload_n (pc := 12) 2 dX11_copies_12 rfl rfl ?_
      refine s_iald (pc := 13) 512 dX11_copies_13 hv0.1 hv0.2 ?_
      refine s_iast (pc := 14) 512 dX11_copies_14 hv1.1 hv1.2 ?_
      refine s_letP (fun P14 => ?_)
      refine s_iinc (pc := 15) 2 1 [(2, .int (v2 + 1)), (0, .ref (gA G v0)), (1, .ref (gA G v1))] dX11_copies_15 rfl rfl (Nat.le_of_ble_eq_true rfl) rfl ?_
      refine s_goto (pc := 18) 2 dX11_copies_18 rfl ?_
      refine s_sub [1, 2, 0] rfl ?_
      exact ih (v2 + 1) P14
def Mo_copies  (v0 : Nat) (v1 : Nat) (P : PH) : Option (PH) :=
  Mo_copies_2 v0 v1 bigN (0 : Int32) P
set_option maxRecDepth 100000 in
set_option maxHeartbeats 4000000 in
theorem Mo_copies_ok {G : GT} {l : Launch} (hG : GOK G l)  (v0 : Nat) (hv0 : kd v0 = 13 ∧ ln v0 = 512) (v1 : Nat) (hv1 : kd v1 = 13 ∧ ln v1 = 512) (P : PH) : OkN G l yX11_copies miX11_copies 0 0 tVH [.ref (gA G v0), .ref (gA G v1)] P (Mo_copies v0 v1 P) := by
  refine okN_of hG _ [(0, .ref (gA G v0)), (1, .ref (gA G v1))] rfl rfl rfl (Nat.le_of_ble_eq_true rfl) rfl ?_
  unfold Mo_copies
  refine s_iconst (pc := 0) (v := 0) dX11_copies_0 rfl ?_
  refine s_istore_n (pc := 1) [(2, .int ((0 : Int32))), (0, .ref (gA G v0)), (1, .ref (gA G v1))] dX11_copies_1 rfl (Nat.le_of_ble_eq_true rfl) rfl ?_
  refine s_sub [1, 2, 0] rfl ?_
  exact Mo_copies_2_sem hG v0 ⟨hv0.1, hv0.2⟩ v1 ⟨hv1.1, hv1.2⟩ bigN (0 : Int32) P
def Mo_acrossOf  (v0 : Int32) (P : PH) : Option (Int32) :=
  if v0 = 0 then
    some (1 : Int32)
  else
    if v0 = (1 : Int32) then
      some (1 : Int32)
    else
      if v0 = (7 : Int32) then
        some (1 : Int32)
      else
        if v0 = (2 : Int32) then
          some (0 : Int32)
        else
          if v0 = (6 : Int32) then
            some (0 : Int32)
          else
            some (-1 : Int32)
set_option maxRecDepth 100000 in
set_option maxHeartbeats 4000000 in
theorem Mo_acrossOf_ok {G : GT} {l : Launch} (hG : GOK G l)  (v0 : Int32) (P : PH) : OkN G l yX11_acrossOf miX11_acrossOf 0 0 (tI P) [.int v0] P (Mo_acrossOf v0 P) := by
  refine okN_of hG _ [(0, .int v0)] rfl rfl rfl (Nat.le_of_ble_eq_true rfl) rfl ?_
  unfold Mo_acrossOf
  refine s_iload_n (pc := 0) 0 dX11_acrossOf_0 rfl rfl ?_
  refine s_if_eq (pc := 1) 15 dX11_acrossOf_1 rfl ?_ ?_
  · refine s_iconst (pc := 15) (v := 1) dX11_acrossOf_15 rfl ?_
    refine s_goto (pc := 16) 35 dX11_acrossOf_16 rfl ?_
    exact s_iret (pc := 35) dX11_acrossOf_35 rfl rfl
  · refine s_iload_n (pc := 4) 0 dX11_acrossOf_4 rfl rfl ?_
    refine s_iconst (pc := 5) (v := 1) dX11_acrossOf_5 rfl ?_
    refine s_icmp_eq (pc := 6) 15 dX11_acrossOf_6 rfl ?_ ?_
    · refine s_iconst (pc := 15) (v := 1) dX11_acrossOf_15 rfl ?_
      refine s_goto (pc := 16) 35 dX11_acrossOf_16 rfl ?_
      exact s_iret (pc := 35) dX11_acrossOf_35 rfl rfl
    · refine s_iload_n (pc := 9) 0 dX11_acrossOf_9 rfl rfl ?_
      refine s_bipush (pc := 10) (v := 7) dX11_acrossOf_10 rfl ?_
      refine s_icmp_ne (pc := 12) 19 dX11_acrossOf_12 rfl ?_ ?_
      · refine s_iconst (pc := 15) (v := 1) dX11_acrossOf_15 rfl ?_
        refine s_goto (pc := 16) 35 dX11_acrossOf_16 rfl ?_
        exact s_iret (pc := 35) dX11_acrossOf_35 rfl rfl
      · refine s_iload_n (pc := 19) 0 dX11_acrossOf_19 rfl rfl ?_
        refine s_iconst (pc := 20) (v := 2) dX11_acrossOf_20 rfl ?_
        refine s_icmp_eq (pc := 21) 30 dX11_acrossOf_21 rfl ?_ ?_
        · refine s_iconst (pc := 30) (v := 0) dX11_acrossOf_30 rfl ?_
          refine s_goto (pc := 31) 35 dX11_acrossOf_31 rfl ?_
          exact s_iret (pc := 35) dX11_acrossOf_35 rfl rfl
        · refine s_iload_n (pc := 24) 0 dX11_acrossOf_24 rfl rfl ?_
          refine s_bipush (pc := 25) (v := 6) dX11_acrossOf_25 rfl ?_
          refine s_icmp_ne (pc := 27) 34 dX11_acrossOf_27 rfl ?_ ?_
          · refine s_iconst (pc := 30) (v := 0) dX11_acrossOf_30 rfl ?_
            refine s_goto (pc := 31) 35 dX11_acrossOf_31 rfl ?_
            exact s_iret (pc := 35) dX11_acrossOf_35 rfl rfl
          · refine s_iconst (pc := 34) (v := -1) dX11_acrossOf_34 rfl ?_
            exact s_iret (pc := 35) dX11_acrossOf_35 rfl rfl
def Mo_upOf  (v0 : Int32) (P : PH) : Option (Int32) :=
  if v0 = 0 then
    some (0 : Int32)
  else
    if v0 = (4 : Int32) then
      some (0 : Int32)
    else
      if (4 : Int32) ≤ v0 then
        some (-1 : Int32)
      else
        some (1 : Int32)
set_option maxRecDepth 100000 in
set_option maxHeartbeats 4000000 in
theorem Mo_upOf_ok {G : GT} {l : Launch} (hG : GOK G l)  (v0 : Int32) (P : PH) : OkN G l yX11_upOf miX11_upOf 0 0 (tI P) [.int v0] P (Mo_upOf v0 P) := by
  refine okN_of hG _ [(0, .int v0)] rfl rfl rfl (Nat.le_of_ble_eq_true rfl) rfl ?_
  unfold Mo_upOf
  refine s_iload_n (pc := 0) 0 dX11_upOf_0 rfl rfl ?_
  refine s_if_eq (pc := 1) 9 dX11_upOf_1 rfl ?_ ?_
  · refine s_iconst (pc := 9) (v := 0) dX11_upOf_9 rfl ?_
    refine s_goto (pc := 10) 23 dX11_upOf_10 rfl ?_
    exact s_iret (pc := 23) dX11_upOf_23 rfl rfl
  · refine s_iload_n (pc := 4) 0 dX11_upOf_4 rfl rfl ?_
    refine s_iconst (pc := 5) (v := 4) dX11_upOf_5 rfl ?_
    refine s_icmp_ne (pc := 6) 13 dX11_upOf_6 rfl ?_ ?_
    · refine s_iconst (pc := 9) (v := 0) dX11_upOf_9 rfl ?_
      refine s_goto (pc := 10) 23 dX11_upOf_10 rfl ?_
      exact s_iret (pc := 23) dX11_upOf_23 rfl rfl
    · refine s_iload_n (pc := 13) 0 dX11_upOf_13 rfl rfl ?_
      refine s_iconst (pc := 14) (v := 4) dX11_upOf_14 rfl ?_
      refine s_icmp_ge (pc := 15) 22 dX11_upOf_15 rfl ?_ ?_
      · refine s_iconst (pc := 22) (v := -1) dX11_upOf_22 rfl ?_
        exact s_iret (pc := 23) dX11_upOf_23 rfl rfl
      · refine s_iconst (pc := 18) (v := 1) dX11_upOf_18 rfl ?_
        refine s_goto (pc := 19) 23 dX11_upOf_19 rfl ?_
        exact s_iret (pc := 23) dX11_upOf_23 rfl rfl
def Mo_step  (v0 : Int32) (v1 : Int32) (P : PH) : Option (Int32) :=
  (Mo_acrossOf v1 P).bind fun (x5 : Int32) =>
  (some ((v0 - v0 / (12 : Int32) * (12 : Int32)) + x5)).bind fun (u2_9 : Int32) =>
  (Mo_upOf v1 P).bind fun (x15 : Int32) =>
  (some ((v0 / (12 : Int32)) + x15)).bind fun (u3_19 : Int32) =>
  (Mo_within u2_9.toInt64 (0 : Int64) (11 : Int64) P).bind fun (x26 : Int32) =>
  if x26 = 0 then
    some (-1 : Int32)
  else
    (Mo_within u3_19.toInt64 (0 : Int64) (11 : Int64) P).bind fun (x38 : Int32) =>
    if x38 = 0 then
      some (-1 : Int32)
    else
      some (((12 : Int32) * u3_19) + u2_9)
set_option maxRecDepth 100000 in
set_option maxHeartbeats 4000000 in
theorem Mo_step_ok {G : GT} {l : Launch} (hG : GOK G l)  (v0 : Int32) (v1 : Int32) (P : PH) : OkN G l yX11_step miX11_step 0 0 (tI P) [.int v0, .int v1] P (Mo_step v0 v1 P) := by
  refine okN_of hG _ [(0, .int v0), (1, .int v1)] rfl rfl rfl (Nat.le_of_ble_eq_true rfl) rfl ?_
  unfold Mo_step
  refine s_iload_n (pc := 0) 0 dX11_step_0 rfl rfl ?_
  refine s_bipush (pc := 1) (v := 12) dX11_step_1 rfl ?_
  refine s_irem (pc := 3) dX11_step_3 (by decide) ?_
  refine s_iload_n (pc := 4) 1 dX11_step_4 rfl rfl ?_
  refine s_callS (k := 0) (n := 0) (pc := 5) [.int v1] (fun x5 => .int x5 :: [.int (v0 - v0 / (12 : Int32) * (12 : Int32))]) (fun _ => P) dX11_step_5 (cS_X11_89 hG) (Nat.le_of_ble_eq_true rfl) rfl (Mo_acrossOf_ok hG v1 P) rfl (fun _ => rfl) (fun _ => rfl) (Nat.le_of_ble_eq_true rfl) rfl rfl (fun x5 => ?_)
  refine s_iadd (pc := 8) dX11_step_8 ?_
  refine s_letI (fun u2_9 => ?_)
  refine s_istore_n (pc := 9) [(2, .int u2_9), (0, .int v0), (1, .int v1)] dX11_step_9 rfl (Nat.le_of_ble_eq_true rfl) rfl ?_
  refine s_iload_n (pc := 10) 1 dX11_step_10 rfl rfl ?_
  refine s_bipush (pc := 11) (v := 12) dX11_step_11 rfl ?_
  refine s_idiv (pc := 13) dX11_step_13 (by decide) ?_
  refine s_iload_n (pc := 14) 2 dX11_step_14 rfl rfl ?_
  refine s_callS (k := 0) (n := 0) (pc := 15) [.int v1] (fun x15 => .int x15 :: [.int (v0 / (12 : Int32))]) (fun _ => P) dX11_step_15 (cS_X11_93 hG) (Nat.le_of_ble_eq_true rfl) rfl (Mo_upOf_ok hG v1 P) rfl (fun _ => rfl) (fun _ => rfl) (Nat.le_of_ble_eq_true rfl) rfl rfl (fun x15 => ?_)
  refine s_iadd (pc := 18) dX11_step_18 ?_
  refine s_letI (fun u3_19 => ?_)
  refine s_istore_n (pc := 19) [(3, .int u3_19), (2, .int u2_9), (0, .int v0), (1, .int v1)] dX11_step_19 rfl (Nat.le_of_ble_eq_true rfl) rfl ?_
  refine s_iload_n (pc := 20) 1 dX11_step_20 rfl rfl ?_
  refine s_i2l (pc := 21) dX11_step_21 ?_
  refine s_lconst (pc := 22) (v := 0) dX11_step_22 rfl ?_
  refine s_ldc2 (pc := 23) (v := 11) dX11_step_23 (gw_X11_96 hG) ?_
  refine s_callS (k := 0) (n := 0) (pc := 26) [.long (u2_9.toInt64), .long ((0 : Int64)), .long ((11 : Int64))] (fun x26 => .int x26 :: []) (fun _ => P) dX11_step_26 (cS_X11_98 hG) (Nat.le_of_ble_eq_true rfl) rfl (Mo_within_ok hG u2_9.toInt64 (0 : Int64) (11 : Int64) P) rfl (fun _ => rfl) (fun _ => rfl) (Nat.le_of_ble_eq_true rfl) rfl rfl (fun x26 => ?_)
  refine s_if_eq (pc := 29) 53 dX11_step_29 rfl ?_ ?_
  · refine s_iconst (pc := 53) (v := -1) dX11_step_53 rfl ?_
    exact s_iret (pc := 54) dX11_step_54 rfl rfl
  · refine s_iload_n (pc := 32) 0 dX11_step_32 rfl rfl ?_
    refine s_i2l (pc := 33) dX11_step_33 ?_
    refine s_lconst (pc := 34) (v := 0) dX11_step_34 rfl ?_
    refine s_ldc2 (pc := 35) (v := 11) dX11_step_35 (gw_X11_96 hG) ?_
    refine s_callS (k := 0) (n := 0) (pc := 38) [.long (u3_19.toInt64), .long ((0 : Int64)), .long ((11 : Int64))] (fun x38 => .int x38 :: []) (fun _ => P) dX11_step_38 (cS_X11_98 hG) (Nat.le_of_ble_eq_true rfl) rfl (Mo_within_ok hG u3_19.toInt64 (0 : Int64) (11 : Int64) P) rfl (fun _ => rfl) (fun _ => rfl) (Nat.le_of_ble_eq_true rfl) rfl rfl (fun x38 => ?_)
    refine s_if_eq (pc := 41) 53 dX11_step_41 rfl ?_ ?_
    · refine s_iconst (pc := 53) (v := -1) dX11_step_53 rfl ?_
      exact s_iret (pc := 54) dX11_step_54 rfl rfl
    · refine s_bipush (pc := 44) (v := 12) dX11_step_44 rfl ?_
      refine s_iload_n (pc := 46) 0 dX11_step_46 rfl rfl ?_
      refine s_imul (pc := 47) dX11_step_47 ?_
      refine s_iload_n (pc := 48) 1 dX11_step_48 rfl rfl ?_
      refine s_iadd (pc := 49) dX11_step_49 ?_
      refine s_goto (pc := 50) 54 dX11_step_50 rfl ?_
      exact s_iret (pc := 54) dX11_step_54 rfl rfl
def Mo_isHole  (v0 : Int32) (P : PH) : Option (Int32) :=
  (Mo_within v0.toInt64 (0 : Int64) (143 : Int64) P).bind fun (x6 : Int32) =>
  gdP (x6 = 0 ∨ x6 = 1) <|
  some x6
set_option maxRecDepth 100000 in
set_option maxHeartbeats 4000000 in
theorem Mo_isHole_ok {G : GT} {l : Launch} (hG : GOK G l)  (v0 : Int32) (P : PH) : OkN G l yX11_isHole miX11_isHole 0 0 (tI P) [.int v0] P (Mo_isHole v0 P) := by
  refine okN_of hG _ [(0, .int v0)] rfl rfl rfl (Nat.le_of_ble_eq_true rfl) rfl ?_
  unfold Mo_isHole
  refine s_iload_n (pc := 0) 0 dX11_isHole_0 rfl rfl ?_
  refine s_i2l (pc := 1) dX11_isHole_1 ?_
  refine s_lconst (pc := 2) (v := 0) dX11_isHole_2 rfl ?_
  refine s_ldc2 (pc := 3) (v := 143) dX11_isHole_3 (gw_X11_102 hG) ?_
  refine s_callS (k := 0) (n := 0) (pc := 6) [.long (v0.toInt64), .long ((0 : Int64)), .long ((143 : Int64))] (fun x6 => .int x6 :: []) (fun _ => P) dX11_isHole_6 (cS_X11_98 hG) (Nat.le_of_ble_eq_true rfl) rfl (Mo_within_ok hG v0.toInt64 (0 : Int64) (143 : Int64) P) rfl (fun _ => rfl) (fun _ => rfl) (Nat.le_of_ble_eq_true rfl) rfl rfl (fun x6 => ?_)
  exact s_zret (pc := 9) dX11_isHole_9 rfl rfl
def Mo_isWay  (v0 : Int64) (P : PH) : Option (Int32) :=
  (Mo_within v0 (0 : Int64) (7 : Int64) P).bind fun (x5 : Int32) =>
  gdP (x5 = 0 ∨ x5 = 1) <|
  some x5
set_option maxRecDepth 100000 in
set_option maxHeartbeats 4000000 in
theorem Mo_isWay_ok {G : GT} {l : Launch} (hG : GOK G l)  (v0 : Int64) (P : PH) : OkN G l yX11_isWay miX11_isWay 0 0 (tI P) [.long v0] P (Mo_isWay v0 P) := by
  refine okN_of hG _ [(0, .long v0)] rfl rfl rfl (Nat.le_of_ble_eq_true rfl) rfl ?_
  unfold Mo_isWay
  refine s_lload_n (pc := 0) 0 dX11_isWay_0 rfl rfl ?_
  refine s_lconst (pc := 1) (v := 0) dX11_isWay_1 rfl ?_
  refine s_ldc2 (pc := 2) (v := 7) dX11_isWay_2 (gw_X11_104 hG) ?_
  refine s_callS (k := 0) (n := 0) (pc := 5) [.long v0, .long ((0 : Int64)), .long ((7 : Int64))] (fun x5 => .int x5 :: []) (fun _ => P) dX11_isWay_5 (cS_X11_98 hG) (Nat.le_of_ble_eq_true rfl) rfl (Mo_within_ok hG v0 (0 : Int64) (7 : Int64) P) rfl (fun _ => rfl) (fun _ => rfl) (Nat.le_of_ble_eq_true rfl) rfl rfl (fun x5 => ?_)
  exact s_zret (pc := 8) dX11_isWay_8 rfl rfl
def Mo_isInk  (v0 : Int32) (P : PH) : Option (Int32) :=
  (Mo_within v0.toInt64 (0 : Int64) (3 : Int64) P).bind fun (x6 : Int32) =>
  gdP (x6 = 0 ∨ x6 = 1) <|
  some x6
set_option maxRecDepth 100000 in
set_option maxHeartbeats 4000000 in
theorem Mo_isInk_ok {G : GT} {l : Launch} (hG : GOK G l)  (v0 : Int32) (P : PH) : OkN G l yX11_isInk miX11_isInk 0 0 (tI P) [.int v0] P (Mo_isInk v0 P) := by
  refine okN_of hG _ [(0, .int v0)] rfl rfl rfl (Nat.le_of_ble_eq_true rfl) rfl ?_
  unfold Mo_isInk
  refine s_iload_n (pc := 0) 0 dX11_isInk_0 rfl rfl ?_
  refine s_i2l (pc := 1) dX11_isInk_1 ?_
  refine s_lconst (pc := 2) (v := 0) dX11_isInk_2 rfl ?_
  refine s_ldc2 (pc := 3) (v := 3) dX11_isInk_3 (gw_X11_106 hG) ?_
  refine s_callS (k := 0) (n := 0) (pc := 6) [.long (v0.toInt64), .long ((0 : Int64)), .long ((3 : Int64))] (fun x6 => .int x6 :: []) (fun _ => P) dX11_isInk_6 (cS_X11_98 hG) (Nat.le_of_ble_eq_true rfl) rfl (Mo_within_ok hG v0.toInt64 (0 : Int64) (3 : Int64) P) rfl (fun _ => rfl) (fun _ => rfl) (Nat.le_of_ble_eq_true rfl) rfl rfl (fun x6 => ?_)
  exact s_zret (pc := 9) dX11_isInk_9 rfl rfl
def Mo_endOf  (v0 : Nat) (v1 : Int32) (P : PH) : Option (Int32) :=
  gdI (((8 : Int32) + ((4 : Int32) * v1)) + (0 : Int32)) 512 <|
  gdI (((8 : Int32) + ((4 : Int32) * v1)) + (1 : Int32)) 512 <|
  (Mo_step (P.1 v0 (((8 : Int32) + ((4 : Int32) * v1)) + (0 : Int32)).toNatClampNeg) (P.1 v0 (((8 : Int32) + ((4 : Int32) * v1)) + (1 : Int32)).toNatClampNeg) P).bind fun (x20 : Int32) =>
  some x20
set_option maxRecDepth 100000 in
set_option maxHeartbeats 4000000 in
theorem Mo_endOf_ok {G : GT} {l : Launch} (hG : GOK G l)  (v0 : Nat) (hv0 : kd v0 = 13 ∧ ln v0 = 512) (v1 : Int32) (P : PH) : OkN G l yX11_endOf miX11_endOf 0 0 (tI P) [.ref (gA G v0), .int v1] P (Mo_endOf v0 v1 P) := by
  refine okN_of hG _ [(0, .ref (gA G v0)), (1, .int v1)] rfl rfl rfl (Nat.le_of_ble_eq_true rfl) rfl ?_
  unfold Mo_endOf
  refine s_aload_n (pc := 0) 0 dX11_endOf_0 rfl rfl ?_
  refine s_bipush (pc := 1) (v := 8) dX11_endOf_1 rfl ?_
  refine s_iconst (pc := 3) (v := 4) dX11_endOf_3 rfl ?_
  refine s_iload_n (pc := 4) 1 dX11_endOf_4 rfl rfl ?_
  refine s_imul (pc := 5) dX11_endOf_5 ?_
  refine s_iadd (pc := 6) dX11_endOf_6 ?_
  refine s_iconst (pc := 7) (v := 0) dX11_endOf_7 rfl ?_
  refine s_iadd (pc := 8) dX11_endOf_8 ?_
  refine s_iald (pc := 9) 512 dX11_endOf_9 hv0.1 hv0.2 ?_
  refine s_aload_n (pc := 10) 0 dX11_endOf_10 rfl rfl ?_
  refine s_bipush (pc := 11) (v := 8) dX11_endOf_11 rfl ?_
  refine s_iconst (pc := 13) (v := 4) dX11_endOf_13 rfl ?_
  refine s_iload_n (pc := 14) 1 dX11_endOf_14 rfl rfl ?_
  refine s_imul (pc := 15) dX11_endOf_15 ?_
  refine s_iadd (pc := 16) dX11_endOf_16 ?_
  refine s_iconst (pc := 17) (v := 1) dX11_endOf_17 rfl ?_
  refine s_iadd (pc := 18) dX11_endOf_18 ?_
  refine s_iald (pc := 19) 512 dX11_endOf_19 hv0.1 hv0.2 ?_
  refine s_callS (k := 0) (n := 0) (pc := 20) [.int (P.1 v0 (((8 : Int32) + ((4 : Int32) * v1)) + (0 : Int32)).toNatClampNeg), .int (P.1 v0 (((8 : Int32) + ((4 : Int32) * v1)) + (1 : Int32)).toNatClampNeg)] (fun x20 => .int x20 :: []) (fun _ => P) dX11_endOf_20 (cS_X11_108 hG) (Nat.le_of_ble_eq_true rfl) rfl (Mo_step_ok hG (P.1 v0 (((8 : Int32) + ((4 : Int32) * v1)) + (0 : Int32)).toNatClampNeg) (P.1 v0 (((8 : Int32) + ((4 : Int32) * v1)) + (1 : Int32)).toNatClampNeg) P) rfl (fun _ => rfl) (fun _ => rfl) (Nat.le_of_ble_eq_true rfl) rfl rfl (fun x20 => ?_)
  exact s_iret (pc := 23) dX11_endOf_23 rfl rfl
def Mo_find_55  (r9 : Int32 → Option (Int32)) (v0 : Nat) (v1 : Int32) (v3 : Int32) (v4 : Int32) (v5 : Int32) (v6 : Int32) (P : PH) : Option (Int32) :=
  if v5 = v3 then
    if v6 = v1 then
      some v4
    else
      r9 (v4 + 1)
  else
    r9 (v4 + 1)
set_option maxRecDepth 100000 in
set_option maxHeartbeats 4000000 in
theorem Mo_find_55_sem {G : GT} {l : Launch} (hG : GOK G l)  (v0 : Nat) (hv0 : kd v0 = 13 ∧ ln v0 = 512) (v1 : Int32) (v3 : Int32) (v4 : Int32) (v5 : Int32) (v6 : Int32) (P : PH)  (r9 : Int32 → Option (Int32)) (hr9 : ∀ (v4 : Int32), Sem G l miX11_find 0 0 (rn (tI P)) 9 [(0, .ref (gA G v0)), (1, .int v1), (3, .int v3), (4, .int v4)] [] P (r9 v4)) : Sem G l miX11_find 0 0 (rn (tI P)) 55 [(0, .ref (gA G v0)), (1, .int v1), (3, .int v3), (4, .int v4), (5, .int v5), (6, .int v6)] [] P (Mo_find_55 r9 v0 v1 v3 v4 v5 v6 P) := by
  unfold Mo_find_55
  refine s_iload (pc := 55) 4 dX11_find_55 rfl ?_
  refine s_iload_n (pc := 57) 2 dX11_find_57 rfl rfl ?_
  refine s_icmp_ne (pc := 58) 70 dX11_find_58 rfl ?_ ?_
  · refine s_iload (pc := 61) 5 dX11_find_61 rfl ?_
    refine s_iload_n (pc := 63) 1 dX11_find_63 rfl rfl ?_
    refine s_icmp_ne (pc := 64) 70 dX11_find_64 rfl ?_ ?_
    · refine s_iload (pc := 67) 3 dX11_find_67 rfl ?_
      exact s_iret (pc := 69) dX11_find_69 rfl rfl
    · refine s_iinc (pc := 70) 3 1 [(4, .int (v4 + 1)), (0, .ref (gA G v0)), (1, .int v1), (3, .int v3), (5, .int v5), (6, .int v6)] dX11_find_70 rfl rfl (Nat.le_of_ble_eq_true rfl) rfl ?_
      refine s_goto (pc := 73) 9 dX11_find_73 rfl ?_
      refine s_sub [1, 2, 3, 0] rfl ?_
      exact hr9 (v4 + 1)
  · refine s_iinc (pc := 70) 3 1 [(4, .int (v4 + 1)), (0, .ref (gA G v0)), (1, .int v1), (3, .int v3), (5, .int v5), (6, .int v6)] dX11_find_70 rfl rfl (Nat.le_of_ble_eq_true rfl) rfl ?_
    refine s_goto (pc := 73) 9 dX11_find_73 rfl ?_
    refine s_sub [1, 2, 3, 0] rfl ?_
    exact hr9 (v4 + 1)
def Mo_find_9   (v0 : Nat) (v1 : Int32) (v3 : Int32) (P : PH) : Nat → Int32 → Option (Int32)
  | 0 => fun _ => none
  | n + 1 => fun v4 =>
    gdI (0 : Int32) 512 <|
    if (P.1 v0 (0 : Int32).toNatClampNeg) ≤ v4 then
      some (-1 : Int32)
    else
      if v3 = (-1 : Int32) then
        some (-1 : Int32)
      else
        gdI (((8 : Int32) + ((4 : Int32) * v4)) + (0 : Int32)) 512 <|
        (some (P.1 v0 (((8 : Int32) + ((4 : Int32) * v4)) + (0 : Int32)).toNatClampNeg)).bind fun (u5_33 : Int32) =>
        (Mo_endOf v0 v4 P).bind fun (x38 : Int32) =>
        if u5_33 = v1 then
          if x38 = v3 then
            some v4
          else
            Mo_find_55 (Mo_find_9 v0 v1 v3 P n) v0 v1 v3 v4 u5_33 x38 P
        else
          Mo_find_55 (Mo_find_9 v0 v1 v3 P n) v0 v1 v3 v4 u5_33 x38 P
set_option maxRecDepth 100000 in
set_option maxHeartbeats 4000000 in
theorem Mo_find_9_sem {G : GT} {l : Launch} (hG : GOK G l)  (v0 : Nat) (hv0 : kd v0 = 13 ∧ ln v0 = 512) (v1 : Int32) (v3 : Int32) (P : PH)   : ∀ (n : Nat) (v4 : Int32), Sem G l miX11_find 0 0 (rn (tI P)) 9 [(0, .ref (gA G v0)), (1, .int v1), (3, .int v3), (4, .int v4)] [] P (Mo_find_9 v0 v1 v3 P n v4) := by
  intro n
  induction n with
  | zero => intro v4; exact s_none rfl
  | succ n ih =>
    intro v4
    rw [Mo_find_9]
    refine s_iload (pc := 9) 3 dX11_find_9 rfl ?_
    refine s_aload_n (pc := 11) 0 dX11_find_11 rfl rfl ?_
    refine s_iconst (pc := 12) (v := 0) dX11_find_12 rfl ?_
    refine s_iald (pc := 13) 512 dX11_find_13 hv0.1 hv0.2 ?_
    refine s_icmp_ge (pc := 14) 76 dX11_find_14 rfl ?_ ?_
    · refine s_iconst (pc := 76) (v := -1) dX11_find_76 rfl ?_
      exact s_iret (pc := 77) dX11_find_77 rfl rfl
    · refine s_iload_n (pc := 17) 2 dX11_find_17 rfl rfl ?_
      refine s_iconst (pc := 18) (v := -1) dX11_find_18 rfl ?_
      refine s_icmp_eq (pc := 19) 76 dX11_find_19 rfl ?_ ?_
      · refine s_iconst (pc := 76) (v := -1) dX11_find_76 rfl ?_
        exact s_iret (pc := 77) dX11_find_77 rfl rfl
      · refine s_aload_n (pc := 22) 0 dX11_find_22 rfl rfl ?_
        refine s_bipush (pc := 23) (v := 8) dX11_find_23 rfl ?_
        refine s_iconst (pc := 25) (v := 4) dX11_find_25 rfl ?_
        refine s_iload (pc := 26) 3 dX11_find_26 rfl ?_
        refine s_imul (pc := 28) dX11_find_28 ?_
        refine s_iadd (pc := 29) dX11_find_29 ?_
        refine s_iconst (pc := 30) (v := 0) dX11_find_30 rfl ?_
        refine s_iadd (pc := 31) dX11_find_31 ?_
        refine s_iald (pc := 32) 512 dX11_find_32 hv0.1 hv0.2 ?_
        refine s_letI (fun u5_33 => ?_)
        refine s_istore (pc := 33) [(5, .int u5_33), (0, .ref (gA G v0)), (1, .int v1), (3, .int v3), (4, .int v4)] dX11_find_33 (Nat.le_of_ble_eq_true rfl) rfl ?_
        refine s_aload_n (pc := 35) 1 dX11_find_35 rfl rfl ?_
        refine s_iload (pc := 36) 4 dX11_find_36 rfl ?_
        refine s_callS (k := 0) (n := 0) (pc := 38) [.ref (gA G v0), .int v4] (fun x38 => .int x38 :: []) (fun _ => P) dX11_find_38 (cS_X11_112 hG) (Nat.le_of_ble_eq_true rfl) rfl (Mo_endOf_ok hG v0 ⟨hv0.1, hv0.2⟩ v4 P) rfl (fun _ => rfl) (fun _ => rfl) (Nat.le_of_ble_eq_true rfl) rfl rfl (fun x38 => ?_)
        refine s_istore (pc := 41) [(6, .int x38), (5, .int u5_33), (0, .ref (gA G v0)), (1, .int v1), (3, .int v3), (4, .int v4)] dX11_find_41 (Nat.le_of_ble_eq_true rfl) rfl ?_
        refine s_iload (pc := 43) 1 dX11_find_43 rfl ?_
        refine s_iload_n (pc := 45) 3 dX11_find_45 rfl rfl ?_
        refine s_icmp_ne (pc := 46) 55 dX11_find_46 rfl ?_ ?_
        · refine s_iload (pc := 49) 0 dX11_find_49 rfl ?_
          refine s_iload_n (pc := 51) 4 dX11_find_51 rfl rfl ?_
          refine s_icmp_eq (pc := 52) 67 dX11_find_52 rfl ?_ ?_
          · refine s_iload (pc := 67) 5 dX11_find_67 rfl ?_
            exact s_iret (pc := 69) dX11_find_69 rfl rfl
          · refine s_sub [2, 3, 4, 5, 1, 0] rfl ?_
            exact Mo_find_55_sem hG v0 ⟨hv0.1, hv0.2⟩ v1 v3 v4 u5_33 x38 P (Mo_find_9 v0 v1 v3 P n) ih
        · refine s_sub [2, 3, 4, 5, 1, 0] rfl ?_
          exact Mo_find_55_sem hG v0 ⟨hv0.1, hv0.2⟩ v1 v3 v4 u5_33 x38 P (Mo_find_9 v0 v1 v3 P n) ih
def Mo_find  (v0 : Nat) (v1 : Int32) (v2 : Int32) (P : PH) : Option (Int32) :=
  (Mo_step v1 v2 P).bind fun (x2 : Int32) =>
  Mo_find_9 v0 v1 x2 P bigN (0 : Int32)
set_option maxRecDepth 100000 in
set_option maxHeartbeats 4000000 in
theorem Mo_find_ok {G : GT} {l : Launch} (hG : GOK G l)  (v0 : Nat) (hv0 : kd v0 = 13 ∧ ln v0 = 512) (v1 : Int32) (v2 : Int32) (P : PH) : OkN G l yX11_find miX11_find 0 0 (tI P) [.ref (gA G v0), .int v1, .int v2] P (Mo_find v0 v1 v2 P) := by
  refine okN_of hG _ [(0, .ref (gA G v0)), (1, .int v1), (2, .int v2)] rfl rfl rfl (Nat.le_of_ble_eq_true rfl) rfl ?_
  unfold Mo_find
  refine s_iload_n (pc := 0) 1 dX11_find_0 rfl rfl ?_
  refine s_iload_n (pc := 1) 2 dX11_find_1 rfl rfl ?_
  refine s_callS (k := 0) (n := 0) (pc := 2) [.int v1, .int v2] (fun x2 => .int x2 :: []) (fun _ => P) dX11_find_2 (cS_X11_108 hG) (Nat.le_of_ble_eq_true rfl) rfl (Mo_step_ok hG v1 v2 P) rfl (fun _ => rfl) (fun _ => rfl) (Nat.le_of_ble_eq_true rfl) rfl rfl (fun x2 => ?_)
  refine s_istore_n (pc := 5) [(3, .int x2), (0, .ref (gA G v0)), (1, .int v1), (2, .int v2)] dX11_find_5 rfl (Nat.le_of_ble_eq_true rfl) rfl ?_
  refine s_iconst (pc := 6) (v := 0) dX11_find_6 rfl ?_
  refine s_istore (pc := 7) [(4, .int ((0 : Int32))), (3, .int x2), (0, .ref (gA G v0)), (1, .int v1), (2, .int v2)] dX11_find_7 (Nat.le_of_ble_eq_true rfl) rfl ?_
  refine s_sub [2, 3, 1, 0] rfl ?_
  exact Mo_find_9_sem hG v0 ⟨hv0.1, hv0.2⟩ v1 x2 P bigN (0 : Int32)
def Mo_feed_76  (r23 : Int32 → PH → Option (Int32 × PH)) (v1 : Int32) (v2 : Int32) (v3 : Int32) (v4 : Int32) (v5 : Int32) (v6 : Int32) (s0 : Int32) (P : PH) : Option (Int32 × PH) :=
  gdI (P.1 1 7) 700 <|
  (some (sI P 93 (P.1 1 7).toNatClampNeg (((s0.toUInt32 >>> (((24 : Int32) - ((8 : Int32) * (v6 &&& (3 : Int32)))).toUInt32 &&& Int32.toUInt32 31)).toInt32) &&& (255 : Int32)))).bind fun (P103 : PH) =>
  (some (sI P103 1 7 ((P103.1 1 7) + (1 : Int32)))).bind fun (P111 : PH) =>
  r23 (v6 + 1) P111
set_option maxRecDepth 100000 in
set_option maxHeartbeats 4000000 in
theorem Mo_feed_76_sem {G : GT} {l : Launch} (hG : GOK G l)  (v1 : Int32) (v2 : Int32) (v3 : Int32) (v4 : Int32) (v5 : Int32) (v6 : Int32) (s0 : Int32) (P : PH)  (r23 : Int32 → PH → Option (Int32 × PH)) (hr23 : ∀ (v6 : Int32) (P : PH), Sem G l miX11_feed 0 0 (rn tIH) 23 [(0, .ref (gA G 1)), (1, .int v1), (2, .int v2), (3, .int v3), (4, .int v4), (5, .int v5), (6, .int v6)] [] P (r23 v6 P)) : Sem G l miX11_feed 0 0 (rn tIH) 76 [(0, .ref (gA G 1)), (1, .int v1), (2, .int v2), (3, .int v3), (4, .int v4), (5, .int v5), (6, .int v6)] [.int s0] P (Mo_feed_76 r23 v1 v2 v3 v4 v5 v6 s0 P) := by
  unfold Mo_feed_76
  refine s_istore (pc := 76) [(7, .int s0), (0, .ref (gA G 1)), (1, .int v1), (2, .int v2), (3, .int v3), (4, .int v4), (5, .int v5), (6, .int v6)] dX11_feed_76 (Nat.le_of_ble_eq_true rfl) rfl ?_
  refine s_aload_n (pc := 78) 1 dX11_feed_78 rfl rfl ?_
  refine s_getR (pc := 79) 93 dX11_feed_79 (fi_X11_26 hG) kd_1 rfl ?_
  refine s_aload_n (pc := 82) 1 dX11_feed_82 rfl rfl ?_
  refine s_getI (pc := 83) dX11_feed_83 (fi_X11_116 hG) kd_1 ?_
  refine s_iload (pc := 86) 0 dX11_feed_86 rfl ?_
  refine s_bipush (pc := 88) (v := 24) dX11_feed_88 rfl ?_
  refine s_bipush (pc := 90) (v := 8) dX11_feed_90 rfl ?_
  refine s_iload (pc := 92) 7 dX11_feed_92 rfl ?_
  refine s_iconst (pc := 94) (v := 3) dX11_feed_94 rfl ?_
  refine s_iand (pc := 95) dX11_feed_95 ?_
  refine s_imul (pc := 96) dX11_feed_96 ?_
  refine s_isub (pc := 97) dX11_feed_97 ?_
  refine s_iushr (pc := 98) dX11_feed_98 ?_
  refine s_sipush (pc := 99) (v := 255) dX11_feed_99 rfl ?_
  refine s_iand (pc := 102) dX11_feed_102 ?_
  refine s_iast (pc := 103) 700 dX11_feed_103 kd_93 ln_93 ?_
  refine s_letP (fun P103 => ?_)
  refine s_aload_n (pc := 104) 1 dX11_feed_104 rfl rfl ?_
  refine s_dup (pc := 105) dX11_feed_105 rfl ?_
  refine s_getI (pc := 106) dX11_feed_106 (fi_X11_116 hG) kd_1 ?_
  refine s_iconst (pc := 109) (v := 1) dX11_feed_109 rfl ?_
  refine s_iadd (pc := 110) dX11_feed_110 ?_
  refine s_putI (pc := 111) dX11_feed_111 (fp_X11_116 hG) kd_1 ?_
  refine s_letP (fun P111 => ?_)
  refine s_iinc (pc := 114) 7 1 [(6, .int (v6 + 1)), (7, .int s0), (0, .ref (gA G 1)), (1, .int v1), (2, .int v2), (3, .int v3), (4, .int v4), (5, .int v5)] dX11_feed_114 rfl rfl (Nat.le_of_ble_eq_true rfl) rfl ?_
  refine s_goto (pc := 117) 23 dX11_feed_117 rfl ?_
  refine s_sub [2, 3, 4, 5, 6, 7, 0] rfl ?_
  exact hr23 (v6 + 1) P111
def Mo_feed_23   (v1 : Int32) (v2 : Int32) (v3 : Int32) (v4 : Int32) (v5 : Int32)  : Nat → Int32 → PH → Option (Int32 × PH)
  | 0 => fun _ _ => none
  | n + 1 => fun v6 P =>
    if (20 : Int32) ≤ v6 then
      some (P.1 1 7, P)
    else
      if (4 : Int32) ≤ v6 then
        if (8 : Int32) ≤ v6 then
          if (12 : Int32) ≤ v6 then
            if (16 : Int32) ≤ v6 then
              Mo_feed_76 (Mo_feed_23 v1 v2 v3 v4 v5 n) v1 v2 v3 v4 v5 v6 v5 P
            else
              Mo_feed_76 (Mo_feed_23 v1 v2 v3 v4 v5 n) v1 v2 v3 v4 v5 v6 v4 P
          else
            Mo_feed_76 (Mo_feed_23 v1 v2 v3 v4 v5 n) v1 v2 v3 v4 v5 v6 v3 P
        else
          Mo_feed_76 (Mo_feed_23 v1 v2 v3 v4 v5 n) v1 v2 v3 v4 v5 v6 v2 P
      else
        Mo_feed_76 (Mo_feed_23 v1 v2 v3 v4 v5 n) v1 v2 v3 v4 v5 v6 v1 P
set_option maxRecDepth 100000 in
set_option maxHeartbeats 4000000 in
theorem Mo_feed_23_sem {G : GT} {l : Launch} (hG : GOK G l)  (v1 : Int32) (v2 : Int32) (v3 : Int32) (v4 : Int32) (v5 : Int32)    : ∀ (n : Nat) (v6 : Int32) (P : PH), Sem G l miX11_feed 0 0 (rn tIH) 23 [(0, .ref (gA G 1)), (1, .int v1), (2, .int v2), (3, .int v3), (4, .int v4), (5, .int v5), (6, .int v6)] [] P (Mo_feed_23 v1 v2 v3 v4 v5 n v6 P) := by
  intro n
  induction n with
  | zero => intro v6 P; exact s_none rfl
  | succ n ih =>
    intro v6 P
    rw [Mo_feed_23]
    refine s_iload (pc := 23) 6 dX11_feed_23 rfl ?_
    refine s_bipush (pc := 25) (v := 20) dX11_feed_25 rfl ?_
    refine s_icmp_ge (pc := 27) 120 dX11_feed_27 rfl ?_ ?_
    · refine s_aload_n (pc := 120) 0 dX11_feed_120 rfl rfl ?_
      refine s_getI (pc := 121) dX11_feed_121 (fi_X11_116 hG) kd_1 ?_
      exact s_iret (pc := 124) dX11_feed_124 rfl rfl
    · refine s_iload (pc := 30) 6 dX11_feed_30 rfl ?_
      refine s_iconst (pc := 32) (v := 4) dX11_feed_32 rfl ?_
      refine s_icmp_ge (pc := 33) 40 dX11_feed_33 rfl ?_ ?_
      · refine s_iload (pc := 40) 6 dX11_feed_40 rfl ?_
        refine s_bipush (pc := 42) (v := 8) dX11_feed_42 rfl ?_
        refine s_icmp_ge (pc := 44) 51 dX11_feed_44 rfl ?_ ?_
        · refine s_iload (pc := 51) 6 dX11_feed_51 rfl ?_
          refine s_bipush (pc := 53) (v := 12) dX11_feed_53 rfl ?_
          refine s_icmp_ge (pc := 55) 62 dX11_feed_55 rfl ?_ ?_
          · refine s_iload (pc := 62) 6 dX11_feed_62 rfl ?_
            refine s_bipush (pc := 64) (v := 16) dX11_feed_64 rfl ?_
            refine s_icmp_ge (pc := 66) 74 dX11_feed_66 rfl ?_ ?_
            · refine s_iload (pc := 74) 5 dX11_feed_74 rfl ?_
              exact Mo_feed_76_sem hG v1 v2 v3 v4 v5 v6 v5 P (Mo_feed_23 v1 v2 v3 v4 v5 n) ih
            · refine s_iload (pc := 69) 4 dX11_feed_69 rfl ?_
              refine s_goto (pc := 71) 76 dX11_feed_71 rfl ?_
              exact Mo_feed_76_sem hG v1 v2 v3 v4 v5 v6 v4 P (Mo_feed_23 v1 v2 v3 v4 v5 n) ih
          · refine s_iload_n (pc := 58) 3 dX11_feed_58 rfl rfl ?_
            refine s_goto (pc := 59) 76 dX11_feed_59 rfl ?_
            exact Mo_feed_76_sem hG v1 v2 v3 v4 v5 v6 v3 P (Mo_feed_23 v1 v2 v3 v4 v5 n) ih
        · refine s_iload_n (pc := 47) 2 dX11_feed_47 rfl rfl ?_
          refine s_goto (pc := 48) 76 dX11_feed_48 rfl ?_
          exact Mo_feed_76_sem hG v1 v2 v3 v4 v5 v6 v2 P (Mo_feed_23 v1 v2 v3 v4 v5 n) ih
      · refine s_iload_n (pc := 36) 1 dX11_feed_36 rfl rfl ?_
        refine s_goto (pc := 37) 76 dX11_feed_37 rfl ?_
        exact Mo_feed_76_sem hG v1 v2 v3 v4 v5 v6 v1 P (Mo_feed_23 v1 v2 v3 v4 v5 n) ih
def Mo_feed  (v1 : Int32) (v2 : Int32) (v3 : Int32) (v4 : Int32) (v5 : Int32) (P : PH) : Option (Int32 × PH) :=
  (some (sI P 1 5 (0 : Int32))).bind fun (P2 : PH) =>
  if ((P2.1 1 7) + (20 : Int32)) ≤ (700 : Int32) then
    Mo_feed_23 v1 v2 v3 v4 v5 bigN (0 : Int32) P2
  else
    some ((-1 : Int32), P2)
set_option maxRecDepth 100000 in
set_option maxHeartbeats 4000000 in
theorem Mo_feed_ok {G : GT} {l : Launch} (hG : GOK G l)  (v1 : Int32) (v2 : Int32) (v3 : Int32) (v4 : Int32) (v5 : Int32) (P : PH) : OkN G l yX11_feed miX11_feed 0 0 tIH [.ref (gA G 1), .int v1, .int v2, .int v3, .int v4, .int v5] P (Mo_feed v1 v2 v3 v4 v5 P) := by
  refine okN_of hG _ [(0, .ref (gA G 1)), (1, .int v1), (2, .int v2), (3, .int v3), (4, .int v4), (5, .int v5)] rfl rfl rfl (Nat.le_of_ble_eq_true rfl) rfl ?_
  unfold Mo_feed
  refine s_aload_n (pc := 0) 0 dX11_feed_0 rfl rfl ?_
  refine s_iconst (pc := 1) (v := 0) dX11_feed_1 rfl ?_
  refine s_putI (pc := 2) dX11_feed_2 (fp_X11_86 hG) kd_1 ?_
  refine s_letP (fun P2 => ?_)
  refine s_aload_n (pc := 5) 0 dX11_feed_5 rfl rfl ?_
  refine s_getI (pc := 6) dX11_feed_6 (fi_X11_116 hG) kd_1 ?_
  refine s_bipush (pc := 9) (v := 20) dX11_feed_9 rfl ?_
  refine s_iadd (pc := 11) dX11_feed_11 ?_
  refine s_sipush (pc := 12) (v := 700) dX11_feed_12 rfl ?_
  refine s_icmp_le (pc := 15) 20 dX11_feed_15 rfl ?_ ?_
  · refine s_iconst (pc := 20) (v := 0) dX11_feed_20 rfl ?_
    refine s_istore (pc := 21) [(6, .int ((0 : Int32))), (0, .ref (gA G 1)), (1, .int v1), (2, .int v2), (3, .int v3), (4, .int v4), (5, .int v5)] dX11_feed_21 (Nat.le_of_ble_eq_true rfl) rfl ?_
    refine s_sub [1, 2, 3, 4, 5, 6, 0] rfl ?_
    exact Mo_feed_23_sem hG v1 v2 v3 v4 v5 bigN (0 : Int32) P2
  · refine s_iconst (pc := 18) (v := -1) dX11_feed_18 rfl ?_
    exact s_iret (pc := 19) dX11_feed_19 rfl rfl
def Mo_see  (v1 : Int32) (P : PH) : Option (Int32) :=
  if (P.1 1 8) ≤ v1 then
    some (0 : Int32)
  else
    gdI v1 700 <|
    some (P.1 93 v1.toNatClampNeg)
set_option maxRecDepth 100000 in
set_option maxHeartbeats 4000000 in
theorem Mo_see_ok {G : GT} {l : Launch} (hG : GOK G l)  (v1 : Int32) (P : PH) : OkN G l yX11_see miX11_see 0 0 (tI P) [.ref (gA G 1), .int v1] P (Mo_see v1 P) := by
  refine okN_of hG _ [(0, .ref (gA G 1)), (1, .int v1)] rfl rfl rfl (Nat.le_of_ble_eq_true rfl) rfl ?_
  unfold Mo_see
  refine s_iload_n (pc := 0) 1 dX11_see_0 rfl rfl ?_
  refine s_aload_n (pc := 1) 0 dX11_see_1 rfl rfl ?_
  refine s_getI (pc := 2) dX11_see_2 (fi_X11_119 hG) kd_1 ?_
  refine s_icmp_ge (pc := 5) 17 dX11_see_5 rfl ?_ ?_
  · refine s_iconst (pc := 17) (v := 0) dX11_see_17 rfl ?_
    exact s_iret (pc := 18) dX11_see_18 rfl rfl
  · refine s_aload_n (pc := 8) 0 dX11_see_8 rfl rfl ?_
    refine s_getR (pc := 9) 93 dX11_see_9 (fi_X11_26 hG) kd_1 rfl ?_
    refine s_iload_n (pc := 12) 1 dX11_see_12 rfl rfl ?_
    refine s_iald (pc := 13) 700 dX11_see_13 kd_93 ln_93 ?_
    refine s_goto (pc := 14) 18 dX11_see_14 rfl ?_
    exact s_iret (pc := 18) dX11_see_18 rfl rfl
def Mo_isLetter  (v0 : Int32) (P : PH) : Option (Int32) :=
  if v0 < (97 : Int32) then
    gdP ((0 : Int32) = 0 ∨ (0 : Int32) = 1) <|
    some (0 : Int32)
  else
    if (122 : Int32) < v0 then
      gdP ((0 : Int32) = 0 ∨ (0 : Int32) = 1) <|
      some (0 : Int32)
    else
      gdP ((1 : Int32) = 0 ∨ (1 : Int32) = 1) <|
      some (1 : Int32)
set_option maxRecDepth 100000 in
set_option maxHeartbeats 4000000 in
theorem Mo_isLetter_ok {G : GT} {l : Launch} (hG : GOK G l)  (v0 : Int32) (P : PH) : OkN G l yX11_isLetter miX11_isLetter 0 0 (tI P) [.int v0] P (Mo_isLetter v0 P) := by
  refine okN_of hG _ [(0, .int v0)] rfl rfl rfl (Nat.le_of_ble_eq_true rfl) rfl ?_
  unfold Mo_isLetter
  refine s_iload_n (pc := 0) 0 dX11_isLetter_0 rfl rfl ?_
  refine s_bipush (pc := 1) (v := 97) dX11_isLetter_1 rfl ?_
  refine s_icmp_lt (pc := 3) 16 dX11_isLetter_3 rfl ?_ ?_
  · refine s_iconst (pc := 16) (v := 0) dX11_isLetter_16 rfl ?_
    exact s_zret (pc := 17) dX11_isLetter_17 rfl rfl
  · refine s_iload_n (pc := 6) 0 dX11_isLetter_6 rfl rfl ?_
    refine s_bipush (pc := 7) (v := 122) dX11_isLetter_7 rfl ?_
    refine s_icmp_gt (pc := 9) 16 dX11_isLetter_9 rfl ?_ ?_
    · refine s_iconst (pc := 16) (v := 0) dX11_isLetter_16 rfl ?_
      exact s_zret (pc := 17) dX11_isLetter_17 rfl rfl
    · refine s_iconst (pc := 12) (v := 1) dX11_isLetter_12 rfl ?_
      refine s_goto (pc := 13) 17 dX11_isLetter_13 rfl ?_
      exact s_zret (pc := 17) dX11_isLetter_17 rfl rfl
def Mo_isDigit  (v0 : Int32) (P : PH) : Option (Int32) :=
  if v0 < (48 : Int32) then
    gdP ((0 : Int32) = 0 ∨ (0 : Int32) = 1) <|
    some (0 : Int32)
  else
    if (57 : Int32) < v0 then
      gdP ((0 : Int32) = 0 ∨ (0 : Int32) = 1) <|
      some (0 : Int32)
    else
      gdP ((1 : Int32) = 0 ∨ (1 : Int32) = 1) <|
      some (1 : Int32)
set_option maxRecDepth 100000 in
set_option maxHeartbeats 4000000 in
theorem Mo_isDigit_ok {G : GT} {l : Launch} (hG : GOK G l)  (v0 : Int32) (P : PH) : OkN G l yX11_isDigit miX11_isDigit 0 0 (tI P) [.int v0] P (Mo_isDigit v0 P) := by
  refine okN_of hG _ [(0, .int v0)] rfl rfl rfl (Nat.le_of_ble_eq_true rfl) rfl ?_
  unfold Mo_isDigit
  refine s_iload_n (pc := 0) 0 dX11_isDigit_0 rfl rfl ?_
  refine s_bipush (pc := 1) (v := 48) dX11_isDigit_1 rfl ?_
  refine s_icmp_lt (pc := 3) 16 dX11_isDigit_3 rfl ?_ ?_
  · refine s_iconst (pc := 16) (v := 0) dX11_isDigit_16 rfl ?_
    exact s_zret (pc := 17) dX11_isDigit_17 rfl rfl
  · refine s_iload_n (pc := 6) 0 dX11_isDigit_6 rfl rfl ?_
    refine s_bipush (pc := 7) (v := 57) dX11_isDigit_7 rfl ?_
    refine s_icmp_gt (pc := 9) 16 dX11_isDigit_9 rfl ?_ ?_
    · refine s_iconst (pc := 16) (v := 0) dX11_isDigit_16 rfl ?_
      exact s_zret (pc := 17) dX11_isDigit_17 rfl rfl
    · refine s_iconst (pc := 12) (v := 1) dX11_isDigit_12 rfl ?_
      refine s_goto (pc := 13) 17 dX11_isDigit_13 rfl ?_
      exact s_zret (pc := 17) dX11_isDigit_17 rfl rfl
def Mo_reads_261   (v1 : Int32) (s0 : Int32) (P : PH) : Option (PH) :=
  (some (sI P 1 11 s0)).bind fun (P261 : PH) =>
  (some (sI P261 1 12 v1)).bind fun (P266 : PH) =>
  (some (sI P266 1 9 ((P266.1 1 9) + (1 : Int32)))).bind fun (P276 : PH) =>
  some P276
set_option maxRecDepth 100000 in
set_option maxHeartbeats 4000000 in
theorem Mo_reads_261_sem {G : GT} {l : Launch} (hG : GOK G l)  (v1 : Int32) (s0 : Int32) (P : PH)   : Sem G l miX11_reads 0 0 (rn tVH) 261 [(0, .ref (gA G 1)), (1, .int v1)] [.int s0, .ref (gA G 1)] P (Mo_reads_261 v1 s0 P) := by
  unfold Mo_reads_261
  refine s_putI (pc := 261) dX11_reads_261 (fp_X11_128 hG) kd_1 ?_
  refine s_letP (fun P261 => ?_)
  refine s_aload_n (pc := 264) 0 dX11_reads_264 rfl rfl ?_
  refine s_iload_n (pc := 265) 1 dX11_reads_265 rfl rfl ?_
  refine s_putI (pc := 266) dX11_reads_266 (fp_X11_141 hG) kd_1 ?_
  refine s_letP (fun P266 => ?_)
  refine s_aload_n (pc := 269) 0 dX11_reads_269 rfl rfl ?_
  refine s_dup (pc := 270) dX11_reads_270 rfl ?_
  refine s_getI (pc := 271) dX11_reads_271 (fi_X11_122 hG) kd_1 ?_
  refine s_iconst (pc := 274) (v := 1) dX11_reads_274 rfl ?_
  refine s_iadd (pc := 275) dX11_reads_275 ?_
  refine s_putI (pc := 276) dX11_reads_276 (fp_X11_122 hG) kd_1 ?_
  refine s_letP (fun P276 => ?_)
  exact s_vret (pc := 279) dX11_reads_279 rfl rfl
def Mo_reads_212    (P : PH) : Option (PH) :=
  if ((P.1 1 9) - (P.1 1 10)) ≤ (3 : Int32) then
    (some (sI P 1 11 (2 : Int32))).bind fun (P231 : PH) =>
    some P231
  else
    (some (sI P 1 11 (4 : Int32))).bind fun (P231 : PH) =>
    some P231
set_option maxRecDepth 100000 in
set_option maxHeartbeats 4000000 in
theorem Mo_reads_212_sem {G : GT} {l : Launch} (hG : GOK G l)   (P : PH)   : Sem G l miX11_reads 0 0 (rn tVH) 212 [(0, .ref (gA G 1))] [] P (Mo_reads_212 P) := by
  unfold Mo_reads_212
  refine s_aload_n (pc := 212) 0 dX11_reads_212 rfl rfl ?_
  refine s_aload_n (pc := 213) 0 dX11_reads_213 rfl rfl ?_
  refine s_getI (pc := 214) dX11_reads_214 (fi_X11_122 hG) kd_1 ?_
  refine s_aload_n (pc := 217) 0 dX11_reads_217 rfl rfl ?_
  refine s_getI (pc := 218) dX11_reads_218 (fi_X11_125 hG) kd_1 ?_
  refine s_isub (pc := 221) dX11_reads_221 ?_
  refine s_iconst (pc := 222) (v := 3) dX11_reads_222 rfl ?_
  refine s_icmp_le (pc := 223) 230 dX11_reads_223 rfl ?_ ?_
  · refine s_iconst (pc := 230) (v := 2) dX11_reads_230 rfl ?_
    refine s_putI (pc := 231) dX11_reads_231 (fp_X11_128 hG) kd_1 ?_
    refine s_letP (fun P231 => ?_)
    refine s_goto (pc := 234) 279 dX11_reads_234 rfl ?_
    exact s_vret (pc := 279) dX11_reads_279 rfl rfl
  · refine s_iconst (pc := 226) (v := 4) dX11_reads_226 rfl ?_
    refine s_goto (pc := 227) 231 dX11_reads_227 rfl ?_
    refine s_putI (pc := 231) dX11_reads_231 (fp_X11_128 hG) kd_1 ?_
    refine s_letP (fun P231 => ?_)
    refine s_goto (pc := 234) 279 dX11_reads_234 rfl ?_
    exact s_vret (pc := 279) dX11_reads_279 rfl rfl
def Mo_reads_196  (r141 : PH → Option (PH)) (s0 : Int32) (P : PH) : Option (PH) :=
  (some (sI P 1 12 s0)).bind fun (P196 : PH) =>
  (some (sI P196 1 9 ((P196.1 1 9) + (1 : Int32)))).bind fun (P206 : PH) =>
  r141 P206
set_option maxRecDepth 100000 in
set_option maxHeartbeats 4000000 in
theorem Mo_reads_196_sem {G : GT} {l : Launch} (hG : GOK G l)  (s0 : Int32) (P : PH)  (r141 : PH → Option (PH)) (hr141 : ∀ (P : PH), Sem G l miX11_reads 0 0 (rn tVH) 141 [(0, .ref (gA G 1))] [] P (r141 P)) : Sem G l miX11_reads 0 0 (rn tVH) 196 [(0, .ref (gA G 1))] [.int s0, .ref (gA G 1)] P (Mo_reads_196 r141 s0 P) := by
  unfold Mo_reads_196
  refine s_putI (pc := 196) dX11_reads_196 (fp_X11_141 hG) kd_1 ?_
  refine s_letP (fun P196 => ?_)
  refine s_aload_n (pc := 199) 0 dX11_reads_199 rfl rfl ?_
  refine s_dup (pc := 200) dX11_reads_200 rfl ?_
  refine s_getI (pc := 201) dX11_reads_201 (fi_X11_122 hG) kd_1 ?_
  refine s_iconst (pc := 204) (v := 1) dX11_reads_204 rfl ?_
  refine s_iadd (pc := 205) dX11_reads_205 ?_
  refine s_putI (pc := 206) dX11_reads_206 (fp_X11_122 hG) kd_1 ?_
  refine s_letP (fun P206 => ?_)
  refine s_goto (pc := 209) 141 dX11_reads_209 rfl ?_
  exact hr141 P206
def Mo_reads_141     : Nat → PH → Option (PH)
  | 0 => fun _ => none
  | n + 1 => fun P =>
    (Mo_see (P.1 1 9) P).bind fun (x146 : Int32) =>
    (Mo_isDigit x146 P).bind fun (x149 : Int32) =>
    if x149 = 0 then
      Mo_reads_212 P
    else
      if (3 : Int32) ≤ ((P.1 1 9) - (P.1 1 10)) then
        Mo_reads_196 (Mo_reads_141  n) (P.1 1 12) P
      else
        gdI (P.1 1 9) 700 <|
        Mo_reads_196 (Mo_reads_141  n) ((((10 : Int32) * (P.1 1 12)) + (P.1 93 (P.1 1 9).toNatClampNeg)) - (48 : Int32)) P
set_option maxRecDepth 100000 in
set_option maxHeartbeats 4000000 in
theorem Mo_reads_141_sem {G : GT} {l : Launch} (hG : GOK G l)      : ∀ (n : Nat) (P : PH), Sem G l miX11_reads 0 0 (rn tVH) 141 [(0, .ref (gA G 1))] [] P (Mo_reads_141  n P) := by
  intro n
  induction n with
  | zero => intro  P; exact s_none rfl
  | succ n ih =>
    intro  P
    rw [Mo_reads_141]
    refine s_aload_n (pc := 141) 0 dX11_reads_141 rfl rfl ?_
    refine s_aload_n (pc := 142) 0 dX11_reads_142 rfl rfl ?_
    refine s_getI (pc := 143) dX11_reads_143 (fi_X11_122 hG) kd_1 ?_
    refine s_callV (k := 0) (n := 0) (pc := 146) [.int (P.1 1 9)] (fun x146 => .int x146 :: []) (fun _ => P) dX11_reads_146 (cV_X11_135 hG) (Nat.le_of_ble_eq_true rfl) rfl kd_1 (Mo_see_ok hG (P.1 1 9) P) rfl (fun _ => rfl) (fun _ => rfl) (Nat.le_of_ble_eq_true rfl) rfl rfl (fun x146 => ?_)
    refine s_callS (k := 0) (n := 0) (pc := 149) [.int x146] (fun x149 => .int x149 :: []) (fun _ => P) dX11_reads_149 (cS_X11_138 hG) (Nat.le_of_ble_eq_true rfl) rfl (Mo_isDigit_ok hG x146 P) rfl (fun _ => rfl) (fun _ => rfl) (Nat.le_of_ble_eq_true rfl) rfl rfl (fun x149 => ?_)
    refine s_if_eq (pc := 152) 212 dX11_reads_152 rfl ?_ ?_
    · exact Mo_reads_212_sem hG P
    · refine s_aload_n (pc := 155) 0 dX11_reads_155 rfl rfl ?_
      refine s_aload_n (pc := 156) 0 dX11_reads_156 rfl rfl ?_
      refine s_getI (pc := 157) dX11_reads_157 (fi_X11_122 hG) kd_1 ?_
      refine s_aload_n (pc := 160) 0 dX11_reads_160 rfl rfl ?_
      refine s_getI (pc := 161) dX11_reads_161 (fi_X11_125 hG) kd_1 ?_
      refine s_isub (pc := 164) dX11_reads_164 ?_
      refine s_iconst (pc := 165) (v := 3) dX11_reads_165 rfl ?_
      refine s_icmp_ge (pc := 166) 192 dX11_reads_166 rfl ?_ ?_
      · refine s_aload_n (pc := 192) 0 dX11_reads_192 rfl rfl ?_
        refine s_getI (pc := 193) dX11_reads_193 (fi_X11_141 hG) kd_1 ?_
        exact Mo_reads_196_sem hG (P.1 1 12) P (Mo_reads_141  n) ih
      · refine s_bipush (pc := 169) (v := 10) dX11_reads_169 rfl ?_
        refine s_aload_n (pc := 171) 0 dX11_reads_171 rfl rfl ?_
        refine s_getI (pc := 172) dX11_reads_172 (fi_X11_141 hG) kd_1 ?_
        refine s_imul (pc := 175) dX11_reads_175 ?_
        refine s_aload_n (pc := 176) 0 dX11_reads_176 rfl rfl ?_
        refine s_getR (pc := 177) 93 dX11_reads_177 (fi_X11_26 hG) kd_1 rfl ?_
        refine s_aload_n (pc := 180) 0 dX11_reads_180 rfl rfl ?_
        refine s_getI (pc := 181) dX11_reads_181 (fi_X11_122 hG) kd_1 ?_
        refine s_iald (pc := 184) 700 dX11_reads_184 kd_93 ln_93 ?_
        refine s_iadd (pc := 185) dX11_reads_185 ?_
        refine s_bipush (pc := 186) (v := 48) dX11_reads_186 rfl ?_
        refine s_isub (pc := 188) dX11_reads_188 ?_
        refine s_goto (pc := 189) 196 dX11_reads_189 rfl ?_
        exact Mo_reads_196_sem hG ((((10 : Int32) * (P.1 1 12)) + (P.1 93 (P.1 1 9).toNatClampNeg)) - (48 : Int32)) P (Mo_reads_141  n) ih
def Mo_reads_94     : Nat → PH → Option (PH)
  | 0 => fun _ => none
  | n + 1 => fun P =>
    (Mo_see (P.1 1 9) P).bind fun (x99 : Int32) =>
    (Mo_isLetter x99 P).bind fun (x102 : Int32) =>
    if x102 = 0 then
      (some (sI P 1 11 (1 : Int32))).bind fun (P123 : PH) =>
      some P123
    else
      (some (sI P 1 9 ((P.1 1 9) + (1 : Int32)))).bind fun (P115 : PH) =>
      Mo_reads_94  n P115
set_option maxRecDepth 100000 in
set_option maxHeartbeats 4000000 in
theorem Mo_reads_94_sem {G : GT} {l : Launch} (hG : GOK G l)      : ∀ (n : Nat) (P : PH), Sem G l miX11_reads 0 0 (rn tVH) 94 [(0, .ref (gA G 1))] [] P (Mo_reads_94  n P) := by
  intro n
  induction n with
  | zero => intro  P; exact s_none rfl
  | succ n ih =>
    intro  P
    rw [Mo_reads_94]
    refine s_aload_n (pc := 94) 0 dX11_reads_94 rfl rfl ?_
    refine s_aload_n (pc := 95) 0 dX11_reads_95 rfl rfl ?_
    refine s_getI (pc := 96) dX11_reads_96 (fi_X11_122 hG) kd_1 ?_
    refine s_callV (k := 0) (n := 0) (pc := 99) [.int (P.1 1 9)] (fun x99 => .int x99 :: []) (fun _ => P) dX11_reads_99 (cV_X11_135 hG) (Nat.le_of_ble_eq_true rfl) rfl kd_1 (Mo_see_ok hG (P.1 1 9) P) rfl (fun _ => rfl) (fun _ => rfl) (Nat.le_of_ble_eq_true rfl) rfl rfl (fun x99 => ?_)
    refine s_callS (k := 0) (n := 0) (pc := 102) [.int x99] (fun x102 => .int x102 :: []) (fun _ => P) dX11_reads_102 (cS_X11_131 hG) (Nat.le_of_ble_eq_true rfl) rfl (Mo_isLetter_ok hG x99 P) rfl (fun _ => rfl) (fun _ => rfl) (Nat.le_of_ble_eq_true rfl) rfl rfl (fun x102 => ?_)
    refine s_if_eq (pc := 105) 121 dX11_reads_105 rfl ?_ ?_
    · refine s_aload_n (pc := 121) 0 dX11_reads_121 rfl rfl ?_
      refine s_iconst (pc := 122) (v := 1) dX11_reads_122 rfl ?_
      refine s_putI (pc := 123) dX11_reads_123 (fp_X11_128 hG) kd_1 ?_
      refine s_letP (fun P123 => ?_)
      refine s_goto (pc := 126) 279 dX11_reads_126 rfl ?_
      exact s_vret (pc := 279) dX11_reads_279 rfl rfl
    · refine s_aload_n (pc := 108) 0 dX11_reads_108 rfl rfl ?_
      refine s_dup (pc := 109) dX11_reads_109 rfl ?_
      refine s_getI (pc := 110) dX11_reads_110 (fi_X11_122 hG) kd_1 ?_
      refine s_iconst (pc := 113) (v := 1) dX11_reads_113 rfl ?_
      refine s_iadd (pc := 114) dX11_reads_114 ?_
      refine s_putI (pc := 115) dX11_reads_115 (fp_X11_122 hG) kd_1 ?_
      refine s_letP (fun P115 => ?_)
      refine s_goto (pc := 118) 94 dX11_reads_118 rfl ?_
      exact ih P115
def Mo_reads_52    (P : PH) : Option (PH) :=
  (some (sI P 1 10 (P.1 1 9))).bind fun (P57 : PH) =>
  if (P57.1 1 9) < (P57.1 1 8) then
    gdI (P57.1 1 9) 700 <|
    (some (P57.1 93 (P57.1 1 9).toNatClampNeg)).bind fun (u1_86 : Int32) =>
    (Mo_isLetter u1_86 P57).bind fun (x88 : Int32) =>
    if x88 = 0 then
      (Mo_isDigit u1_86 P57).bind fun (x130 : Int32) =>
      if x130 = 0 then
        if u1_86 = (59 : Int32) then
          Mo_reads_261 u1_86 (3 : Int32) P57
        else
          if u1_86 = (40 : Int32) then
            Mo_reads_261 u1_86 (3 : Int32) P57
          else
            if u1_86 = (41 : Int32) then
              Mo_reads_261 u1_86 (3 : Int32) P57
            else
              Mo_reads_261 u1_86 (4 : Int32) P57
      else
        (some (sI P57 1 12 (0 : Int32))).bind fun (P138 : PH) =>
        Mo_reads_141  bigN P138
    else
      Mo_reads_94  bigN P57
  else
    (some (sI P57 1 11 (0 : Int32))).bind fun (P73 : PH) =>
    some P73
set_option maxRecDepth 100000 in
set_option maxHeartbeats 4000000 in
theorem Mo_reads_52_sem {G : GT} {l : Launch} (hG : GOK G l)   (P : PH)   : Sem G l miX11_reads 0 0 (rn tVH) 52 [(0, .ref (gA G 1))] [] P (Mo_reads_52 P) := by
  unfold Mo_reads_52
  refine s_aload_n (pc := 52) 0 dX11_reads_52 rfl rfl ?_
  refine s_aload_n (pc := 53) 0 dX11_reads_53 rfl rfl ?_
  refine s_getI (pc := 54) dX11_reads_54 (fi_X11_122 hG) kd_1 ?_
  refine s_putI (pc := 57) dX11_reads_57 (fp_X11_125 hG) kd_1 ?_
  refine s_letP (fun P57 => ?_)
  refine s_aload_n (pc := 60) 0 dX11_reads_60 rfl rfl ?_
  refine s_getI (pc := 61) dX11_reads_61 (fi_X11_122 hG) kd_1 ?_
  refine s_aload_n (pc := 64) 0 dX11_reads_64 rfl rfl ?_
  refine s_getI (pc := 65) dX11_reads_65 (fi_X11_119 hG) kd_1 ?_
  refine s_icmp_lt (pc := 68) 77 dX11_reads_68 rfl ?_ ?_
  · refine s_aload_n (pc := 77) 0 dX11_reads_77 rfl rfl ?_
    refine s_getR (pc := 78) 93 dX11_reads_78 (fi_X11_26 hG) kd_1 rfl ?_
    refine s_aload_n (pc := 81) 0 dX11_reads_81 rfl rfl ?_
    refine s_getI (pc := 82) dX11_reads_82 (fi_X11_122 hG) kd_1 ?_
    refine s_iald (pc := 85) 700 dX11_reads_85 kd_93 ln_93 ?_
    refine s_letI (fun u1_86 => ?_)
    refine s_istore_n (pc := 86) [(1, .int u1_86), (0, .ref (gA G 1))] dX11_reads_86 rfl (Nat.le_of_ble_eq_true rfl) rfl ?_
    refine s_iload_n (pc := 87) 0 dX11_reads_87 rfl rfl ?_
    refine s_callS (k := 0) (n := 0) (pc := 88) [.int u1_86] (fun x88 => .int x88 :: []) (fun _ => P57) dX11_reads_88 (cS_X11_131 hG) (Nat.le_of_ble_eq_true rfl) rfl (Mo_isLetter_ok hG u1_86 P57) rfl (fun _ => rfl) (fun _ => rfl) (Nat.le_of_ble_eq_true rfl) rfl rfl (fun x88 => ?_)
    refine s_if_eq (pc := 91) 129 dX11_reads_91 rfl ?_ ?_
    · refine s_iload_n (pc := 129) 0 dX11_reads_129 rfl rfl ?_
      refine s_callS (k := 0) (n := 0) (pc := 130) [.int u1_86] (fun x130 => .int x130 :: []) (fun _ => P57) dX11_reads_130 (cS_X11_138 hG) (Nat.le_of_ble_eq_true rfl) rfl (Mo_isDigit_ok hG u1_86 P57) rfl (fun _ => rfl) (fun _ => rfl) (Nat.le_of_ble_eq_true rfl) rfl rfl (fun x130 => ?_)
      refine s_if_eq (pc := 133) 237 dX11_reads_133 rfl ?_ ?_
      · refine s_aload_n (pc := 237) 1 dX11_reads_237 rfl rfl ?_
        refine s_iload_n (pc := 238) 0 dX11_reads_238 rfl rfl ?_
        refine s_bipush (pc := 239) (v := 59) dX11_reads_239 rfl ?_
        refine s_icmp_eq (pc := 241) 256 dX11_reads_241 rfl ?_ ?_
        · refine s_iconst (pc := 256) (v := 3) dX11_reads_256 rfl ?_
          refine s_goto (pc := 257) 261 dX11_reads_257 rfl ?_
          refine s_sub [1, 0] rfl ?_
          exact Mo_reads_261_sem hG u1_86 (3 : Int32) P57
        · refine s_iload_n (pc := 244) 0 dX11_reads_244 rfl rfl ?_
          refine s_bipush (pc := 245) (v := 40) dX11_reads_245 rfl ?_
          refine s_icmp_eq (pc := 247) 256 dX11_reads_247 rfl ?_ ?_
          · refine s_iconst (pc := 256) (v := 3) dX11_reads_256 rfl ?_
            refine s_goto (pc := 257) 261 dX11_reads_257 rfl ?_
            refine s_sub [1, 0] rfl ?_
            exact Mo_reads_261_sem hG u1_86 (3 : Int32) P57
          · refine s_iload_n (pc := 250) 0 dX11_reads_250 rfl rfl ?_
            refine s_bipush (pc := 251) (v := 41) dX11_reads_251 rfl ?_
            refine s_icmp_ne (pc := 253) 260 dX11_reads_253 rfl ?_ ?_
            · refine s_iconst (pc := 256) (v := 3) dX11_reads_256 rfl ?_
              refine s_goto (pc := 257) 261 dX11_reads_257 rfl ?_
              refine s_sub [1, 0] rfl ?_
              exact Mo_reads_261_sem hG u1_86 (3 : Int32) P57
            · refine s_iconst (pc := 260) (v := 4) dX11_reads_260 rfl ?_
              refine s_sub [1, 0] rfl ?_
              exact Mo_reads_261_sem hG u1_86 (4 : Int32) P57
      · refine s_aload_n (pc := 136) 1 dX11_reads_136 rfl rfl ?_
        refine s_iconst (pc := 137) (v := 0) dX11_reads_137 rfl ?_
        refine s_putI (pc := 138) dX11_reads_138 (fp_X11_141 hG) kd_1 ?_
        refine s_letP (fun P138 => ?_)
        refine s_sub [1] rfl ?_
        exact Mo_reads_141_sem hG  bigN P138
    · refine s_sub [1] rfl ?_
      exact Mo_reads_94_sem hG  bigN P57
  · refine s_aload_n (pc := 71) 0 dX11_reads_71 rfl rfl ?_
    refine s_iconst (pc := 72) (v := 0) dX11_reads_72 rfl ?_
    refine s_putI (pc := 73) dX11_reads_73 (fp_X11_128 hG) kd_1 ?_
    refine s_letP (fun P73 => ?_)
    exact s_vret (pc := 76) dX11_reads_76 rfl rfl
def Mo_reads_0     : Nat → PH → Option (PH)
  | 0 => fun _ => none
  | n + 1 => fun P =>
    if (P.1 1 8) ≤ (P.1 1 9) then
      Mo_reads_52 P
    else
      gdI (P.1 1 9) 700 <|
      if (P.1 93 (P.1 1 9).toNatClampNeg) = (32 : Int32) then
        (some (sI P 1 9 ((P.1 1 9) + (1 : Int32)))).bind fun (P46 : PH) =>
        Mo_reads_0  n P46
      else
        gdI (P.1 1 9) 700 <|
        if (P.1 93 (P.1 1 9).toNatClampNeg) = (10 : Int32) then
          (some (sI P 1 9 ((P.1 1 9) + (1 : Int32)))).bind fun (P46 : PH) =>
          Mo_reads_0  n P46
        else
          Mo_reads_52 P
set_option maxRecDepth 100000 in
set_option maxHeartbeats 4000000 in
theorem Mo_reads_0_sem {G : GT} {l : Launch} (hG : GOK G l)      : ∀ (n : Nat) (P : PH), Sem G l miX11_reads 0 0 (rn tVH) 0 [(0, .ref (gA G 1))] [] P (Mo_reads_0  n P) := by
  intro n
  induction n with
  | zero => intro  P; exact s_none rfl
  | succ n ih =>
    intro  P
    rw [Mo_reads_0]
    refine s_aload_n (pc := 0) 0 dX11_reads_0 rfl rfl ?_
    refine s_getI (pc := 1) dX11_reads_1 (fi_X11_122 hG) kd_1 ?_
    refine s_aload_n (pc := 4) 0 dX11_reads_4 rfl rfl ?_
    refine s_getI (pc := 5) dX11_reads_5 (fi_X11_119 hG) kd_1 ?_
    refine s_icmp_ge (pc := 8) 52 dX11_reads_8 rfl ?_ ?_
    · exact Mo_reads_52_sem hG P
    · refine s_aload_n (pc := 11) 0 dX11_reads_11 rfl rfl ?_
      refine s_getR (pc := 12) 93 dX11_reads_12 (fi_X11_26 hG) kd_1 rfl ?_
      refine s_aload_n (pc := 15) 0 dX11_reads_15 rfl rfl ?_
      refine s_getI (pc := 16) dX11_reads_16 (fi_X11_122 hG) kd_1 ?_
      refine s_iald (pc := 19) 700 dX11_reads_19 kd_93 ln_93 ?_
      refine s_bipush (pc := 20) (v := 32) dX11_reads_20 rfl ?_
      refine s_icmp_eq (pc := 22) 39 dX11_reads_22 rfl ?_ ?_
      · refine s_aload_n (pc := 39) 0 dX11_reads_39 rfl rfl ?_
        refine s_dup (pc := 40) dX11_reads_40 rfl ?_
        refine s_getI (pc := 41) dX11_reads_41 (fi_X11_122 hG) kd_1 ?_
        refine s_iconst (pc := 44) (v := 1) dX11_reads_44 rfl ?_
        refine s_iadd (pc := 45) dX11_reads_45 ?_
        refine s_putI (pc := 46) dX11_reads_46 (fp_X11_122 hG) kd_1 ?_
        refine s_letP (fun P46 => ?_)
        refine s_goto (pc := 49) 0 dX11_reads_49 rfl ?_
        exact ih P46
      · refine s_aload_n (pc := 25) 0 dX11_reads_25 rfl rfl ?_
        refine s_getR (pc := 26) 93 dX11_reads_26 (fi_X11_26 hG) kd_1 rfl ?_
        refine s_aload_n (pc := 29) 0 dX11_reads_29 rfl rfl ?_
        refine s_getI (pc := 30) dX11_reads_30 (fi_X11_122 hG) kd_1 ?_
        refine s_iald (pc := 33) 700 dX11_reads_33 kd_93 ln_93 ?_
        refine s_bipush (pc := 34) (v := 10) dX11_reads_34 rfl ?_
        refine s_icmp_ne (pc := 36) 52 dX11_reads_36 rfl ?_ ?_
        · refine s_aload_n (pc := 39) 0 dX11_reads_39 rfl rfl ?_
          refine s_dup (pc := 40) dX11_reads_40 rfl ?_
          refine s_getI (pc := 41) dX11_reads_41 (fi_X11_122 hG) kd_1 ?_
          refine s_iconst (pc := 44) (v := 1) dX11_reads_44 rfl ?_
          refine s_iadd (pc := 45) dX11_reads_45 ?_
          refine s_putI (pc := 46) dX11_reads_46 (fp_X11_122 hG) kd_1 ?_
          refine s_letP (fun P46 => ?_)
          refine s_goto (pc := 49) 0 dX11_reads_49 rfl ?_
          exact ih P46
        · exact Mo_reads_52_sem hG P
def Mo_reads   (P : PH) : Option (PH) :=
  Mo_reads_0  bigN P
set_option maxRecDepth 100000 in
set_option maxHeartbeats 4000000 in
theorem Mo_reads_ok {G : GT} {l : Launch} (hG : GOK G l)   (P : PH) : OkN G l yX11_reads miX11_reads 0 0 tVH [.ref (gA G 1)] P (Mo_reads P) := by
  refine okN_of hG _ [(0, .ref (gA G 1))] rfl rfl rfl (Nat.le_of_ble_eq_true rfl) rfl ?_
  unfold Mo_reads
  exact Mo_reads_0_sem hG  bigN P
def Mo_isSign  (v1 : Int32) (P : PH) : Option (Int32) :=
  if (P.1 1 14) = 0 then
    if (P.1 1 11) = (3 : Int32) then
      if (P.1 1 12) = v1 then
        gdP ((1 : Int32) = 0 ∨ (1 : Int32) = 1) <|
        some (1 : Int32)
      else
        gdP ((0 : Int32) = 0 ∨ (0 : Int32) = 1) <|
        some (0 : Int32)
    else
      gdP ((0 : Int32) = 0 ∨ (0 : Int32) = 1) <|
      some (0 : Int32)
  else
    gdP ((0 : Int32) = 0 ∨ (0 : Int32) = 1) <|
    some (0 : Int32)
set_option maxRecDepth 100000 in
set_option maxHeartbeats 4000000 in
theorem Mo_isSign_ok {G : GT} {l : Launch} (hG : GOK G l)  (v1 : Int32) (P : PH) : OkN G l yX11_isSign miX11_isSign 0 0 (tI P) [.ref (gA G 1), .int v1] P (Mo_isSign v1 P) := by
  refine okN_of hG _ [(0, .ref (gA G 1)), (1, .int v1)] rfl rfl rfl (Nat.le_of_ble_eq_true rfl) rfl ?_
  unfold Mo_isSign
  refine s_aload_n (pc := 0) 0 dX11_isSign_0 rfl rfl ?_
  refine s_getI (pc := 1) dX11_isSign_1 (fi_X11_144 hG) kd_1 ?_
  refine s_if_ne (pc := 4) 27 dX11_isSign_4 rfl ?_ ?_
  · refine s_aload_n (pc := 7) 0 dX11_isSign_7 rfl rfl ?_
    refine s_getI (pc := 8) dX11_isSign_8 (fi_X11_128 hG) kd_1 ?_
    refine s_iconst (pc := 11) (v := 3) dX11_isSign_11 rfl ?_
    refine s_icmp_ne (pc := 12) 27 dX11_isSign_12 rfl ?_ ?_
    · refine s_aload_n (pc := 15) 0 dX11_isSign_15 rfl rfl ?_
      refine s_getI (pc := 16) dX11_isSign_16 (fi_X11_141 hG) kd_1 ?_
      refine s_iload_n (pc := 19) 1 dX11_isSign_19 rfl rfl ?_
      refine s_icmp_ne (pc := 20) 27 dX11_isSign_20 rfl ?_ ?_
      · refine s_iconst (pc := 23) (v := 1) dX11_isSign_23 rfl ?_
        refine s_goto (pc := 24) 28 dX11_isSign_24 rfl ?_
        exact s_zret (pc := 28) dX11_isSign_28 rfl rfl
      · refine s_iconst (pc := 27) (v := 0) dX11_isSign_27 rfl ?_
        exact s_zret (pc := 28) dX11_isSign_28 rfl rfl
    · refine s_iconst (pc := 27) (v := 0) dX11_isSign_27 rfl ?_
      exact s_zret (pc := 28) dX11_isSign_28 rfl rfl
  · refine s_iconst (pc := 27) (v := 0) dX11_isSign_27 rfl ?_
    exact s_zret (pc := 28) dX11_isSign_28 rfl rfl
def Mo_blames  (v1 : Int32) (P : PH) : Option (PH) :=
  if (P.1 1 14) = 0 then
    if (P.1 1 11) = (4 : Int32) then
      (some (sI P 1 14 (1 : Int32))).bind fun (P22 : PH) =>
      (some (sI P22 1 15 (P22.1 1 10))).bind fun (P30 : PH) =>
      some P30
    else
      (some (sI P 1 14 v1)).bind fun (P22 : PH) =>
      (some (sI P22 1 15 (P22.1 1 10))).bind fun (P30 : PH) =>
      some P30
  else
    some P
set_option maxRecDepth 100000 in
set_option maxHeartbeats 4000000 in
theorem Mo_blames_ok {G : GT} {l : Launch} (hG : GOK G l)  (v1 : Int32) (P : PH) : OkN G l yX11_blames miX11_blames 0 0 tVH [.ref (gA G 1), .int v1] P (Mo_blames v1 P) := by
  refine okN_of hG _ [(0, .ref (gA G 1)), (1, .int v1)] rfl rfl rfl (Nat.le_of_ble_eq_true rfl) rfl ?_
  unfold Mo_blames
  refine s_aload_n (pc := 0) 0 dX11_blames_0 rfl rfl ?_
  refine s_getI (pc := 1) dX11_blames_1 (fi_X11_144 hG) kd_1 ?_
  refine s_if_eq (pc := 4) 8 dX11_blames_4 rfl ?_ ?_
  · refine s_aload_n (pc := 8) 0 dX11_blames_8 rfl rfl ?_
    refine s_aload_n (pc := 9) 0 dX11_blames_9 rfl rfl ?_
    refine s_getI (pc := 10) dX11_blames_10 (fi_X11_128 hG) kd_1 ?_
    refine s_iconst (pc := 13) (v := 4) dX11_blames_13 rfl ?_
    refine s_icmp_ne (pc := 14) 21 dX11_blames_14 rfl ?_ ?_
    · refine s_iconst (pc := 17) (v := 1) dX11_blames_17 rfl ?_
      refine s_goto (pc := 18) 22 dX11_blames_18 rfl ?_
      refine s_putI (pc := 22) dX11_blames_22 (fp_X11_144 hG) kd_1 ?_
      refine s_letP (fun P22 => ?_)
      refine s_aload_n (pc := 25) 0 dX11_blames_25 rfl rfl ?_
      refine s_aload_n (pc := 26) 0 dX11_blames_26 rfl rfl ?_
      refine s_getI (pc := 27) dX11_blames_27 (fi_X11_125 hG) kd_1 ?_
      refine s_putI (pc := 30) dX11_blames_30 (fp_X11_157 hG) kd_1 ?_
      refine s_letP (fun P30 => ?_)
      exact s_vret (pc := 33) dX11_blames_33 rfl rfl
    · refine s_iload_n (pc := 21) 1 dX11_blames_21 rfl rfl ?_
      refine s_putI (pc := 22) dX11_blames_22 (fp_X11_144 hG) kd_1 ?_
      refine s_letP (fun P22 => ?_)
      refine s_aload_n (pc := 25) 0 dX11_blames_25 rfl rfl ?_
      refine s_aload_n (pc := 26) 0 dX11_blames_26 rfl rfl ?_
      refine s_getI (pc := 27) dX11_blames_27 (fi_X11_125 hG) kd_1 ?_
      refine s_putI (pc := 30) dX11_blames_30 (fp_X11_157 hG) kd_1 ?_
      refine s_letP (fun P30 => ?_)
      exact s_vret (pc := 33) dX11_blames_33 rfl rfl
  · exact s_vret (pc := 7) dX11_blames_7 rfl rfl
