def Dr_clear  (t : Nat) (P : PH) : Option (PH) :=
  (some (sI P t 0 (0 : Int32))).bind fun (P2 : PH) =>
  (some (sI P2 t 1 (0 : Int32))).bind fun (P7 : PH) =>
  (some (rI P7 (t + 4) (fun _ => (0 : Int32)))).bind fun (P15 : PH) =>
  (some (rL P15 (t + 5) (fun _ => (0 : Int64)))).bind fun (P23 : PH) =>
  (some (rL P23 (t + 6) (fun _ => (0 : Int64)))).bind fun (P31 : PH) =>
  (some (rI P31 (t + 7) (fun _ => (0 : Int32)))).bind fun (P39 : PH) =>
  some P39
set_option maxRecDepth 100000 in
set_option maxHeartbeats 4000000 in
theorem Dr_clear_ok {G : GT} {l : Launch} (hG : GOK G l)  (t : Nat) (ht : kd t = 0) (P : PH) : OkN G l yX0_clear miX0_clear 0 0 tVH [.ref (gA G t)] P (Dr_clear t P) := by
  refine okN_of hG _ [(0, .ref (gA G t))] rfl rfl rfl (Nat.le_of_ble_eq_true rfl) rfl ?_
  unfold Dr_clear
  refine s_aload_n (pc := 0) 0 dX0_clear_0 rfl rfl ?_
  refine s_iconst (pc := 1) (v := 0) dX0_clear_1 rfl ?_
  refine s_putI (pc := 2) dX0_clear_2 (fp_X0_34 hG) ht ?_
  refine s_letP (fun P2 => ?_)
  refine s_aload_n (pc := 5) 0 dX0_clear_5 rfl rfl ?_
  refine s_iconst (pc := 6) (v := 0) dX0_clear_6 rfl ?_
  refine s_putI (pc := 7) dX0_clear_7 (fp_X0_38 hG) ht ?_
  refine s_letP (fun P7 => ?_)
  refine s_aload_n (pc := 10) 0 dX0_clear_10 rfl rfl ?_
  refine s_getR (pc := 11) (t + 4) dX0_clear_11 (fi_X0_21 hG) ht rfl ?_
  refine s_iconst (pc := 14) (v := 0) dX0_clear_14 rfl ?_
  refine s_fillI (pc := 15) dX0_clear_15 (fl_X0_41 hG) hG (kdf_0_5 ht).1 (Nat.le_of_ble_eq_true rfl) ?_
  refine s_letP (fun P15 => ?_)
  refine s_aload_n (pc := 18) 0 dX0_clear_18 rfl rfl ?_
  refine s_getR (pc := 19) (t + 5) dX0_clear_19 (fi_X0_24 hG) ht rfl ?_
  refine s_lconst (pc := 22) (v := 0) dX0_clear_22 rfl ?_
  refine s_fillL (pc := 23) dX0_clear_23 (fl_X0_47 hG) hG (kdf_0_6 ht).1 (Nat.le_of_ble_eq_true rfl) ?_
  refine s_letP (fun P23 => ?_)
  refine s_aload_n (pc := 26) 0 dX0_clear_26 rfl rfl ?_
  refine s_getR (pc := 27) (t + 6) dX0_clear_27 (fi_X0_28 hG) ht rfl ?_
  refine s_lconst (pc := 30) (v := 0) dX0_clear_30 rfl ?_
  refine s_fillL (pc := 31) dX0_clear_31 (fl_X0_47 hG) hG (kdf_0_7 ht).1 (Nat.le_of_ble_eq_true rfl) ?_
  refine s_letP (fun P31 => ?_)
  refine s_aload_n (pc := 34) 0 dX0_clear_34 rfl rfl ?_
  refine s_getR (pc := 35) (t + 7) dX0_clear_35 (fi_X0_31 hG) ht rfl ?_
  refine s_iconst (pc := 38) (v := 0) dX0_clear_38 rfl ?_
  refine s_fillI (pc := 39) dX0_clear_39 (fl_X0_41 hG) hG (kdf_0_8 ht).1 (Nat.le_of_ble_eq_true rfl) ?_
  refine s_letP (fun P39 => ?_)
  exact s_vret (pc := 42) dX0_clear_42 rfl rfl
def Dr_copy  (t : Nat) (v1 : Nat) (P : PH) : Option (PH) :=
  (some (sI P t 0 (P.1 v1 0))).bind fun (P5 : PH) =>
  (some (sI P5 t 1 (P5.1 v1 1))).bind fun (P13 : PH) =>
  (some (rI P13 (t + 1) (fun j => if j < 60 then P13.1 (v1 + 1) j else P13.1 (t + 1) j))).bind fun (P28 : PH) =>
  (some (rI P28 (t + 2) (fun j => if j < 60 then P28.1 (v1 + 2) j else P28.1 (t + 2) j))).bind fun (P43 : PH) =>
  (some (rI P43 (t + 3) (fun j => if j < 60 then P43.1 (v1 + 3) j else P43.1 (t + 3) j))).bind fun (P58 : PH) =>
  (some (rI P58 (t + 4) (fun j => if j < 1152 then P58.1 (v1 + 4) j else P58.1 (t + 4) j))).bind fun (P74 : PH) =>
  (some (rL P74 (t + 5) (fun j => if j < 144 then P74.2 (v1 + 5) j else P74.2 (t + 5) j))).bind fun (P90 : PH) =>
  (some (rL P90 (t + 6) (fun j => if j < 4 then P90.2 (v1 + 6) j else P90.2 (t + 6) j))).bind fun (P104 : PH) =>
  (some (rI P104 (t + 7) (fun j => if j < 144 then P104.1 (v1 + 7) j else P104.1 (t + 7) j))).bind fun (P120 : PH) =>
  some P120
set_option maxRecDepth 100000 in
set_option maxHeartbeats 4000000 in
theorem Dr_copy_ok {G : GT} {l : Launch} (hG : GOK G l)  (t : Nat) (ht : kd t = 0) (v1 : Nat) (hv1 : kd v1 = 0) (P : PH) : OkN G l yX0_copy miX0_copy 0 0 tVH [.ref (gA G t), .ref (gA G v1)] P (Dr_copy t v1 P) := by
  refine okN_of hG _ [(0, .ref (gA G t)), (1, .ref (gA G v1))] rfl rfl rfl (Nat.le_of_ble_eq_true rfl) rfl ?_
  unfold Dr_copy
  refine s_aload_n (pc := 0) 0 dX0_copy_0 rfl rfl ?_
  refine s_aload_n (pc := 1) 1 dX0_copy_1 rfl rfl ?_
  refine s_getI (pc := 2) dX0_copy_2 (fi_X0_34 hG) hv1 ?_
  refine s_putI (pc := 5) dX0_copy_5 (fp_X0_34 hG) ht ?_
  refine s_letP (fun P5 => ?_)
  refine s_aload_n (pc := 8) 0 dX0_copy_8 rfl rfl ?_
  refine s_aload_n (pc := 9) 1 dX0_copy_9 rfl rfl ?_
  refine s_getI (pc := 10) dX0_copy_10 (fi_X0_38 hG) hv1 ?_
  refine s_putI (pc := 13) dX0_copy_13 (fp_X0_38 hG) ht ?_
  refine s_letP (fun P13 => ?_)
  refine s_aload_n (pc := 16) 1 dX0_copy_16 rfl rfl ?_
  refine s_getR (pc := 17) (v1 + 1) dX0_copy_17 (fi_X0_9 hG) hv1 rfl ?_
  refine s_iconst (pc := 20) (v := 0) dX0_copy_20 rfl ?_
  refine s_aload_n (pc := 21) 0 dX0_copy_21 rfl rfl ?_
  refine s_getR (pc := 22) (t + 1) dX0_copy_22 (fi_X0_9 hG) ht rfl ?_
  refine s_iconst (pc := 25) (v := 0) dX0_copy_25 rfl ?_
  refine s_bipush (pc := 26) (v := 60) dX0_copy_26 rfl ?_
  refine s_copyI (pc := 28) 60 dX0_copy_28 (cp_X0_50 hG) (kdf_0_2 hv1).1 (kdf_0_2 hv1).2 (kdf_0_2 ht).1 (kdf_0_2 ht).2 (Nat.le_of_ble_eq_true rfl) (Nat.le_of_ble_eq_true rfl) (Nat.le_of_ble_eq_true rfl) (Nat.le_of_ble_eq_true rfl) ?_
  refine s_letP (fun P28 => ?_)
  refine s_aload_n (pc := 31) 1 dX0_copy_31 rfl rfl ?_
  refine s_getR (pc := 32) (v1 + 2) dX0_copy_32 (fi_X0_15 hG) hv1 rfl ?_
  refine s_iconst (pc := 35) (v := 0) dX0_copy_35 rfl ?_
  refine s_aload_n (pc := 36) 0 dX0_copy_36 rfl rfl ?_
  refine s_getR (pc := 37) (t + 2) dX0_copy_37 (fi_X0_15 hG) ht rfl ?_
  refine s_iconst (pc := 40) (v := 0) dX0_copy_40 rfl ?_
  refine s_bipush (pc := 41) (v := 60) dX0_copy_41 rfl ?_
  refine s_copyI (pc := 43) 60 dX0_copy_43 (cp_X0_50 hG) (kdf_0_3 hv1).1 (kdf_0_3 hv1).2 (kdf_0_3 ht).1 (kdf_0_3 ht).2 (Nat.le_of_ble_eq_true rfl) (Nat.le_of_ble_eq_true rfl) (Nat.le_of_ble_eq_true rfl) (Nat.le_of_ble_eq_true rfl) ?_
  refine s_letP (fun P43 => ?_)
  refine s_aload_n (pc := 46) 1 dX0_copy_46 rfl rfl ?_
  refine s_getR (pc := 47) (v1 + 3) dX0_copy_47 (fi_X0_18 hG) hv1 rfl ?_
  refine s_iconst (pc := 50) (v := 0) dX0_copy_50 rfl ?_
  refine s_aload_n (pc := 51) 0 dX0_copy_51 rfl rfl ?_
  refine s_getR (pc := 52) (t + 3) dX0_copy_52 (fi_X0_18 hG) ht rfl ?_
  refine s_iconst (pc := 55) (v := 0) dX0_copy_55 rfl ?_
  refine s_bipush (pc := 56) (v := 60) dX0_copy_56 rfl ?_
  refine s_copyI (pc := 58) 60 dX0_copy_58 (cp_X0_50 hG) (kdf_0_4 hv1).1 (kdf_0_4 hv1).2 (kdf_0_4 ht).1 (kdf_0_4 ht).2 (Nat.le_of_ble_eq_true rfl) (Nat.le_of_ble_eq_true rfl) (Nat.le_of_ble_eq_true rfl) (Nat.le_of_ble_eq_true rfl) ?_
  refine s_letP (fun P58 => ?_)
  refine s_aload_n (pc := 61) 1 dX0_copy_61 rfl rfl ?_
  refine s_getR (pc := 62) (v1 + 4) dX0_copy_62 (fi_X0_21 hG) hv1 rfl ?_
  refine s_iconst (pc := 65) (v := 0) dX0_copy_65 rfl ?_
  refine s_aload_n (pc := 66) 0 dX0_copy_66 rfl rfl ?_
  refine s_getR (pc := 67) (t + 4) dX0_copy_67 (fi_X0_21 hG) ht rfl ?_
  refine s_iconst (pc := 70) (v := 0) dX0_copy_70 rfl ?_
  refine s_sipush (pc := 71) (v := 1152) dX0_copy_71 rfl ?_
  refine s_copyI (pc := 74) 1152 dX0_copy_74 (cp_X0_50 hG) (kdf_0_5 hv1).1 (kdf_0_5 hv1).2 (kdf_0_5 ht).1 (kdf_0_5 ht).2 (Nat.le_of_ble_eq_true rfl) (Nat.le_of_ble_eq_true rfl) (Nat.le_of_ble_eq_true rfl) (Nat.le_of_ble_eq_true rfl) ?_
  refine s_letP (fun P74 => ?_)
  refine s_aload_n (pc := 77) 1 dX0_copy_77 rfl rfl ?_
  refine s_getR (pc := 78) (v1 + 5) dX0_copy_78 (fi_X0_24 hG) hv1 rfl ?_
  refine s_iconst (pc := 81) (v := 0) dX0_copy_81 rfl ?_
  refine s_aload_n (pc := 82) 0 dX0_copy_82 rfl rfl ?_
  refine s_getR (pc := 83) (t + 5) dX0_copy_83 (fi_X0_24 hG) ht rfl ?_
  refine s_iconst (pc := 86) (v := 0) dX0_copy_86 rfl ?_
  refine s_sipush (pc := 87) (v := 144) dX0_copy_87 rfl ?_
  refine s_copyL (pc := 90) 144 dX0_copy_90 (cp_X0_50 hG) (kdf_0_6 hv1).1 (kdf_0_6 hv1).2 (kdf_0_6 ht).1 (kdf_0_6 ht).2 (Nat.le_of_ble_eq_true rfl) (Nat.le_of_ble_eq_true rfl) (Nat.le_of_ble_eq_true rfl) (Nat.le_of_ble_eq_true rfl) ?_
  refine s_letP (fun P90 => ?_)
  refine s_aload_n (pc := 93) 1 dX0_copy_93 rfl rfl ?_
  refine s_getR (pc := 94) (v1 + 6) dX0_copy_94 (fi_X0_28 hG) hv1 rfl ?_
  refine s_iconst (pc := 97) (v := 0) dX0_copy_97 rfl ?_
  refine s_aload_n (pc := 98) 0 dX0_copy_98 rfl rfl ?_
  refine s_getR (pc := 99) (t + 6) dX0_copy_99 (fi_X0_28 hG) ht rfl ?_
  refine s_iconst (pc := 102) (v := 0) dX0_copy_102 rfl ?_
  refine s_iconst (pc := 103) (v := 4) dX0_copy_103 rfl ?_
  refine s_copyL (pc := 104) 4 dX0_copy_104 (cp_X0_50 hG) (kdf_0_7 hv1).1 (kdf_0_7 hv1).2 (kdf_0_7 ht).1 (kdf_0_7 ht).2 (Nat.le_of_ble_eq_true rfl) (Nat.le_of_ble_eq_true rfl) (Nat.le_of_ble_eq_true rfl) (Nat.le_of_ble_eq_true rfl) ?_
  refine s_letP (fun P104 => ?_)
  refine s_aload_n (pc := 107) 1 dX0_copy_107 rfl rfl ?_
  refine s_getR (pc := 108) (v1 + 7) dX0_copy_108 (fi_X0_31 hG) hv1 rfl ?_
  refine s_iconst (pc := 111) (v := 0) dX0_copy_111 rfl ?_
  refine s_aload_n (pc := 112) 0 dX0_copy_112 rfl rfl ?_
  refine s_getR (pc := 113) (t + 7) dX0_copy_113 (fi_X0_31 hG) ht rfl ?_
  refine s_iconst (pc := 116) (v := 0) dX0_copy_116 rfl ?_
  refine s_sipush (pc := 117) (v := 144) dX0_copy_117 rfl ?_
  refine s_copyI (pc := 120) 144 dX0_copy_120 (cp_X0_50 hG) (kdf_0_8 hv1).1 (kdf_0_8 hv1).2 (kdf_0_8 ht).1 (kdf_0_8 ht).2 (Nat.le_of_ble_eq_true rfl) (Nat.le_of_ble_eq_true rfl) (Nat.le_of_ble_eq_true rfl) (Nat.le_of_ble_eq_true rfl) ?_
  refine s_letP (fun P120 => ?_)
  exact s_vret (pc := 123) dX0_copy_123 rfl rfl
def Dr_lead  (t : Nat) (v1 : Int32) (v2 : Int32) (P : PH) : Option (PH) :=
  (some ((v1 * (8 : Int32)) + v2)).bind fun (u3_6 : Int32) =>
  if v1 < 0 then
    some P
  else
    if (144 : Int32) ≤ v1 then
      some P
    else
      if u3_6 < 0 then
        some P
      else
        if (1152 : Int32) ≤ u3_6 then
          some P
        else
          gdI u3_6 1152 <|
          (some (sI P (t + 4) u3_6.toNatClampNeg ((P.1 t 0) + (1 : Int32)))).bind fun (P44 : PH) =>
          gdI v1 144 <|
          gdI v1 144 <|
          (some (sL P44 (t + 5) v1.toNatClampNeg ((P44.2 (t + 5) v1.toNatClampNeg) ||| ((1 : Int64) <<< ((P44.1 t 0).toInt64 &&& 63))))).bind fun (P59 : PH) =>
          some P59
set_option maxRecDepth 100000 in
set_option maxHeartbeats 4000000 in
theorem Dr_lead_ok {G : GT} {l : Launch} (hG : GOK G l)  (t : Nat) (ht : kd t = 0) (v1 : Int32) (v2 : Int32) (P : PH) : OkN G l yX0_lead miX0_lead 0 0 tVH [.ref (gA G t), .int v1, .int v2] P (Dr_lead t v1 v2 P) := by
  refine okN_of hG _ [(0, .ref (gA G t)), (1, .int v1), (2, .int v2)] rfl rfl rfl (Nat.le_of_ble_eq_true rfl) rfl ?_
  unfold Dr_lead
  refine s_iload_n (pc := 0) 1 dX0_lead_0 rfl rfl ?_
  refine s_bipush (pc := 1) (v := 8) dX0_lead_1 rfl ?_
  refine s_imul (pc := 3) dX0_lead_3 ?_
  refine s_iload_n (pc := 4) 2 dX0_lead_4 rfl rfl ?_
  refine s_iadd (pc := 5) dX0_lead_5 ?_
  refine s_letI (fun u3_6 => ?_)
  refine s_istore_n (pc := 6) [(3, .int u3_6), (0, .ref (gA G t)), (1, .int v1), (2, .int v2)] dX0_lead_6 rfl (Nat.le_of_ble_eq_true rfl) rfl ?_
  refine s_iload_n (pc := 7) 2 dX0_lead_7 rfl rfl ?_
  refine s_if_lt (pc := 8) 60 dX0_lead_8 rfl ?_ ?_
  · exact s_vret (pc := 60) dX0_lead_60 rfl rfl
  · refine s_iload_n (pc := 11) 2 dX0_lead_11 rfl rfl ?_
    refine s_aload_n (pc := 12) 1 dX0_lead_12 rfl rfl ?_
    refine s_getR (pc := 13) (t + 5) dX0_lead_13 (fi_X0_24 hG) ht rfl ?_
    refine s_alen (pc := 16) (t := 2) 144 144 dX0_lead_16 (kdf_0_6 ht).1 (Nat.le_of_ble_eq_true rfl) (kdf_0_6 ht).2 rfl ?_
    refine s_icmp_ge (pc := 17) 60 dX0_lead_17 rfl ?_ ?_
    · exact s_vret (pc := 60) dX0_lead_60 rfl rfl
    · refine s_iload_n (pc := 20) 0 dX0_lead_20 rfl rfl ?_
      refine s_if_lt (pc := 21) 60 dX0_lead_21 rfl ?_ ?_
      · exact s_vret (pc := 60) dX0_lead_60 rfl rfl
      · refine s_iload_n (pc := 24) 0 dX0_lead_24 rfl rfl ?_
        refine s_aload_n (pc := 25) 1 dX0_lead_25 rfl rfl ?_
        refine s_getR (pc := 26) (t + 4) dX0_lead_26 (fi_X0_21 hG) ht rfl ?_
        refine s_alen (pc := 29) (t := 1) 1152 1152 dX0_lead_29 (kdf_0_5 ht).1 (Nat.le_of_ble_eq_true rfl) (kdf_0_5 ht).2 rfl ?_
        refine s_icmp_ge (pc := 30) 60 dX0_lead_30 rfl ?_ ?_
        · exact s_vret (pc := 60) dX0_lead_60 rfl rfl
        · refine s_aload_n (pc := 33) 1 dX0_lead_33 rfl rfl ?_
          refine s_getR (pc := 34) (t + 4) dX0_lead_34 (fi_X0_21 hG) ht rfl ?_
          refine s_iload_n (pc := 37) 0 dX0_lead_37 rfl rfl ?_
          refine s_aload_n (pc := 38) 1 dX0_lead_38 rfl rfl ?_
          refine s_getI (pc := 39) dX0_lead_39 (fi_X0_34 hG) ht ?_
          refine s_iconst (pc := 42) (v := 1) dX0_lead_42 rfl ?_
          refine s_iadd (pc := 43) dX0_lead_43 ?_
          refine s_iast (pc := 44) 1152 dX0_lead_44 (kdf_0_5 ht).1 (kdf_0_5 ht).2 ?_
          refine s_letP (fun P44 => ?_)
          refine s_aload_n (pc := 45) 1 dX0_lead_45 rfl rfl ?_
          refine s_getR (pc := 46) (t + 5) dX0_lead_46 (fi_X0_24 hG) ht rfl ?_
          refine s_iload_n (pc := 49) 2 dX0_lead_49 rfl rfl ?_
          refine s_dup2 (pc := 50) dX0_lead_50 rfl rfl ?_
          refine s_lald (pc := 51) 144 dX0_lead_51 (kdf_0_6 ht).1 (kdf_0_6 ht).2 ?_
          refine s_lconst (pc := 52) (v := 1) dX0_lead_52 rfl ?_
          refine s_aload_n (pc := 53) 1 dX0_lead_53 rfl rfl ?_
          refine s_getI (pc := 54) dX0_lead_54 (fi_X0_34 hG) ht ?_
          refine s_lshl (pc := 57) dX0_lead_57 ?_
          refine s_lor (pc := 58) dX0_lead_58 ?_
          refine s_last (pc := 59) 144 dX0_lead_59 (kdf_0_6 ht).1 (kdf_0_6 ht).2 ?_
          refine s_letP (fun P59 => ?_)
          exact s_vret (pc := 60) dX0_lead_60 rfl rfl
def Dr_draw  (t : Nat) (v1 : Int32) (v2 : Int32) (v3 : Int32) (v4 : Int32) (P : PH) : Option (PH) :=
  if v4 < 0 then
    some P
  else
    if (4 : Int32) ≤ v4 then
      some P
    else
      if (P.1 t 0) < 0 then
        some P
      else
        if (P.1 t 0) < (60 : Int32) then
          gdI (P.1 t 0) 60 <|
          (some (sI P (t + 1) (P.1 t 0).toNatClampNeg v1)).bind fun (P41 : PH) =>
          gdI (P41.1 t 0) 60 <|
          (some (sI P41 (t + 2) (P41.1 t 0).toNatClampNeg v3)).bind fun (P51 : PH) =>
          gdI (P51.1 t 0) 60 <|
          (some (sI P51 (t + 3) (P51.1 t 0).toNatClampNeg v4)).bind fun (P62 : PH) =>
          gdI v4 4 <|
          gdI v4 4 <|
          (some (sL P62 (t + 6) v4.toNatClampNeg ((P62.2 (t + 6) v4.toNatClampNeg) ||| ((1 : Int64) <<< ((P62.1 t 0).toInt64 &&& 63))))).bind fun (P78 : PH) =>
          (Dr_lead t v1 v2 P78).bind fun (x82 : PH) =>
          (Dr_lead t v3 ((v2 + (4 : Int32)) &&& (7 : Int32)) x82).bind fun (x93 : PH) =>
          (some (sI x93 t 0 ((x93.1 t 0) + (1 : Int32)))).bind fun (P103 : PH) =>
          some P103
        else
          some P
set_option maxRecDepth 100000 in
set_option maxHeartbeats 4000000 in
theorem Dr_draw_ok {G : GT} {l : Launch} (hG : GOK G l)  (t : Nat) (ht : kd t = 0) (v1 : Int32) (v2 : Int32) (v3 : Int32) (v4 : Int32) (P : PH) : OkN G l yX0_draw miX0_draw 0 0 tVH [.ref (gA G t), .int v1, .int v2, .int v3, .int v4] P (Dr_draw t v1 v2 v3 v4 P) := by
  refine okN_of hG _ [(0, .ref (gA G t)), (1, .int v1), (2, .int v2), (3, .int v3), (4, .int v4)] rfl rfl rfl (Nat.le_of_ble_eq_true rfl) rfl ?_
  unfold Dr_draw
  refine s_iload (pc := 0) 4 dX0_draw_0 rfl ?_
  refine s_if_lt (pc := 2) 31 dX0_draw_2 rfl ?_ ?_
  · exact s_vret (pc := 31) dX0_draw_31 rfl rfl
  · refine s_iload (pc := 5) 4 dX0_draw_5 rfl ?_
    refine s_aload_n (pc := 7) 0 dX0_draw_7 rfl rfl ?_
    refine s_getR (pc := 8) (t + 6) dX0_draw_8 (fi_X0_28 hG) ht rfl ?_
    refine s_alen (pc := 11) (t := 2) 4 4 dX0_draw_11 (kdf_0_7 ht).1 (Nat.le_of_ble_eq_true rfl) (kdf_0_7 ht).2 rfl ?_
    refine s_icmp_ge (pc := 12) 31 dX0_draw_12 rfl ?_ ?_
    · exact s_vret (pc := 31) dX0_draw_31 rfl rfl
    · refine s_aload_n (pc := 15) 0 dX0_draw_15 rfl rfl ?_
      refine s_getI (pc := 16) dX0_draw_16 (fi_X0_34 hG) ht ?_
      refine s_if_lt (pc := 19) 31 dX0_draw_19 rfl ?_ ?_
      · exact s_vret (pc := 31) dX0_draw_31 rfl rfl
      · refine s_aload_n (pc := 22) 0 dX0_draw_22 rfl rfl ?_
        refine s_getI (pc := 23) dX0_draw_23 (fi_X0_34 hG) ht ?_
        refine s_bipush (pc := 26) (v := 60) dX0_draw_26 rfl ?_
        refine s_icmp_lt (pc := 28) 32 dX0_draw_28 rfl ?_ ?_
        · refine s_aload_n (pc := 32) 0 dX0_draw_32 rfl rfl ?_
          refine s_getR (pc := 33) (t + 1) dX0_draw_33 (fi_X0_9 hG) ht rfl ?_
          refine s_aload_n (pc := 36) 0 dX0_draw_36 rfl rfl ?_
          refine s_getI (pc := 37) dX0_draw_37 (fi_X0_34 hG) ht ?_
          refine s_iload_n (pc := 40) 1 dX0_draw_40 rfl rfl ?_
          refine s_iast (pc := 41) 60 dX0_draw_41 (kdf_0_2 ht).1 (kdf_0_2 ht).2 ?_
          refine s_letP (fun P41 => ?_)
          refine s_aload_n (pc := 42) 0 dX0_draw_42 rfl rfl ?_
          refine s_getR (pc := 43) (t + 2) dX0_draw_43 (fi_X0_15 hG) ht rfl ?_
          refine s_aload_n (pc := 46) 0 dX0_draw_46 rfl rfl ?_
          refine s_getI (pc := 47) dX0_draw_47 (fi_X0_34 hG) ht ?_
          refine s_iload_n (pc := 50) 3 dX0_draw_50 rfl rfl ?_
          refine s_iast (pc := 51) 60 dX0_draw_51 (kdf_0_3 ht).1 (kdf_0_3 ht).2 ?_
          refine s_letP (fun P51 => ?_)
          refine s_aload_n (pc := 52) 0 dX0_draw_52 rfl rfl ?_
          refine s_getR (pc := 53) (t + 3) dX0_draw_53 (fi_X0_18 hG) ht rfl ?_
          refine s_aload_n (pc := 56) 0 dX0_draw_56 rfl rfl ?_
          refine s_getI (pc := 57) dX0_draw_57 (fi_X0_34 hG) ht ?_
          refine s_iload (pc := 60) 4 dX0_draw_60 rfl ?_
          refine s_iast (pc := 62) 60 dX0_draw_62 (kdf_0_4 ht).1 (kdf_0_4 ht).2 ?_
          refine s_letP (fun P62 => ?_)
          refine s_aload_n (pc := 63) 0 dX0_draw_63 rfl rfl ?_
          refine s_getR (pc := 64) (t + 6) dX0_draw_64 (fi_X0_28 hG) ht rfl ?_
          refine s_iload (pc := 67) 4 dX0_draw_67 rfl ?_
          refine s_dup2 (pc := 69) dX0_draw_69 rfl rfl ?_
          refine s_lald (pc := 70) 4 dX0_draw_70 (kdf_0_7 ht).1 (kdf_0_7 ht).2 ?_
          refine s_lconst (pc := 71) (v := 1) dX0_draw_71 rfl ?_
          refine s_aload_n (pc := 72) 0 dX0_draw_72 rfl rfl ?_
          refine s_getI (pc := 73) dX0_draw_73 (fi_X0_34 hG) ht ?_
          refine s_lshl (pc := 76) dX0_draw_76 ?_
          refine s_lor (pc := 77) dX0_draw_77 ?_
          refine s_last (pc := 78) 4 dX0_draw_78 (kdf_0_7 ht).1 (kdf_0_7 ht).2 ?_
          refine s_letP (fun P78 => ?_)
          refine s_aload_n (pc := 79) 0 dX0_draw_79 rfl rfl ?_
          refine s_iload_n (pc := 80) 1 dX0_draw_80 rfl rfl ?_
          refine s_iload_n (pc := 81) 2 dX0_draw_81 rfl rfl ?_
          refine s_callV (k := 0) (n := 0) (pc := 82) [.int v1, .int v2] (fun _ => []) (fun x82 => x82) dX0_draw_82 (cV_X0_56 hG) (Nat.le_of_ble_eq_true rfl) rfl ht (Dr_lead_ok hG t ht v1 v2 P78) rfl (fun _ => rfl) (fun _ => rfl) (Nat.le_of_ble_eq_true rfl) rfl rfl (fun x82 => ?_)
          refine s_aload_n (pc := 85) 0 dX0_draw_85 rfl rfl ?_
          refine s_iload_n (pc := 86) 3 dX0_draw_86 rfl rfl ?_
          refine s_iload_n (pc := 87) 2 dX0_draw_87 rfl rfl ?_
          refine s_iconst (pc := 88) (v := 4) dX0_draw_88 rfl ?_
          refine s_iadd (pc := 89) dX0_draw_89 ?_
          refine s_bipush (pc := 90) (v := 7) dX0_draw_90 rfl ?_
          refine s_iand (pc := 92) dX0_draw_92 ?_
          refine s_callV (k := 0) (n := 0) (pc := 93) [.int v3, .int ((v2 + (4 : Int32)) &&& (7 : Int32))] (fun _ => []) (fun x93 => x93) dX0_draw_93 (cV_X0_56 hG) (Nat.le_of_ble_eq_true rfl) rfl ht (Dr_lead_ok hG t ht v3 ((v2 + (4 : Int32)) &&& (7 : Int32)) x82) rfl (fun _ => rfl) (fun _ => rfl) (Nat.le_of_ble_eq_true rfl) rfl rfl (fun x93 => ?_)
          refine s_aload_n (pc := 96) 0 dX0_draw_96 rfl rfl ?_
          refine s_dup (pc := 97) dX0_draw_97 rfl ?_
          refine s_getI (pc := 98) dX0_draw_98 (fi_X0_34 hG) ht ?_
          refine s_iconst (pc := 101) (v := 1) dX0_draw_101 rfl ?_
          refine s_iadd (pc := 102) dX0_draw_102 ?_
          refine s_putI (pc := 103) dX0_draw_103 (fp_X0_34 hG) ht ?_
          refine s_letP (fun P103 => ?_)
          exact s_vret (pc := 106) dX0_draw_106 rfl rfl
        · exact s_vret (pc := 31) dX0_draw_31 rfl rfl
def Dr_tie  (t : Nat) (v1 : Int32) (P : PH) : Option (PH) :=
  if v1 < 0 then
    some P
  else
    if (144 : Int32) ≤ v1 then
      some P
    else
      gdI v1 144 <|
      if (P.1 (t + 7) v1.toNatClampNeg) = 0 then
        gdI v1 144 <|
        (some (sI P (t + 7) v1.toNatClampNeg (1 : Int32))).bind fun (P28 : PH) =>
        (some (sI P28 t 1 ((P28.1 t 1) + (1 : Int32)))).bind fun (P36 : PH) =>
        some P36
      else
        some P
set_option maxRecDepth 100000 in
set_option maxHeartbeats 4000000 in
theorem Dr_tie_ok {G : GT} {l : Launch} (hG : GOK G l)  (t : Nat) (ht : kd t = 0) (v1 : Int32) (P : PH) : OkN G l yX0_tie miX0_tie 0 0 tVH [.ref (gA G t), .int v1] P (Dr_tie t v1 P) := by
  refine okN_of hG _ [(0, .ref (gA G t)), (1, .int v1)] rfl rfl rfl (Nat.le_of_ble_eq_true rfl) rfl ?_
  unfold Dr_tie
  refine s_iload_n (pc := 0) 1 dX0_tie_0 rfl rfl ?_
  refine s_if_lt (pc := 1) 39 dX0_tie_1 rfl ?_ ?_
  · exact s_vret (pc := 39) dX0_tie_39 rfl rfl
  · refine s_iload_n (pc := 4) 1 dX0_tie_4 rfl rfl ?_
    refine s_aload_n (pc := 5) 0 dX0_tie_5 rfl rfl ?_
    refine s_getR (pc := 6) (t + 7) dX0_tie_6 (fi_X0_31 hG) ht rfl ?_
    refine s_alen (pc := 9) (t := 1) 144 144 dX0_tie_9 (kdf_0_8 ht).1 (Nat.le_of_ble_eq_true rfl) (kdf_0_8 ht).2 rfl ?_
    refine s_icmp_ge (pc := 10) 39 dX0_tie_10 rfl ?_ ?_
    · exact s_vret (pc := 39) dX0_tie_39 rfl rfl
    · refine s_aload_n (pc := 13) 0 dX0_tie_13 rfl rfl ?_
      refine s_getR (pc := 14) (t + 7) dX0_tie_14 (fi_X0_31 hG) ht rfl ?_
      refine s_iload_n (pc := 17) 1 dX0_tie_17 rfl rfl ?_
      refine s_iald (pc := 18) 144 dX0_tie_18 (kdf_0_8 ht).1 (kdf_0_8 ht).2 ?_
      refine s_if_ne (pc := 19) 39 dX0_tie_19 rfl ?_ ?_
      · refine s_aload_n (pc := 22) 0 dX0_tie_22 rfl rfl ?_
        refine s_getR (pc := 23) (t + 7) dX0_tie_23 (fi_X0_31 hG) ht rfl ?_
        refine s_iload_n (pc := 26) 1 dX0_tie_26 rfl rfl ?_
        refine s_iconst (pc := 27) (v := 1) dX0_tie_27 rfl ?_
        refine s_iast (pc := 28) 144 dX0_tie_28 (kdf_0_8 ht).1 (kdf_0_8 ht).2 ?_
        refine s_letP (fun P28 => ?_)
        refine s_aload_n (pc := 29) 0 dX0_tie_29 rfl rfl ?_
        refine s_dup (pc := 30) dX0_tie_30 rfl ?_
        refine s_getI (pc := 31) dX0_tie_31 (fi_X0_38 hG) ht ?_
        refine s_iconst (pc := 34) (v := 1) dX0_tie_34 rfl ?_
        refine s_iadd (pc := 35) dX0_tie_35 ?_
        refine s_putI (pc := 36) dX0_tie_36 (fp_X0_38 hG) ht ?_
        refine s_letP (fun P36 => ?_)
        exact s_vret (pc := 39) dX0_tie_39 rfl rfl
      · exact s_vret (pc := 39) dX0_tie_39 rfl rfl
def Dr_fromOf  (t : Nat) (v1 : Int32) (P : PH) : Option (Int32) :=
  if v1 < 0 then
    some (0 : Int32)
  else
    if (60 : Int32) ≤ v1 then
      some (0 : Int32)
    else
      gdI v1 60 <|
      some (P.1 (t + 1) v1.toNatClampNeg)
set_option maxRecDepth 100000 in
set_option maxHeartbeats 4000000 in
theorem Dr_fromOf_ok {G : GT} {l : Launch} (hG : GOK G l)  (t : Nat) (ht : kd t = 0) (v1 : Int32) (P : PH) : OkN G l yX0_fromOf miX0_fromOf 0 0 (tI P) [.ref (gA G t), .int v1] P (Dr_fromOf t v1 P) := by
  refine okN_of hG _ [(0, .ref (gA G t)), (1, .int v1)] rfl rfl rfl (Nat.le_of_ble_eq_true rfl) rfl ?_
  unfold Dr_fromOf
  refine s_iload_n (pc := 0) 1 dX0_fromOf_0 rfl rfl ?_
  refine s_if_lt (pc := 1) 22 dX0_fromOf_1 rfl ?_ ?_
  · refine s_iconst (pc := 22) (v := 0) dX0_fromOf_22 rfl ?_
    exact s_iret (pc := 23) dX0_fromOf_23 rfl rfl
  · refine s_iload_n (pc := 4) 1 dX0_fromOf_4 rfl rfl ?_
    refine s_aload_n (pc := 5) 0 dX0_fromOf_5 rfl rfl ?_
    refine s_getR (pc := 6) (t + 1) dX0_fromOf_6 (fi_X0_9 hG) ht rfl ?_
    refine s_alen (pc := 9) (t := 1) 60 60 dX0_fromOf_9 (kdf_0_2 ht).1 (Nat.le_of_ble_eq_true rfl) (kdf_0_2 ht).2 rfl ?_
    refine s_icmp_ge (pc := 10) 22 dX0_fromOf_10 rfl ?_ ?_
    · refine s_iconst (pc := 22) (v := 0) dX0_fromOf_22 rfl ?_
      exact s_iret (pc := 23) dX0_fromOf_23 rfl rfl
    · refine s_aload_n (pc := 13) 0 dX0_fromOf_13 rfl rfl ?_
      refine s_getR (pc := 14) (t + 1) dX0_fromOf_14 (fi_X0_9 hG) ht rfl ?_
      refine s_iload_n (pc := 17) 1 dX0_fromOf_17 rfl rfl ?_
      refine s_iald (pc := 18) 60 dX0_fromOf_18 (kdf_0_2 ht).1 (kdf_0_2 ht).2 ?_
      refine s_goto (pc := 19) 23 dX0_fromOf_19 rfl ?_
      exact s_iret (pc := 23) dX0_fromOf_23 rfl rfl
def Dr_toOf  (t : Nat) (v1 : Int32) (P : PH) : Option (Int32) :=
  if v1 < 0 then
    some (0 : Int32)
  else
    if (60 : Int32) ≤ v1 then
      some (0 : Int32)
    else
      gdI v1 60 <|
      some (P.1 (t + 2) v1.toNatClampNeg)
set_option maxRecDepth 100000 in
set_option maxHeartbeats 4000000 in
theorem Dr_toOf_ok {G : GT} {l : Launch} (hG : GOK G l)  (t : Nat) (ht : kd t = 0) (v1 : Int32) (P : PH) : OkN G l yX0_toOf miX0_toOf 0 0 (tI P) [.ref (gA G t), .int v1] P (Dr_toOf t v1 P) := by
  refine okN_of hG _ [(0, .ref (gA G t)), (1, .int v1)] rfl rfl rfl (Nat.le_of_ble_eq_true rfl) rfl ?_
  unfold Dr_toOf
  refine s_iload_n (pc := 0) 1 dX0_toOf_0 rfl rfl ?_
  refine s_if_lt (pc := 1) 22 dX0_toOf_1 rfl ?_ ?_
  · refine s_iconst (pc := 22) (v := 0) dX0_toOf_22 rfl ?_
    exact s_iret (pc := 23) dX0_toOf_23 rfl rfl
  · refine s_iload_n (pc := 4) 1 dX0_toOf_4 rfl rfl ?_
    refine s_aload_n (pc := 5) 0 dX0_toOf_5 rfl rfl ?_
    refine s_getR (pc := 6) (t + 2) dX0_toOf_6 (fi_X0_15 hG) ht rfl ?_
    refine s_alen (pc := 9) (t := 1) 60 60 dX0_toOf_9 (kdf_0_3 ht).1 (Nat.le_of_ble_eq_true rfl) (kdf_0_3 ht).2 rfl ?_
    refine s_icmp_ge (pc := 10) 22 dX0_toOf_10 rfl ?_ ?_
    · refine s_iconst (pc := 22) (v := 0) dX0_toOf_22 rfl ?_
      exact s_iret (pc := 23) dX0_toOf_23 rfl rfl
    · refine s_aload_n (pc := 13) 0 dX0_toOf_13 rfl rfl ?_
      refine s_getR (pc := 14) (t + 2) dX0_toOf_14 (fi_X0_15 hG) ht rfl ?_
      refine s_iload_n (pc := 17) 1 dX0_toOf_17 rfl rfl ?_
      refine s_iald (pc := 18) 60 dX0_toOf_18 (kdf_0_3 ht).1 (kdf_0_3 ht).2 ?_
      refine s_goto (pc := 19) 23 dX0_toOf_19 rfl ?_
      exact s_iret (pc := 23) dX0_toOf_23 rfl rfl
def Dr_inkOf  (t : Nat) (v1 : Int32) (P : PH) : Option (Int32) :=
  if v1 < 0 then
    some (0 : Int32)
  else
    if (60 : Int32) ≤ v1 then
      some (0 : Int32)
    else
      gdI v1 60 <|
      some (P.1 (t + 3) v1.toNatClampNeg)
set_option maxRecDepth 100000 in
set_option maxHeartbeats 4000000 in
theorem Dr_inkOf_ok {G : GT} {l : Launch} (hG : GOK G l)  (t : Nat) (ht : kd t = 0) (v1 : Int32) (P : PH) : OkN G l yX0_inkOf miX0_inkOf 0 0 (tI P) [.ref (gA G t), .int v1] P (Dr_inkOf t v1 P) := by
  refine okN_of hG _ [(0, .ref (gA G t)), (1, .int v1)] rfl rfl rfl (Nat.le_of_ble_eq_true rfl) rfl ?_
  unfold Dr_inkOf
  refine s_iload_n (pc := 0) 1 dX0_inkOf_0 rfl rfl ?_
  refine s_if_lt (pc := 1) 22 dX0_inkOf_1 rfl ?_ ?_
  · refine s_iconst (pc := 22) (v := 0) dX0_inkOf_22 rfl ?_
    exact s_iret (pc := 23) dX0_inkOf_23 rfl rfl
  · refine s_iload_n (pc := 4) 1 dX0_inkOf_4 rfl rfl ?_
    refine s_aload_n (pc := 5) 0 dX0_inkOf_5 rfl rfl ?_
    refine s_getR (pc := 6) (t + 3) dX0_inkOf_6 (fi_X0_18 hG) ht rfl ?_
    refine s_alen (pc := 9) (t := 1) 60 60 dX0_inkOf_9 (kdf_0_4 ht).1 (Nat.le_of_ble_eq_true rfl) (kdf_0_4 ht).2 rfl ?_
    refine s_icmp_ge (pc := 10) 22 dX0_inkOf_10 rfl ?_ ?_
    · refine s_iconst (pc := 22) (v := 0) dX0_inkOf_22 rfl ?_
      exact s_iret (pc := 23) dX0_inkOf_23 rfl rfl
    · refine s_aload_n (pc := 13) 0 dX0_inkOf_13 rfl rfl ?_
      refine s_getR (pc := 14) (t + 3) dX0_inkOf_14 (fi_X0_18 hG) ht rfl ?_
      refine s_iload_n (pc := 17) 1 dX0_inkOf_17 rfl rfl ?_
      refine s_iald (pc := 18) 60 dX0_inkOf_18 (kdf_0_4 ht).1 (kdf_0_4 ht).2 ?_
      refine s_goto (pc := 19) 23 dX0_inkOf_19 rfl ?_
      exact s_iret (pc := 23) dX0_inkOf_23 rfl rfl
def Dr_otherEnd  (t : Nat) (v1 : Int32) (v2 : Int32) (P : PH) : Option (Int32) :=
  (Dr_fromOf t v1 P).bind fun (x2 : Int32) =>
  if x2 = v2 then
    (Dr_toOf t v1 P).bind fun (x11 : Int32) =>
    some x11
  else
    (Dr_fromOf t v1 P).bind fun (x19 : Int32) =>
    some x19
set_option maxRecDepth 100000 in
set_option maxHeartbeats 4000000 in
theorem Dr_otherEnd_ok {G : GT} {l : Launch} (hG : GOK G l)  (t : Nat) (ht : kd t = 0) (v1 : Int32) (v2 : Int32) (P : PH) : OkN G l yX0_otherEnd miX0_otherEnd 0 0 (tI P) [.ref (gA G t), .int v1, .int v2] P (Dr_otherEnd t v1 v2 P) := by
  refine okN_of hG _ [(0, .ref (gA G t)), (1, .int v1), (2, .int v2)] rfl rfl rfl (Nat.le_of_ble_eq_true rfl) rfl ?_
  unfold Dr_otherEnd
  refine s_aload_n (pc := 0) 0 dX0_otherEnd_0 rfl rfl ?_
  refine s_iload_n (pc := 1) 1 dX0_otherEnd_1 rfl rfl ?_
  refine s_callV (k := 0) (n := 0) (pc := 2) [.int v1] (fun x2 => .int x2 :: []) (fun _ => P) dX0_otherEnd_2 (cV_X0_60 hG) (Nat.le_of_ble_eq_true rfl) rfl ht (Dr_fromOf_ok hG t ht v1 P) rfl (fun _ => rfl) (fun _ => rfl) (Nat.le_of_ble_eq_true rfl) rfl rfl (fun x2 => ?_)
  refine s_iload_n (pc := 5) 2 dX0_otherEnd_5 rfl rfl ?_
  refine s_icmp_ne (pc := 6) 17 dX0_otherEnd_6 rfl ?_ ?_
  · refine s_aload_n (pc := 9) 0 dX0_otherEnd_9 rfl rfl ?_
    refine s_iload_n (pc := 10) 1 dX0_otherEnd_10 rfl rfl ?_
    refine s_callV (k := 0) (n := 0) (pc := 11) [.int v1] (fun x11 => .int x11 :: []) (fun _ => P) dX0_otherEnd_11 (cV_X0_64 hG) (Nat.le_of_ble_eq_true rfl) rfl ht (Dr_toOf_ok hG t ht v1 P) rfl (fun _ => rfl) (fun _ => rfl) (Nat.le_of_ble_eq_true rfl) rfl rfl (fun x11 => ?_)
    refine s_goto (pc := 14) 22 dX0_otherEnd_14 rfl ?_
    exact s_iret (pc := 22) dX0_otherEnd_22 rfl rfl
  · refine s_aload_n (pc := 17) 0 dX0_otherEnd_17 rfl rfl ?_
    refine s_iload_n (pc := 18) 1 dX0_otherEnd_18 rfl rfl ?_
    refine s_callV (k := 0) (n := 0) (pc := 19) [.int v1] (fun x19 => .int x19 :: []) (fun _ => P) dX0_otherEnd_19 (cV_X0_60 hG) (Nat.le_of_ble_eq_true rfl) rfl ht (Dr_fromOf_ok hG t ht v1 P) rfl (fun _ => rfl) (fun _ => rfl) (Nat.le_of_ble_eq_true rfl) rfl rfl (fun x19 => ?_)
    exact s_iret (pc := 22) dX0_otherEnd_22 rfl rfl
def Dr_lineBy  (t : Nat) (v1 : Int32) (v2 : Int32) (P : PH) : Option (Int32) :=
  if v1 < 0 then
    some (-1 : Int32)
  else
    if (144 : Int32) ≤ v1 then
      some (-1 : Int32)
    else
      if v2 < 0 then
        some (-1 : Int32)
      else
        if v2 < (8 : Int32) then
          gdI ((v1 * (8 : Int32)) + v2) 1152 <|
          some ((P.1 (t + 4) ((v1 * (8 : Int32)) + v2).toNatClampNeg) - (1 : Int32))
        else
          some (-1 : Int32)
set_option maxRecDepth 100000 in
set_option maxHeartbeats 4000000 in
theorem Dr_lineBy_ok {G : GT} {l : Launch} (hG : GOK G l)  (t : Nat) (ht : kd t = 0) (v1 : Int32) (v2 : Int32) (P : PH) : OkN G l yX0_lineBy miX0_lineBy 0 0 (tI P) [.ref (gA G t), .int v1, .int v2] P (Dr_lineBy t v1 v2 P) := by
  refine okN_of hG _ [(0, .ref (gA G t)), (1, .int v1), (2, .int v2)] rfl rfl rfl (Nat.le_of_ble_eq_true rfl) rfl ?_
  unfold Dr_lineBy
  refine s_iload_n (pc := 0) 1 dX0_lineBy_0 rfl rfl ?_
  refine s_if_lt (pc := 1) 21 dX0_lineBy_1 rfl ?_ ?_
  · refine s_iconst (pc := 21) (v := -1) dX0_lineBy_21 rfl ?_
    exact s_iret (pc := 22) dX0_lineBy_22 rfl rfl
  · refine s_iload_n (pc := 4) 1 dX0_lineBy_4 rfl rfl ?_
    refine s_sipush (pc := 5) (v := 144) dX0_lineBy_5 rfl ?_
    refine s_icmp_ge (pc := 8) 21 dX0_lineBy_8 rfl ?_ ?_
    · refine s_iconst (pc := 21) (v := -1) dX0_lineBy_21 rfl ?_
      exact s_iret (pc := 22) dX0_lineBy_22 rfl rfl
    · refine s_iload_n (pc := 11) 2 dX0_lineBy_11 rfl rfl ?_
      refine s_if_lt (pc := 12) 21 dX0_lineBy_12 rfl ?_ ?_
      · refine s_iconst (pc := 21) (v := -1) dX0_lineBy_21 rfl ?_
        exact s_iret (pc := 22) dX0_lineBy_22 rfl rfl
      · refine s_iload_n (pc := 15) 2 dX0_lineBy_15 rfl rfl ?_
        refine s_bipush (pc := 16) (v := 8) dX0_lineBy_16 rfl ?_
        refine s_icmp_lt (pc := 18) 23 dX0_lineBy_18 rfl ?_ ?_
        · refine s_aload_n (pc := 23) 0 dX0_lineBy_23 rfl rfl ?_
          refine s_getR (pc := 24) (t + 4) dX0_lineBy_24 (fi_X0_21 hG) ht rfl ?_
          refine s_iload_n (pc := 27) 1 dX0_lineBy_27 rfl rfl ?_
          refine s_bipush (pc := 28) (v := 8) dX0_lineBy_28 rfl ?_
          refine s_imul (pc := 30) dX0_lineBy_30 ?_
          refine s_iload_n (pc := 31) 2 dX0_lineBy_31 rfl rfl ?_
          refine s_iadd (pc := 32) dX0_lineBy_32 ?_
          refine s_iald (pc := 33) 1152 dX0_lineBy_33 (kdf_0_5 ht).1 (kdf_0_5 ht).2 ?_
          refine s_iconst (pc := 34) (v := 1) dX0_lineBy_34 rfl ?_
          refine s_isub (pc := 35) dX0_lineBy_35 ?_
          exact s_iret (pc := 36) dX0_lineBy_36 rfl rfl
        · refine s_iconst (pc := 21) (v := -1) dX0_lineBy_21 rfl ?_
          exact s_iret (pc := 22) dX0_lineBy_22 rfl rfl
def Dr_linesAt  (t : Nat) (v1 : Int32) (P : PH) : Option (Int64) :=
  if v1 < 0 then
    some (0 : Int64)
  else
    if (144 : Int32) ≤ v1 then
      some (0 : Int64)
    else
      gdI v1 144 <|
      some (P.2 (t + 5) v1.toNatClampNeg)
set_option maxRecDepth 100000 in
set_option maxHeartbeats 4000000 in
theorem Dr_linesAt_ok {G : GT} {l : Launch} (hG : GOK G l)  (t : Nat) (ht : kd t = 0) (v1 : Int32) (P : PH) : OkN G l yX0_linesAt miX0_linesAt 0 0 (tL P) [.ref (gA G t), .int v1] P (Dr_linesAt t v1 P) := by
  refine okN_of hG _ [(0, .ref (gA G t)), (1, .int v1)] rfl rfl rfl (Nat.le_of_ble_eq_true rfl) rfl ?_
  unfold Dr_linesAt
  refine s_iload_n (pc := 0) 1 dX0_linesAt_0 rfl rfl ?_
  refine s_if_lt (pc := 1) 22 dX0_linesAt_1 rfl ?_ ?_
  · refine s_lconst (pc := 22) (v := 0) dX0_linesAt_22 rfl ?_
    exact s_lret (pc := 23) dX0_linesAt_23 rfl rfl
  · refine s_iload_n (pc := 4) 1 dX0_linesAt_4 rfl rfl ?_
    refine s_aload_n (pc := 5) 0 dX0_linesAt_5 rfl rfl ?_
    refine s_getR (pc := 6) (t + 5) dX0_linesAt_6 (fi_X0_24 hG) ht rfl ?_
    refine s_alen (pc := 9) (t := 2) 144 144 dX0_linesAt_9 (kdf_0_6 ht).1 (Nat.le_of_ble_eq_true rfl) (kdf_0_6 ht).2 rfl ?_
    refine s_icmp_ge (pc := 10) 22 dX0_linesAt_10 rfl ?_ ?_
    · refine s_lconst (pc := 22) (v := 0) dX0_linesAt_22 rfl ?_
      exact s_lret (pc := 23) dX0_linesAt_23 rfl rfl
    · refine s_aload_n (pc := 13) 0 dX0_linesAt_13 rfl rfl ?_
      refine s_getR (pc := 14) (t + 5) dX0_linesAt_14 (fi_X0_24 hG) ht rfl ?_
      refine s_iload_n (pc := 17) 1 dX0_linesAt_17 rfl rfl ?_
      refine s_lald (pc := 18) 144 dX0_linesAt_18 (kdf_0_6 ht).1 (kdf_0_6 ht).2 ?_
      refine s_goto (pc := 19) 23 dX0_linesAt_19 rfl ?_
      exact s_lret (pc := 23) dX0_linesAt_23 rfl rfl
def Dr_linesOf  (t : Nat) (v1 : Int32) (P : PH) : Option (Int64) :=
  if v1 = (-1 : Int32) then
    some (((1 : Int64) <<< ((P.1 t 0).toInt64 &&& 63)) - (1 : Int64))
  else
    if v1 < 0 then
      some (0 : Int64)
    else
      if (4 : Int32) ≤ v1 then
        some (0 : Int64)
      else
        gdI v1 4 <|
        some (P.2 (t + 6) v1.toNatClampNeg)
set_option maxRecDepth 100000 in
set_option maxHeartbeats 4000000 in
theorem Dr_linesOf_ok {G : GT} {l : Launch} (hG : GOK G l)  (t : Nat) (ht : kd t = 0) (v1 : Int32) (P : PH) : OkN G l yX0_linesOf miX0_linesOf 0 0 (tL P) [.ref (gA G t), .int v1] P (Dr_linesOf t v1 P) := by
  refine okN_of hG _ [(0, .ref (gA G t)), (1, .int v1)] rfl rfl rfl (Nat.le_of_ble_eq_true rfl) rfl ?_
  unfold Dr_linesOf
  refine s_iload_n (pc := 0) 1 dX0_linesOf_0 rfl rfl ?_
  refine s_iconst (pc := 1) (v := -1) dX0_linesOf_1 rfl ?_
  refine s_icmp_ne (pc := 2) 14 dX0_linesOf_2 rfl ?_ ?_
  · refine s_lconst (pc := 5) (v := 1) dX0_linesOf_5 rfl ?_
    refine s_aload_n (pc := 6) 0 dX0_linesOf_6 rfl rfl ?_
    refine s_getI (pc := 7) dX0_linesOf_7 (fi_X0_34 hG) ht ?_
    refine s_lshl (pc := 10) dX0_linesOf_10 ?_
    refine s_lconst (pc := 11) (v := 1) dX0_linesOf_11 rfl ?_
    refine s_lsub (pc := 12) dX0_linesOf_12 ?_
    exact s_lret (pc := 13) dX0_linesOf_13 rfl rfl
  · refine s_iload_n (pc := 14) 1 dX0_linesOf_14 rfl rfl ?_
    refine s_if_lt (pc := 15) 36 dX0_linesOf_15 rfl ?_ ?_
    · refine s_lconst (pc := 36) (v := 0) dX0_linesOf_36 rfl ?_
      exact s_lret (pc := 37) dX0_linesOf_37 rfl rfl
    · refine s_iload_n (pc := 18) 1 dX0_linesOf_18 rfl rfl ?_
      refine s_aload_n (pc := 19) 0 dX0_linesOf_19 rfl rfl ?_
      refine s_getR (pc := 20) (t + 6) dX0_linesOf_20 (fi_X0_28 hG) ht rfl ?_
      refine s_alen (pc := 23) (t := 2) 4 4 dX0_linesOf_23 (kdf_0_7 ht).1 (Nat.le_of_ble_eq_true rfl) (kdf_0_7 ht).2 rfl ?_
      refine s_icmp_ge (pc := 24) 36 dX0_linesOf_24 rfl ?_ ?_
      · refine s_lconst (pc := 36) (v := 0) dX0_linesOf_36 rfl ?_
        exact s_lret (pc := 37) dX0_linesOf_37 rfl rfl
      · refine s_aload_n (pc := 27) 0 dX0_linesOf_27 rfl rfl ?_
        refine s_getR (pc := 28) (t + 6) dX0_linesOf_28 (fi_X0_28 hG) ht rfl ?_
        refine s_iload_n (pc := 31) 1 dX0_linesOf_31 rfl rfl ?_
        refine s_lald (pc := 32) 4 dX0_linesOf_32 (kdf_0_7 ht).1 (kdf_0_7 ht).2 ?_
        refine s_goto (pc := 33) 37 dX0_linesOf_33 rfl ?_
        exact s_lret (pc := 37) dX0_linesOf_37 rfl rfl
def Dr_isKnot  (t : Nat) (v1 : Int32) (P : PH) : Option (Int32) :=
  if v1 < 0 then
    gdP ((0 : Int32) = 0 ∨ (0 : Int32) = 1) <|
    some (0 : Int32)
  else
    if (144 : Int32) ≤ v1 then
      gdP ((0 : Int32) = 0 ∨ (0 : Int32) = 1) <|
      some (0 : Int32)
    else
      gdI v1 144 <|
      if (P.1 (t + 7) v1.toNatClampNeg) = 0 then
        gdP ((0 : Int32) = 0 ∨ (0 : Int32) = 1) <|
        some (0 : Int32)
      else
        gdP ((1 : Int32) = 0 ∨ (1 : Int32) = 1) <|
        some (1 : Int32)
set_option maxRecDepth 100000 in
set_option maxHeartbeats 4000000 in
theorem Dr_isKnot_ok {G : GT} {l : Launch} (hG : GOK G l)  (t : Nat) (ht : kd t = 0) (v1 : Int32) (P : PH) : OkN G l yX0_isKnot miX0_isKnot 0 0 (tI P) [.ref (gA G t), .int v1] P (Dr_isKnot t v1 P) := by
  refine okN_of hG _ [(0, .ref (gA G t)), (1, .int v1)] rfl rfl rfl (Nat.le_of_ble_eq_true rfl) rfl ?_
  unfold Dr_isKnot
  refine s_iload_n (pc := 0) 1 dX0_isKnot_0 rfl rfl ?_
  refine s_if_lt (pc := 1) 26 dX0_isKnot_1 rfl ?_ ?_
  · refine s_iconst (pc := 26) (v := 0) dX0_isKnot_26 rfl ?_
    exact s_zret (pc := 27) dX0_isKnot_27 rfl rfl
  · refine s_iload_n (pc := 4) 1 dX0_isKnot_4 rfl rfl ?_
    refine s_aload_n (pc := 5) 0 dX0_isKnot_5 rfl rfl ?_
    refine s_getR (pc := 6) (t + 7) dX0_isKnot_6 (fi_X0_31 hG) ht rfl ?_
    refine s_alen (pc := 9) (t := 1) 144 144 dX0_isKnot_9 (kdf_0_8 ht).1 (Nat.le_of_ble_eq_true rfl) (kdf_0_8 ht).2 rfl ?_
    refine s_icmp_ge (pc := 10) 26 dX0_isKnot_10 rfl ?_ ?_
    · refine s_iconst (pc := 26) (v := 0) dX0_isKnot_26 rfl ?_
      exact s_zret (pc := 27) dX0_isKnot_27 rfl rfl
    · refine s_aload_n (pc := 13) 0 dX0_isKnot_13 rfl rfl ?_
      refine s_getR (pc := 14) (t + 7) dX0_isKnot_14 (fi_X0_31 hG) ht rfl ?_
      refine s_iload_n (pc := 17) 1 dX0_isKnot_17 rfl rfl ?_
      refine s_iald (pc := 18) 144 dX0_isKnot_18 (kdf_0_8 ht).1 (kdf_0_8 ht).2 ?_
      refine s_if_eq (pc := 19) 26 dX0_isKnot_19 rfl ?_ ?_
      · refine s_iconst (pc := 26) (v := 0) dX0_isKnot_26 rfl ?_
        exact s_zret (pc := 27) dX0_isKnot_27 rfl rfl
      · refine s_iconst (pc := 22) (v := 1) dX0_isKnot_22 rfl ?_
        refine s_goto (pc := 23) 27 dX0_isKnot_23 rfl ?_
        exact s_zret (pc := 27) dX0_isKnot_27 rfl rfl
def Dr_knotAt_4   (t : Nat) (v1 : Int32) (P : PH) : Nat → Int32 → Int32 → Option (Int32)
  | 0 => fun _ _ => none
  | n + 1 => fun v2 v3 =>
    if (144 : Int32) ≤ v3 then
      some (-1 : Int32)
    else
      gdI v3 144 <|
      if (P.1 (t + 7) v3.toNatClampNeg) = 0 then
        Dr_knotAt_4 t v1 P n v2 (v3 + 1)
      else
        if v2 = v1 then
          some v3
        else
          Dr_knotAt_4 t v1 P n (v2 + 1) (v3 + 1)
set_option maxRecDepth 100000 in
set_option maxHeartbeats 4000000 in
theorem Dr_knotAt_4_sem {G : GT} {l : Launch} (hG : GOK G l)  (t : Nat) (ht : kd t = 0) (v1 : Int32) (P : PH)   : ∀ (n : Nat) (v2 : Int32) (v3 : Int32), Sem G l miX0_knotAt 0 0 (rn (tI P)) 4 [(0, .ref (gA G t)), (1, .int v1), (2, .int v2), (3, .int v3)] [] P (Dr_knotAt_4 t v1 P n v2 v3) := by
  intro n
  induction n with
  | zero => intro v2 v3; exact s_none rfl
  | succ n ih =>
    intro v2 v3
    rw [Dr_knotAt_4]
    refine s_iload_n (pc := 4) 3 dX0_knotAt_4 rfl rfl ?_
    refine s_aload_n (pc := 5) 0 dX0_knotAt_5 rfl rfl ?_
    refine s_getR (pc := 6) (t + 7) dX0_knotAt_6 (fi_X0_31 hG) ht rfl ?_
    refine s_alen (pc := 9) (t := 1) 144 144 dX0_knotAt_9 (kdf_0_8 ht).1 (Nat.le_of_ble_eq_true rfl) (kdf_0_8 ht).2 rfl ?_
    refine s_icmp_ge (pc := 10) 38 dX0_knotAt_10 rfl ?_ ?_
    · refine s_iconst (pc := 38) (v := -1) dX0_knotAt_38 rfl ?_
      exact s_iret (pc := 39) dX0_knotAt_39 rfl rfl
    · refine s_aload_n (pc := 13) 0 dX0_knotAt_13 rfl rfl ?_
      refine s_getR (pc := 14) (t + 7) dX0_knotAt_14 (fi_X0_31 hG) ht rfl ?_
      refine s_iload_n (pc := 17) 3 dX0_knotAt_17 rfl rfl ?_
      refine s_iald (pc := 18) 144 dX0_knotAt_18 (kdf_0_8 ht).1 (kdf_0_8 ht).2 ?_
      refine s_if_eq (pc := 19) 32 dX0_knotAt_19 rfl ?_ ?_
      · refine s_iinc (pc := 32) 3 1 [(3, .int (v3 + 1)), (0, .ref (gA G t)), (1, .int v1), (2, .int v2)] dX0_knotAt_32 rfl rfl (Nat.le_of_ble_eq_true rfl) rfl ?_
        refine s_goto (pc := 35) 4 dX0_knotAt_35 rfl ?_
        refine s_sub [1, 2, 3, 0] rfl ?_
        exact ih v2 (v3 + 1)
      · refine s_iload_n (pc := 22) 2 dX0_knotAt_22 rfl rfl ?_
        refine s_iload_n (pc := 23) 1 dX0_knotAt_23 rfl rfl ?_
        refine s_icmp_ne (pc := 24) 29 dX0_knotAt_24 rfl ?_ ?_
        · refine s_iload_n (pc := 27) 3 dX0_knotAt_27 rfl rfl ?_
          exact s_iret (pc := 28) dX0_knotAt_28 rfl rfl
        · refine s_iinc (pc := 29) 2 1 [(2, .int (v2 + 1)), (0, .ref (gA G t)), (1, .int v1), (3, .int v3)] dX0_knotAt_29 rfl rfl (Nat.le_of_ble_eq_true rfl) rfl ?_
          refine s_iinc (pc := 32) 3 1 [(3, .int (v3 + 1)), (2, .int (v2 + 1)), (0, .ref (gA G t)), (1, .int v1)] dX0_knotAt_32 rfl rfl (Nat.le_of_ble_eq_true rfl) rfl ?_
          refine s_goto (pc := 35) 4 dX0_knotAt_35 rfl ?_
          refine s_sub [2, 3, 1, 0] rfl ?_
          exact ih (v2 + 1) (v3 + 1)
def Dr_knotAt  (t : Nat) (v1 : Int32) (P : PH) : Option (Int32) :=
  Dr_knotAt_4 t v1 P bigN (0 : Int32) (0 : Int32)
set_option maxRecDepth 100000 in
set_option maxHeartbeats 4000000 in
theorem Dr_knotAt_ok {G : GT} {l : Launch} (hG : GOK G l)  (t : Nat) (ht : kd t = 0) (v1 : Int32) (P : PH) : OkN G l yX0_knotAt miX0_knotAt 0 0 (tI P) [.ref (gA G t), .int v1] P (Dr_knotAt t v1 P) := by
  refine okN_of hG _ [(0, .ref (gA G t)), (1, .int v1)] rfl rfl rfl (Nat.le_of_ble_eq_true rfl) rfl ?_
  unfold Dr_knotAt
  refine s_iconst (pc := 0) (v := 0) dX0_knotAt_0 rfl ?_
  refine s_istore_n (pc := 1) [(2, .int ((0 : Int32))), (0, .ref (gA G t)), (1, .int v1)] dX0_knotAt_1 rfl (Nat.le_of_ble_eq_true rfl) rfl ?_
  refine s_iconst (pc := 2) (v := 0) dX0_knotAt_2 rfl ?_
  refine s_istore_n (pc := 3) [(3, .int ((0 : Int32))), (2, .int ((0 : Int32))), (0, .ref (gA G t)), (1, .int v1)] dX0_knotAt_3 rfl (Nat.le_of_ble_eq_true rfl) rfl ?_
  refine s_sub [2, 3, 1, 0] rfl ?_
  exact Dr_knotAt_4_sem hG t ht v1 P bigN (0 : Int32) (0 : Int32)
def Jl_bitCount  (v0 : Int64) (P : PH) : Option (Int32) :=
  (some (v0 - (((v0.toUInt64 >>> ((1 : Int32).toInt64.toUInt64 &&& Int64.toUInt64 63)).toInt64) &&& (6148914691236517205 : Int64)))).bind fun (u0_9 : Int64) =>
  (some ((u0_9 &&& (3689348814741910323 : Int64)) + (((u0_9.toUInt64 >>> ((2 : Int32).toInt64.toUInt64 &&& Int64.toUInt64 63)).toInt64) &&& (3689348814741910323 : Int64)))).bind fun (u0_23 : Int64) =>
  (some ((u0_23 + ((u0_23.toUInt64 >>> ((4 : Int32).toInt64.toUInt64 &&& Int64.toUInt64 63)).toInt64)) &&& (1085102592571150095 : Int64))).bind fun (u0_33 : Int64) =>
  (some (u0_33 + ((u0_33.toUInt64 >>> ((8 : Int32).toInt64.toUInt64 &&& Int64.toUInt64 63)).toInt64))).bind fun (u0_40 : Int64) =>
  (some (u0_40 + ((u0_40.toUInt64 >>> ((16 : Int32).toInt64.toUInt64 &&& Int64.toUInt64 63)).toInt64))).bind fun (u0_47 : Int64) =>
  (some (u0_47 + ((u0_47.toUInt64 >>> ((32 : Int32).toInt64.toUInt64 &&& Int64.toUInt64 63)).toInt64))).bind fun (u0_54 : Int64) =>
  some ((u0_54.toInt32) &&& (127 : Int32))
set_option maxRecDepth 100000 in
set_option maxHeartbeats 4000000 in
theorem Jl_bitCount_ok {G : GT} {l : Launch} (hG : GOK G l)  (v0 : Int64) (P : PH) : OkN G l yJ13_bitCount_95d88 miJ13_bitCount_95d88 0 0 (tI P) [.long v0] P (Jl_bitCount v0 P) := by
  refine okN_of hG _ [(0, .long v0)] (by decide +kernel) rfl rfl (Nat.le_of_ble_eq_true rfl) rfl ?_
  unfold Jl_bitCount
  refine s_lload_n (pc := 0) 0 dJ13_bitCount_95d88_0 rfl rfl ?_
  refine s_lload_n (pc := 1) 0 dJ13_bitCount_95d88_1 rfl rfl ?_
  refine s_iconst (pc := 2) (v := 1) dJ13_bitCount_95d88_2 rfl ?_
  refine s_lushr (pc := 3) dJ13_bitCount_95d88_3 ?_
  refine s_ldc2 (pc := 4) (v := 6148914691236517205) dJ13_bitCount_95d88_4 (gw_J13_314 hG) ?_
  refine s_land (pc := 7) dJ13_bitCount_95d88_7 ?_
  refine s_lsub (pc := 8) dJ13_bitCount_95d88_8 ?_
  refine s_letL (fun u0_9 => ?_)
  refine s_lstore_n (pc := 9) [(0, .long u0_9)] dJ13_bitCount_95d88_9 rfl (Nat.le_of_ble_eq_true rfl) rfl ?_
  refine s_lload_n (pc := 10) 0 dJ13_bitCount_95d88_10 rfl rfl ?_
  refine s_ldc2 (pc := 11) (v := 3689348814741910323) dJ13_bitCount_95d88_11 (gw_J13_316 hG) ?_
  refine s_land (pc := 14) dJ13_bitCount_95d88_14 ?_
  refine s_lload_n (pc := 15) 0 dJ13_bitCount_95d88_15 rfl rfl ?_
  refine s_iconst (pc := 16) (v := 2) dJ13_bitCount_95d88_16 rfl ?_
  refine s_lushr (pc := 17) dJ13_bitCount_95d88_17 ?_
  refine s_ldc2 (pc := 18) (v := 3689348814741910323) dJ13_bitCount_95d88_18 (gw_J13_316 hG) ?_
  refine s_land (pc := 21) dJ13_bitCount_95d88_21 ?_
  refine s_ladd (pc := 22) dJ13_bitCount_95d88_22 ?_
  refine s_letL (fun u0_23 => ?_)
  refine s_lstore_n (pc := 23) [(0, .long u0_23)] dJ13_bitCount_95d88_23 rfl (Nat.le_of_ble_eq_true rfl) rfl ?_
  refine s_lload_n (pc := 24) 0 dJ13_bitCount_95d88_24 rfl rfl ?_
  refine s_lload_n (pc := 25) 0 dJ13_bitCount_95d88_25 rfl rfl ?_
  refine s_iconst (pc := 26) (v := 4) dJ13_bitCount_95d88_26 rfl ?_
  refine s_lushr (pc := 27) dJ13_bitCount_95d88_27 ?_
  refine s_ladd (pc := 28) dJ13_bitCount_95d88_28 ?_
  refine s_ldc2 (pc := 29) (v := 1085102592571150095) dJ13_bitCount_95d88_29 (gw_J13_318 hG) ?_
  refine s_land (pc := 32) dJ13_bitCount_95d88_32 ?_
  refine s_letL (fun u0_33 => ?_)
  refine s_lstore_n (pc := 33) [(0, .long u0_33)] dJ13_bitCount_95d88_33 rfl (Nat.le_of_ble_eq_true rfl) rfl ?_
  refine s_lload_n (pc := 34) 0 dJ13_bitCount_95d88_34 rfl rfl ?_
  refine s_lload_n (pc := 35) 0 dJ13_bitCount_95d88_35 rfl rfl ?_
  refine s_bipush (pc := 36) (v := 8) dJ13_bitCount_95d88_36 rfl ?_
  refine s_lushr (pc := 38) dJ13_bitCount_95d88_38 ?_
  refine s_ladd (pc := 39) dJ13_bitCount_95d88_39 ?_
  refine s_letL (fun u0_40 => ?_)
  refine s_lstore_n (pc := 40) [(0, .long u0_40)] dJ13_bitCount_95d88_40 rfl (Nat.le_of_ble_eq_true rfl) rfl ?_
  refine s_lload_n (pc := 41) 0 dJ13_bitCount_95d88_41 rfl rfl ?_
  refine s_lload_n (pc := 42) 0 dJ13_bitCount_95d88_42 rfl rfl ?_
  refine s_bipush (pc := 43) (v := 16) dJ13_bitCount_95d88_43 rfl ?_
  refine s_lushr (pc := 45) dJ13_bitCount_95d88_45 ?_
  refine s_ladd (pc := 46) dJ13_bitCount_95d88_46 ?_
  refine s_letL (fun u0_47 => ?_)
  refine s_lstore_n (pc := 47) [(0, .long u0_47)] dJ13_bitCount_95d88_47 rfl (Nat.le_of_ble_eq_true rfl) rfl ?_
  refine s_lload_n (pc := 48) 0 dJ13_bitCount_95d88_48 rfl rfl ?_
  refine s_lload_n (pc := 49) 0 dJ13_bitCount_95d88_49 rfl rfl ?_
  refine s_bipush (pc := 50) (v := 32) dJ13_bitCount_95d88_50 rfl ?_
  refine s_lushr (pc := 52) dJ13_bitCount_95d88_52 ?_
  refine s_ladd (pc := 53) dJ13_bitCount_95d88_53 ?_
  refine s_letL (fun u0_54 => ?_)
  refine s_lstore_n (pc := 54) [(0, .long u0_54)] dJ13_bitCount_95d88_54 rfl (Nat.le_of_ble_eq_true rfl) rfl ?_
  refine s_lload_n (pc := 55) 0 dJ13_bitCount_95d88_55 rfl rfl ?_
  refine s_l2i (pc := 56) dJ13_bitCount_95d88_56 ?_
  refine s_bipush (pc := 57) (v := 127) dJ13_bitCount_95d88_57 rfl ?_
  refine s_iand (pc := 59) dJ13_bitCount_95d88_59 ?_
  exact s_iret (pc := 60) dJ13_bitCount_95d88_60 rfl rfl
def Bs_lowest  (v0 : Int64) (P : PH) : Option (Int32) :=
  (Jl_bitCount ((v0 &&& (-v0)) - (1 : Int64)) P).bind fun (x6 : Int32) =>
  some x6
set_option maxRecDepth 100000 in
set_option maxHeartbeats 4000000 in
theorem Bs_lowest_ok {G : GT} {l : Launch} (hG : GOK G l)  (v0 : Int64) (P : PH) : OkN G l yX10_lowest miX10_lowest 0 0 (tI P) [.long v0] P (Bs_lowest v0 P) := by
  refine okN_of hG _ [(0, .long v0)] rfl rfl rfl (Nat.le_of_ble_eq_true rfl) rfl ?_
  unfold Bs_lowest
  refine s_lload_n (pc := 0) 0 dX10_lowest_0 rfl rfl ?_
  refine s_lload_n (pc := 1) 0 dX10_lowest_1 rfl rfl ?_
  refine s_lneg (pc := 2) dX10_lowest_2 ?_
  refine s_land (pc := 3) dX10_lowest_3 ?_
  refine s_lconst (pc := 4) (v := 1) dX10_lowest_4 rfl ?_
  refine s_lsub (pc := 5) dX10_lowest_5 ?_
  refine s_callS (k := 0) (n := 0) (pc := 6) [.long ((v0 &&& (-v0)) - (1 : Int64))] (fun x6 => .int x6 :: []) (fun _ => P) dX10_lowest_6 (cS_X10_167 hG) (Nat.le_of_ble_eq_true rfl) rfl (Jl_bitCount_ok hG ((v0 &&& (-v0)) - (1 : Int64)) P) rfl (fun _ => rfl) (fun _ => rfl) (Nat.le_of_ble_eq_true rfl) rfl rfl (fun x6 => ?_)
  exact s_iret (pc := 9) dX10_lowest_9 rfl rfl
def Dr_together_16   (t : Nat) (v1 : Int64) (P : PH) : Nat → Int64 → Int64 → Int32 → Option (Int64)
  | 0 => fun _ _ _ => none
  | n + 1 => fun v4 v6 v8 =>
    if (60 : Int32) ≤ v8 then
      some v4
    else
      if (lg_cmp v6 (0 : Int64)) = 0 then
        some v4
      else
        (Bs_lowest v6 P).bind fun (x32 : Int32) =>
        (Dr_fromOf t x32 P).bind fun (x41 : Int32) =>
        (Dr_linesAt t x41 P).bind fun (x44 : Int64) =>
        (Dr_toOf t x32 P).bind fun (x51 : Int32) =>
        (Dr_linesAt t x51 P).bind fun (x54 : Int64) =>
        (some (((x44 ||| x54) &&& v1) &&& (v4 ^^^ (-1 : Int64)))).bind fun (u10_67 : Int64) =>
        (some (v4 ||| u10_67)).bind fun (u4_74 : Int64) =>
        (some ((v6 &&& (v6 - (1 : Int64))) ||| u10_67)).bind fun (u6_86 : Int64) =>
        Dr_together_16 t v1 P n u4_74 u6_86 (v8 + 1)
set_option maxRecDepth 100000 in
set_option maxHeartbeats 4000000 in
theorem Dr_together_16_sem {G : GT} {l : Launch} (hG : GOK G l)  (t : Nat) (ht : kd t = 0) (v1 : Int64) (P : PH)   : ∀ (n : Nat) (v4 : Int64) (v6 : Int64) (v8 : Int32), Sem G l miX0_together 0 0 (rn (tL P)) 16 [(0, .ref (gA G t)), (1, .long v1), (4, .long v4), (6, .long v6), (8, .int v8)] [] P (Dr_together_16 t v1 P n v4 v6 v8) := by
  intro n
  induction n with
  | zero => intro v4 v6 v8; exact s_none rfl
  | succ n ih =>
    intro v4 v6 v8
    rw [Dr_together_16]
    refine s_iload (pc := 16) 4 dX0_together_16 rfl ?_
    refine s_bipush (pc := 18) (v := 60) dX0_together_18 rfl ?_
    refine s_icmp_ge (pc := 20) 94 dX0_together_20 rfl ?_ ?_
    · refine s_lload (pc := 94) 2 dX0_together_94 rfl ?_
      exact s_lret (pc := 96) dX0_together_96 rfl rfl
    · refine s_lload (pc := 23) 3 dX0_together_23 rfl ?_
      refine s_lconst (pc := 25) (v := 0) dX0_together_25 rfl ?_
      refine s_lcmp (pc := 26) dX0_together_26 ?_
      refine s_if_eq (pc := 27) 94 dX0_together_27 rfl ?_ ?_
      · refine s_lload (pc := 94) 2 dX0_together_94 rfl ?_
        exact s_lret (pc := 96) dX0_together_96 rfl rfl
      · refine s_lload (pc := 30) 3 dX0_together_30 rfl ?_
        refine s_callSN (k := 0) (n := 0) (pc := 32) [.long v6] (fun x32 => .int x32 :: []) (fun _ => P) dX0_together_32 (cSN_X0_71 hG) (Nat.le_of_ble_eq_true rfl) rfl (Bs_lowest_ok hG v6 P) rfl (fun _ => rfl) (fun _ => rfl) (Nat.le_of_ble_eq_true rfl) rfl rfl (fun x32 => ?_)
        refine s_istore (pc := 35) [(9, .int x32), (0, .ref (gA G t)), (1, .long v1), (4, .long v4), (6, .long v6), (8, .int v8)] dX0_together_35 (Nat.le_of_ble_eq_true rfl) rfl ?_
        refine s_aload_n (pc := 37) 1 dX0_together_37 rfl rfl ?_
        refine s_aload_n (pc := 38) 1 dX0_together_38 rfl rfl ?_
        refine s_iload (pc := 39) 0 dX0_together_39 rfl ?_
        refine s_callV (k := 0) (n := 0) (pc := 41) [.int x32] (fun x41 => .int x41 :: [.ref (gA G t)]) (fun _ => P) dX0_together_41 (cV_X0_60 hG) (Nat.le_of_ble_eq_true rfl) rfl ht (Dr_fromOf_ok hG t ht x32 P) rfl (fun _ => rfl) (fun _ => rfl) (Nat.le_of_ble_eq_true rfl) rfl rfl (fun x41 => ?_)
        refine s_callV (k := 0) (n := 0) (pc := 44) [.int x41] (fun x44 => .long x44 :: []) (fun _ => P) dX0_together_44 (cV_X0_67 hG) (Nat.le_of_ble_eq_true rfl) rfl ht (Dr_linesAt_ok hG t ht x41 P) rfl (fun _ => rfl) (fun _ => rfl) (Nat.le_of_ble_eq_true rfl) rfl rfl (fun x44 => ?_)
        refine s_aload_n (pc := 47) 1 dX0_together_47 rfl rfl ?_
        refine s_aload_n (pc := 48) 1 dX0_together_48 rfl rfl ?_
        refine s_iload (pc := 49) 0 dX0_together_49 rfl ?_
        refine s_callV (k := 0) (n := 0) (pc := 51) [.int x32] (fun x51 => .int x51 :: [.ref (gA G t), .long x44]) (fun _ => P) dX0_together_51 (cV_X0_64 hG) (Nat.le_of_ble_eq_true rfl) rfl ht (Dr_toOf_ok hG t ht x32 P) rfl (fun _ => rfl) (fun _ => rfl) (Nat.le_of_ble_eq_true rfl) rfl rfl (fun x51 => ?_)
        refine s_callV (k := 0) (n := 0) (pc := 54) [.int x51] (fun x54 => .long x54 :: [.long x44]) (fun _ => P) dX0_together_54 (cV_X0_67 hG) (Nat.le_of_ble_eq_true rfl) rfl ht (Dr_linesAt_ok hG t ht x51 P) rfl (fun _ => rfl) (fun _ => rfl) (Nat.le_of_ble_eq_true rfl) rfl rfl (fun x54 => ?_)
        refine s_lor (pc := 57) dX0_together_57 ?_
        refine s_lload_n (pc := 58) 2 dX0_together_58 rfl rfl ?_
        refine s_land (pc := 59) dX0_together_59 ?_
        refine s_lload (pc := 60) 3 dX0_together_60 rfl ?_
        refine s_ldc2 (pc := 62) (v := (-1)) dX0_together_62 (gw_X0_75 hG) ?_
        refine s_lxor (pc := 65) dX0_together_65 ?_
        refine s_land (pc := 66) dX0_together_66 ?_
        refine s_letL (fun u10_67 => ?_)
        refine s_lstore (pc := 67) [(10, .long u10_67), (9, .int x32), (0, .ref (gA G t)), (1, .long v1), (4, .long v4), (6, .long v6), (8, .int v8)] dX0_together_67 (Nat.le_of_ble_eq_true rfl) rfl ?_
        refine s_lload (pc := 69) 4 dX0_together_69 rfl ?_
        refine s_lload (pc := 71) 0 dX0_together_71 rfl ?_
        refine s_lor (pc := 73) dX0_together_73 ?_
        refine s_letL (fun u4_74 => ?_)
        refine s_lstore (pc := 74) [(4, .long u4_74), (10, .long u10_67), (9, .int x32), (0, .ref (gA G t)), (1, .long v1), (6, .long v6), (8, .int v8)] dX0_together_74 (Nat.le_of_ble_eq_true rfl) rfl ?_
        refine s_lload (pc := 76) 5 dX0_together_76 rfl ?_
        refine s_lload (pc := 78) 5 dX0_together_78 rfl ?_
        refine s_lconst (pc := 80) (v := 1) dX0_together_80 rfl ?_
        refine s_lsub (pc := 81) dX0_together_81 ?_
        refine s_land (pc := 82) dX0_together_82 ?_
        refine s_lload (pc := 83) 1 dX0_together_83 rfl ?_
        refine s_lor (pc := 85) dX0_together_85 ?_
        refine s_letL (fun u6_86 => ?_)
        refine s_lstore (pc := 86) [(6, .long u6_86), (4, .long u4_74), (10, .long u10_67), (9, .int x32), (0, .ref (gA G t)), (1, .long v1), (8, .int v8)] dX0_together_86 (Nat.le_of_ble_eq_true rfl) rfl ?_
        refine s_iinc (pc := 88) 6 1 [(8, .int (v8 + 1)), (6, .long u6_86), (4, .long u4_74), (10, .long u10_67), (9, .int x32), (0, .ref (gA G t)), (1, .long v1)] dX0_together_88 rfl rfl (Nat.le_of_ble_eq_true rfl) rfl ?_
        refine s_goto (pc := 91) 16 dX0_together_91 rfl ?_
        refine s_sub [5, 6, 2, 1, 0] rfl ?_
        exact ih u4_74 u6_86 (v8 + 1)
def Dr_together  (t : Nat) (v1 : Int64) (v3 : Int32) (P : PH) : Option (Int64) :=
  (Dr_linesAt t v3 P).bind fun (x2 : Int64) =>
  (some (x2 &&& v1)).bind fun (u4_7 : Int64) =>
  Dr_together_16 t v1 P bigN u4_7 u4_7 (0 : Int32)
set_option maxRecDepth 100000 in
set_option maxHeartbeats 4000000 in
theorem Dr_together_ok {G : GT} {l : Launch} (hG : GOK G l)  (t : Nat) (ht : kd t = 0) (v1 : Int64) (v3 : Int32) (P : PH) : OkN G l yX0_together miX0_together 0 0 (tL P) [.ref (gA G t), .long v1, .int v3] P (Dr_together t v1 v3 P) := by
  refine okN_of hG _ [(0, .ref (gA G t)), (1, .long v1), (3, .int v3)] rfl rfl rfl (Nat.le_of_ble_eq_true rfl) rfl ?_
  unfold Dr_together
  refine s_aload_n (pc := 0) 0 dX0_together_0 rfl rfl ?_
  refine s_iload_n (pc := 1) 2 dX0_together_1 rfl rfl ?_
  refine s_callV (k := 0) (n := 0) (pc := 2) [.int v3] (fun x2 => .long x2 :: []) (fun _ => P) dX0_together_2 (cV_X0_67 hG) (Nat.le_of_ble_eq_true rfl) rfl ht (Dr_linesAt_ok hG t ht v3 P) rfl (fun _ => rfl) (fun _ => rfl) (Nat.le_of_ble_eq_true rfl) rfl rfl (fun x2 => ?_)
  refine s_lload_n (pc := 5) 1 dX0_together_5 rfl rfl ?_
  refine s_land (pc := 6) dX0_together_6 ?_
  refine s_letL (fun u4_7 => ?_)
  refine s_lstore (pc := 7) [(4, .long u4_7), (0, .ref (gA G t)), (1, .long v1), (3, .int v3)] dX0_together_7 (Nat.le_of_ble_eq_true rfl) rfl ?_
  refine s_lload (pc := 9) 0 dX0_together_9 rfl ?_
  refine s_lstore (pc := 11) [(6, .long u4_7), (4, .long u4_7), (0, .ref (gA G t)), (1, .long v1), (3, .int v3)] dX0_together_11 (Nat.le_of_ble_eq_true rfl) rfl ?_
  refine s_iconst (pc := 13) (v := 0) dX0_together_13 rfl ?_
  refine s_istore (pc := 14) [(8, .int ((0 : Int32))), (6, .long u4_7), (4, .long u4_7), (0, .ref (gA G t)), (1, .long v1), (3, .int v3)] dX0_together_14 (Nat.le_of_ble_eq_true rfl) rfl ?_
  refine s_sub [3, 4, 2, 1, 0] rfl ?_
  exact Dr_together_16_sem hG t ht v1 P bigN u4_7 u4_7 (0 : Int32)
