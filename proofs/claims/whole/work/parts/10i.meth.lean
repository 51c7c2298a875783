def Bs_crossings  (v1 : Int32) (P : PH) : Option (Int32) :=
  (Dr_crossed 3 v1 P).bind fun (x5 : Int32) =>
  some x5
set_option maxRecDepth 100000 in
set_option maxHeartbeats 4000000 in
theorem Bs_crossings_ok {G : GT} {l : Launch} (hG : GOK G l)  (v1 : Int32) (P : PH) : OkN G l yX10_crossings miX10_crossings 0 0 (tI P) [.ref (gA G 0), .int v1] P (Bs_crossings v1 P) := by
  refine okN_of hG _ [(0, .ref (gA G 0)), (1, .int v1)] rfl rfl rfl (Nat.le_of_ble_eq_true rfl) rfl ?_
  unfold Bs_crossings
  refine s_aload_n (pc := 0) 0 dX10_crossings_0 rfl rfl ?_
  refine s_getR (pc := 1) 3 dX10_crossings_1 (fi_X10_28 hG) kd_0 rfl ?_
  refine s_iload_n (pc := 4) 1 dX10_crossings_4 rfl rfl ?_
  refine s_callV (k := 0) (n := 0) (pc := 5) [.int v1] (fun x5 => .int x5 :: []) (fun _ => P) dX10_crossings_5 (cV_X10_192 hG) (Nat.le_of_ble_eq_true rfl) rfl kd_3 (Dr_crossed_ok hG 3 kd_3 v1 P) rfl (fun _ => rfl) (fun _ => rfl) (Nat.le_of_ble_eq_true rfl) rfl rfl (fun x5 => ?_)
  exact s_iret (pc := 8) dX10_crossings_8 rfl rfl
def Bs_alike_9    (P : PH) : Option ((String ⊕ Int32)) :=
  some (Sum.inl "java/lang/IllegalArgumentException")
set_option maxRecDepth 100000 in
set_option maxHeartbeats 4000000 in
theorem Bs_alike_9_sem {G : GT} {l : Launch} (hG : GOK G l)   (P : PH)   : Sem G l miX10_alike 1 6 (xI P) 9 [] [] P (Bs_alike_9 P) := by
  unfold Bs_alike_9
  exact s_throw (pc := 9) (thr_X10_196 hG) dX10_alike_9 dX10_alike_12 dX10_alike_13 dX10_alike_15 dX10_alike_18 rfl rfl (Nat.le_of_ble_eq_true rfl) (Nat.le_of_ble_eq_true rfl) (Nat.le_of_ble_eq_true rfl)
def Bs_alike  (v1 : Int32) (P : PH) : Option ((String ⊕ Int32)) :=
  if v1 < 0 then
    Bs_alike_9 P
  else
    if v1 ≤ (3 : Int32) then
      (Dr_likeItself 3 v1 P).bind fun (x24 : Int32) =>
      gdP (x24 = 0 ∨ x24 = 1) <|
      some (Sum.inr x24)
    else
      Bs_alike_9 P
set_option maxRecDepth 100000 in
set_option maxHeartbeats 4000000 in
theorem Bs_alike_ok {G : GT} {l : Launch} (hG : GOK G l)  (v1 : Int32) (P : PH) : OkT G l yX10_alike miX10_alike 1 6 (xI P) [.ref (gA G 0), .int v1] P (Bs_alike v1 P) := by
  refine okT_of hG _ [(0, .ref (gA G 0)), (1, .int v1)] rfl rfl rfl (Nat.le_of_ble_eq_true rfl) rfl ?_
  unfold Bs_alike
  refine s_iload_n (pc := 0) 1 dX10_alike_0 rfl rfl ?_
  refine s_if_lt (pc := 1) 9 dX10_alike_1 rfl ?_ ?_
  · refine s_sub [] rfl ?_
    exact Bs_alike_9_sem hG P
  · refine s_iload_n (pc := 4) 1 dX10_alike_4 rfl rfl ?_
    refine s_iconst (pc := 5) (v := 3) dX10_alike_5 rfl ?_
    refine s_icmp_le (pc := 6) 19 dX10_alike_6 rfl ?_ ?_
    · refine s_aload_n (pc := 19) 0 dX10_alike_19 rfl rfl ?_
      refine s_getR (pc := 20) 3 dX10_alike_20 (fi_X10_28 hG) kd_0 rfl ?_
      refine s_iload_n (pc := 23) 1 dX10_alike_23 rfl rfl ?_
      refine s_callV (k := 1) (n := 6) (pc := 24) [.int v1] (fun x24 => .int x24 :: []) (fun _ => P) dX10_alike_24 (cV_X10_198 hG) (Nat.le_of_ble_eq_true rfl) rfl kd_3 (Dr_likeItself_ok hG 3 kd_3 v1 P) rfl (fun _ => rfl) (fun _ => rfl) (Nat.le_of_ble_eq_true rfl) rfl rfl (fun x24 => ?_)
      exact s_zret (pc := 27) dX10_alike_27 rfl rfl
    · refine s_sub [] rfl ?_
      exact Bs_alike_9_sem hG P
def Bs_begin  (v1 : Int32) (v2 : Int32) (v3 : Int32) (P : PH) : Option ((String ⊕ Unit) × PH) :=
  (Bs_checkHole v1 P).bind fun (x1 : String ⊕ Unit) =>
  Sum.elim (fun E => some (Sum.inl E, P)) (fun (w1 : Unit) =>
    (Bs_checkInk v2 P).bind fun (x5 : String ⊕ Unit) =>
    Sum.elim (fun E => some (Sum.inl E, P)) (fun (w5 : Unit) =>
      (Ne_start 43 v1 v2 v3 P).bind fun (x15 : PH) =>
      some (Sum.inr (), x15)) x5) x1
set_option maxRecDepth 100000 in
set_option maxHeartbeats 4000000 in
theorem Bs_begin_ok {G : GT} {l : Launch} (hG : GOK G l)  (v1 : Int32) (v2 : Int32) (v3 : Int32) (P : PH) : OkT G l yX10_begin miX10_begin 2 12 xVH [.ref (gA G 0), .int v1, .int v2, .int v3] P (Bs_begin v1 v2 v3 P) := by
  refine okT_of hG _ [(0, .ref (gA G 0)), (1, .int v1), (2, .int v2), (3, .int v3)] rfl rfl rfl (Nat.le_of_ble_eq_true rfl) rfl ?_
  unfold Bs_begin
  refine s_iload_n (pc := 0) 1 dX10_begin_0 rfl rfl ?_
  refine s_callSTp (k := 1) (n := 6) (pc := 1) [.int v1] (fun w => []) (fun E => (Sum.inl E, P)) dX10_begin_1 (cS_X10_147 hG) (Nat.le_of_ble_eq_true rfl) rfl (Bs_checkHole_ok hG v1 P) rfl rfl (fun _ => rfl) (Nat.le_of_ble_eq_true rfl) rfl rfl (fun _ => rfl) (fun w1 => ?_)
  refine s_iload_n (pc := 4) 2 dX10_begin_4 rfl rfl ?_
  refine s_callSTp (k := 0) (n := 0) (pc := 5) [.int v2] (fun w => []) (fun E => (Sum.inl E, P)) dX10_begin_5 (cS_X10_176 hG) (Nat.le_of_ble_eq_true rfl) rfl (Bs_checkInk_ok hG v2 P) rfl rfl (fun _ => rfl) (Nat.le_of_ble_eq_true rfl) rfl rfl (fun _ => rfl) (fun w5 => ?_)
  refine s_aload_n (pc := 8) 0 dX10_begin_8 rfl rfl ?_
  refine s_getR (pc := 9) 43 dX10_begin_9 (fi_X10_61 hG) kd_0 rfl ?_
  refine s_iload_n (pc := 12) 1 dX10_begin_12 rfl rfl ?_
  refine s_iload_n (pc := 13) 2 dX10_begin_13 rfl rfl ?_
  refine s_iload_n (pc := 14) 3 dX10_begin_14 rfl rfl ?_
  refine s_callV (k := 0) (n := 0) (pc := 15) [.int v1, .int v2, .int v3] (fun _ => []) (fun x15 => x15) dX10_begin_15 (cV_X10_202 hG) (Nat.le_of_ble_eq_true rfl) rfl kd_43 (Ne_start_ok hG 43 kd_43 v1 v2 v3 P) rfl (fun _ => rfl) (fun _ => rfl) (Nat.le_of_ble_eq_true rfl) rfl rfl (fun x15 => ?_)
  exact s_vret (pc := 18) dX10_begin_18 rfl rfl
def Bs_checkThread   (P : PH) : Option ((String ⊕ Unit)) :=
  if (P.1 43 2) = 0 then
    some (Sum.inl "java/lang/IllegalStateException")
  else
    some (Sum.inr ())
set_option maxRecDepth 100000 in
set_option maxHeartbeats 4000000 in
theorem Bs_checkThread_ok {G : GT} {l : Launch} (hG : GOK G l)   (P : PH) : OkT G l yX10_checkThread miX10_checkThread 1 6 (xV P) [.ref (gA G 0)] P (Bs_checkThread P) := by
  refine okT_of hG _ [(0, .ref (gA G 0))] rfl rfl rfl (Nat.le_of_ble_eq_true rfl) rfl ?_
  unfold Bs_checkThread
  refine s_aload_n (pc := 0) 0 dX10_checkThread_0 rfl rfl ?_
  refine s_getR (pc := 1) 43 dX10_checkThread_1 (fi_X10_61 hG) kd_0 rfl ?_
  refine s_getI (pc := 4) dX10_checkThread_4 (fi_X10_377 hG) kd_43 ?_
  refine s_if_ne (pc := 7) 21 dX10_checkThread_7 rfl ?_ ?_
  · exact s_throwW (pc := 10) (thr_X10_380 hG) dX10_checkThread_10 dX10_checkThread_13 dX10_checkThread_14 dX10_checkThread_17 dX10_checkThread_20 rfl rfl (Nat.le_of_ble_eq_true rfl) (Nat.le_of_ble_eq_true rfl) (Nat.le_of_ble_eq_true rfl)
  · exact s_vret (pc := 21) dX10_checkThread_21 rfl rfl
def Bs_cut   (P : PH) : Option ((String ⊕ Int32) × PH) :=
  (Bs_checkThread P).bind fun (x1 : String ⊕ Unit) =>
  Sum.elim (fun E => some (Sum.inl E, P)) (fun (w1 : Unit) =>
    (Ne_snip 43 P).bind fun (x8 : PH) =>
    some (Sum.inr (x8.1 43 6), x8)) x1
set_option maxRecDepth 100000 in
set_option maxHeartbeats 4000000 in
theorem Bs_cut_ok {G : GT} {l : Launch} (hG : GOK G l)   (P : PH) : OkT G l yX10_cut miX10_cut 1 6 xIH [.ref (gA G 0)] P (Bs_cut P) := by
  refine okT_of hG _ [(0, .ref (gA G 0))] rfl rfl rfl (Nat.le_of_ble_eq_true rfl) rfl ?_
  unfold Bs_cut
  refine s_aload_n (pc := 0) 0 dX10_cut_0 rfl rfl ?_
  refine s_callVTp (k := 0) (n := 0) (pc := 1) [] (fun w => []) (fun E => (Sum.inl E, P)) dX10_cut_1 (cV_X10_206 hG) (Nat.le_of_ble_eq_true rfl) rfl kd_0 (Bs_checkThread_ok hG P) rfl rfl (fun _ => rfl) (Nat.le_of_ble_eq_true rfl) rfl rfl (fun _ => rfl) (fun w1 => ?_)
  refine s_aload_n (pc := 4) 0 dX10_cut_4 rfl rfl ?_
  refine s_getR (pc := 5) 43 dX10_cut_5 (fi_X10_61 hG) kd_0 rfl ?_
  refine s_callV (k := 0) (n := 0) (pc := 8) [] (fun _ => []) (fun x8 => x8) dX10_cut_8 (cV_X10_209 hG) (Nat.le_of_ble_eq_true rfl) rfl kd_43 (Ne_snip_ok hG 43 kd_43 P) rfl (fun _ => rfl) (fun _ => rfl) (Nat.le_of_ble_eq_true rfl) rfl rfl (fun x8 => ?_)
  refine s_aload_n (pc := 11) 0 dX10_cut_11 rfl rfl ?_
  refine s_getR (pc := 12) 43 dX10_cut_12 (fi_X10_61 hG) kd_0 rfl ?_
  refine s_getI (pc := 15) dX10_cut_15 (fi_X10_212 hG) kd_43 ?_
  exact s_iret (pc := 18) dX10_cut_18 rfl rfl
def Bs_may  (v1 : Int32) (P : PH) : Option ((String ⊕ Int32)) :=
  (Bs_checkWay v1 P).bind fun (x1 : String ⊕ Unit) =>
  Sum.elim (fun E => some (Sum.inl E)) (fun (w1 : Unit) =>
    (Ne_hindrance 43 v1 P).bind fun (x9 : Int32) =>
    some (Sum.inr x9)) x1
set_option maxRecDepth 100000 in
set_option maxHeartbeats 4000000 in
theorem Bs_may_ok {G : GT} {l : Launch} (hG : GOK G l)  (v1 : Int32) (P : PH) : OkT G l yX10_may miX10_may 1 6 (xI P) [.ref (gA G 0), .int v1] P (Bs_may v1 P) := by
  refine okT_of hG _ [(0, .ref (gA G 0)), (1, .int v1)] rfl rfl rfl (Nat.le_of_ble_eq_true rfl) rfl ?_
  unfold Bs_may
  refine s_iload_n (pc := 0) 1 dX10_may_0 rfl rfl ?_
  refine s_callSTp (k := 0) (n := 0) (pc := 1) [.int v1] (fun w => []) (fun E => Sum.inl E) dX10_may_1 (cS_X10_150 hG) (Nat.le_of_ble_eq_true rfl) rfl (Bs_checkWay_ok hG v1 P) rfl rfl (fun _ => rfl) (Nat.le_of_ble_eq_true rfl) rfl rfl (fun _ => rfl) (fun w1 => ?_)
  refine s_aload_n (pc := 4) 0 dX10_may_4 rfl rfl ?_
  refine s_getR (pc := 5) 43 dX10_may_5 (fi_X10_61 hG) kd_0 rfl ?_
  refine s_iload_n (pc := 8) 1 dX10_may_8 rfl rfl ?_
  refine s_callV (k := 0) (n := 0) (pc := 9) [.int v1] (fun x9 => .int x9 :: []) (fun _ => P) dX10_may_9 (cV_X10_215 hG) (Nat.le_of_ble_eq_true rfl) rfl kd_43 (Ne_hindrance_ok hG 43 kd_43 v1 P) rfl (fun _ => rfl) (fun _ => rfl) (Nat.le_of_ble_eq_true rfl) rfl rfl (fun x9 => ?_)
  exact s_iret (pc := 12) dX10_may_12 rfl rfl
def Bs_stitch  (v1 : Int32) (P : PH) : Option ((String ⊕ Int32) × PH) :=
  (Bs_checkWay v1 P).bind fun (x1 : String ⊕ Unit) =>
  Sum.elim (fun E => some (Sum.inl E, P)) (fun (w1 : Unit) =>
    (Ne_go 43 v1 P).bind fun (x9 : Int32 × PH) =>
    some (Sum.inr (x9.1), x9.2)) x1
set_option maxRecDepth 100000 in
set_option maxHeartbeats 4000000 in
theorem Bs_stitch_ok {G : GT} {l : Launch} (hG : GOK G l)  (v1 : Int32) (P : PH) : OkT G l yX10_stitch miX10_stitch 1 6 xIH [.ref (gA G 0), .int v1] P (Bs_stitch v1 P) := by
  refine okT_of hG _ [(0, .ref (gA G 0)), (1, .int v1)] rfl rfl rfl (Nat.le_of_ble_eq_true rfl) rfl ?_
  unfold Bs_stitch
  refine s_iload_n (pc := 0) 1 dX10_stitch_0 rfl rfl ?_
  refine s_callSTp (k := 0) (n := 0) (pc := 1) [.int v1] (fun w => []) (fun E => (Sum.inl E, P)) dX10_stitch_1 (cS_X10_150 hG) (Nat.le_of_ble_eq_true rfl) rfl (Bs_checkWay_ok hG v1 P) rfl rfl (fun _ => rfl) (Nat.le_of_ble_eq_true rfl) rfl rfl (fun _ => rfl) (fun w1 => ?_)
  refine s_aload_n (pc := 4) 0 dX10_stitch_4 rfl rfl ?_
  refine s_getR (pc := 5) 43 dX10_stitch_5 (fi_X10_61 hG) kd_0 rfl ?_
  refine s_iload_n (pc := 8) 1 dX10_stitch_8 rfl rfl ?_
  refine s_callV (k := 0) (n := 0) (pc := 9) [.int v1] (fun x9 => .int (x9.1) :: []) (fun x9 => x9.2) dX10_stitch_9 (cV_X10_218 hG) (Nat.le_of_ble_eq_true rfl) rfl kd_43 (Ne_go_ok hG 43 kd_43 v1 P) rfl (fun _ => rfl) (fun _ => rfl) (Nat.le_of_ble_eq_true rfl) rfl rfl (fun x9 => ?_)
  exact s_iret (pc := 12) dX10_stitch_12 rfl rfl
def Bs_unpick_19    (P : PH) : Option ((String ⊕ Int32) × PH) :=
  some ((Sum.inl "java/lang/IllegalArgumentException", P))
set_option maxRecDepth 100000 in
set_option maxHeartbeats 4000000 in
theorem Bs_unpick_19_sem {G : GT} {l : Launch} (hG : GOK G l)   (P : PH)   : Sem G l miX10_unpick 1 6 xIH 19 [] [] P (Bs_unpick_19 P) := by
  unfold Bs_unpick_19
  exact s_throw (pc := 19) (thr_X10_221 hG) dX10_unpick_19 dX10_unpick_22 dX10_unpick_23 dX10_unpick_25 dX10_unpick_28 rfl rfl (Nat.le_of_ble_eq_true rfl) (Nat.le_of_ble_eq_true rfl) (Nat.le_of_ble_eq_true rfl)
def Bs_unpick_31   (v1 : Int32)  : Nat → Int32 → PH → Option ((String ⊕ Int32) × PH)
  | 0 => fun _ _ => none
  | n + 1 => fun v2 P =>
    if v1 ≤ v2 then
      some (Sum.inr (P.1 43 6), P)
    else
      (Ne_goBack 43 P).bind fun (x40 : PH) =>
      Bs_unpick_31 v1 n (v2 + 1) x40
set_option maxRecDepth 100000 in
set_option maxHeartbeats 4000000 in
theorem Bs_unpick_31_sem {G : GT} {l : Launch} (hG : GOK G l)  (v1 : Int32)    : ∀ (n : Nat) (v2 : Int32) (P : PH), Sem G l miX10_unpick 1 6 xIH 31 [(0, .ref (gA G 0)), (1, .int v1), (2, .int v2)] [] P (Bs_unpick_31 v1 n v2 P) := by
  intro n
  induction n with
  | zero => intro v2 P; exact s_none rfl
  | succ n ih =>
    intro v2 P
    rw [Bs_unpick_31]
    refine s_iload_n (pc := 31) 2 dX10_unpick_31 rfl rfl ?_
    refine s_iload_n (pc := 32) 1 dX10_unpick_32 rfl rfl ?_
    refine s_icmp_ge (pc := 33) 49 dX10_unpick_33 rfl ?_ ?_
    · refine s_aload_n (pc := 49) 0 dX10_unpick_49 rfl rfl ?_
      refine s_getR (pc := 50) 43 dX10_unpick_50 (fi_X10_61 hG) kd_0 rfl ?_
      refine s_getI (pc := 53) dX10_unpick_53 (fi_X10_212 hG) kd_43 ?_
      exact s_iret (pc := 56) dX10_unpick_56 rfl rfl
    · refine s_aload_n (pc := 36) 0 dX10_unpick_36 rfl rfl ?_
      refine s_getR (pc := 37) 43 dX10_unpick_37 (fi_X10_61 hG) kd_0 rfl ?_
      refine s_callV (k := 1) (n := 6) (pc := 40) [] (fun _ => []) (fun x40 => x40) dX10_unpick_40 (cV_X10_223 hG) (Nat.le_of_ble_eq_true rfl) rfl kd_43 (Ne_goBack_ok hG 43 kd_43 P) rfl (fun _ => rfl) (fun _ => rfl) (Nat.le_of_ble_eq_true rfl) rfl rfl (fun x40 => ?_)
      refine s_iinc (pc := 43) 2 1 [(2, .int (v2 + 1)), (0, .ref (gA G 0)), (1, .int v1)] dX10_unpick_43 rfl rfl (Nat.le_of_ble_eq_true rfl) rfl ?_
      refine s_goto (pc := 46) 31 dX10_unpick_46 rfl ?_
      refine s_sub [1, 2, 0] rfl ?_
      exact ih (v2 + 1) x40
def Bs_unpick  (v1 : Int32) (P : PH) : Option ((String ⊕ Int32) × PH) :=
  (Bs_checkThread P).bind fun (x1 : String ⊕ Unit) =>
  Sum.elim (fun E => some (Sum.inl E, P)) (fun (w1 : Unit) =>
    if v1 < 0 then
      Bs_unpick_19 P
    else
      if v1 ≤ (P.1 43 6) then
        Bs_unpick_31 v1 bigN (0 : Int32) P
      else
        Bs_unpick_19 P) x1
set_option maxRecDepth 100000 in
set_option maxHeartbeats 4000000 in
theorem Bs_unpick_ok {G : GT} {l : Launch} (hG : GOK G l)  (v1 : Int32) (P : PH) : OkT G l yX10_unpick miX10_unpick 2 12 xIH [.ref (gA G 0), .int v1] P (Bs_unpick v1 P) := by
  refine okT_of hG _ [(0, .ref (gA G 0)), (1, .int v1)] rfl rfl rfl (Nat.le_of_ble_eq_true rfl) rfl ?_
  unfold Bs_unpick
  refine s_aload_n (pc := 0) 0 dX10_unpick_0 rfl rfl ?_
  refine s_callVTp (k := 1) (n := 6) (pc := 1) [] (fun w => []) (fun E => (Sum.inl E, P)) dX10_unpick_1 (cV_X10_206 hG) (Nat.le_of_ble_eq_true rfl) rfl kd_0 (Bs_checkThread_ok hG P) rfl rfl (fun _ => rfl) (Nat.le_of_ble_eq_true rfl) rfl rfl (fun _ => rfl) (fun w1 => ?_)
  refine s_iload_n (pc := 4) 1 dX10_unpick_4 rfl rfl ?_
  refine s_if_lt (pc := 5) 19 dX10_unpick_5 rfl ?_ ?_
  · refine s_sub [] rfl ?_
    exact Bs_unpick_19_sem hG P
  · refine s_iload_n (pc := 8) 1 dX10_unpick_8 rfl rfl ?_
    refine s_aload_n (pc := 9) 0 dX10_unpick_9 rfl rfl ?_
    refine s_getR (pc := 10) 43 dX10_unpick_10 (fi_X10_61 hG) kd_0 rfl ?_
    refine s_getI (pc := 13) dX10_unpick_13 (fi_X10_212 hG) kd_43 ?_
    refine s_icmp_le (pc := 16) 29 dX10_unpick_16 rfl ?_ ?_
    · refine s_iconst (pc := 29) (v := 0) dX10_unpick_29 rfl ?_
      refine s_istore_n (pc := 30) [(2, .int ((0 : Int32))), (0, .ref (gA G 0)), (1, .int v1)] dX10_unpick_30 rfl (Nat.le_of_ble_eq_true rfl) rfl ?_
      refine s_sub [1, 2, 0] rfl ?_
      exact Bs_unpick_31_sem hG v1 bigN (0 : Int32) P
    · refine s_sub [] rfl ?_
      exact Bs_unpick_19_sem hG P
def Bs_thread  (v1 : Int32) (P : PH) : Option ((String ⊕ Int32)) :=
  (Bs_checkThread P).bind fun (x1 : String ⊕ Unit) =>
  Sum.elim (fun E => some (Sum.inl E)) (fun (w1 : Unit) =>
    if v1 = 0 then
      some (Sum.inr (P.1 43 5))
    else
    if v1 = 1 then
      (Ne_nextOver 43 P).bind fun (x52 : Int32) =>
      if x52 = 0 then
        some (Sum.inr (0 : Int32))
      else
        some (Sum.inr (1 : Int32))
    else
    if v1 = 2 then
      some (Sum.inr (P.1 43 6))
    else
    if v1 = 3 then
      some (Sum.inr (P.1 43 3))
    else
    if v1 = 4 then
      some (Sum.inr (P.1 43 4))
    else
      some (Sum.inl "java/lang/IllegalArgumentException")) x1
set_option maxRecDepth 100000 in
set_option maxHeartbeats 4000000 in
theorem Bs_thread_ok {G : GT} {l : Launch} (hG : GOK G l)  (v1 : Int32) (P : PH) : OkT G l yX10_thread miX10_thread 2 12 (xI P) [.ref (gA G 0), .int v1] P (Bs_thread v1 P) := by
  refine okT_of hG _ [(0, .ref (gA G 0)), (1, .int v1)] rfl rfl rfl (Nat.le_of_ble_eq_true rfl) rfl ?_
  unfold Bs_thread
  refine s_aload_n (pc := 0) 0 dX10_thread_0 rfl rfl ?_
  refine s_callVTp (k := 1) (n := 6) (pc := 1) [] (fun w => []) (fun E => Sum.inl E) dX10_thread_1 (cV_X10_206 hG) (Nat.le_of_ble_eq_true rfl) rfl kd_0 (Bs_checkThread_ok hG P) rfl rfl (fun _ => rfl) (Nat.le_of_ble_eq_true rfl) rfl rfl (fun _ => rfl) (fun w1 => ?_)
  refine s_iload_n (pc := 4) 1 dX10_thread_4 rfl rfl ?_
  refine s_sw (fun hx0 => ?_) (fun hx0 => ?_)
  · refine s_tin (pc := 5) 40 dX10_thread_5 (by rw [hx0]; decide) (by rw [hx0]; decide) (by rw [hx0]; rfl) rfl ?_
    refine s_aload_n (pc := 40) 0 dX10_thread_40 rfl rfl ?_
    refine s_getR (pc := 41) 43 dX10_thread_41 (fi_X10_61 hG) kd_0 rfl ?_
    refine s_getI (pc := 44) dX10_thread_44 (fi_X10_226 hG) kd_43 ?_
    exact s_iret (pc := 47) dX10_thread_47 rfl rfl
  refine s_sw (fun hx1 => ?_) (fun hx1 => ?_)
  · refine s_tin (pc := 5) 48 dX10_thread_5 (by rw [hx1]; decide) (by rw [hx1]; decide) (by rw [hx1]; rfl) rfl ?_
    refine s_aload_n (pc := 48) 0 dX10_thread_48 rfl rfl ?_
    refine s_getR (pc := 49) 43 dX10_thread_49 (fi_X10_61 hG) kd_0 rfl ?_
    refine s_callV (k := 1) (n := 6) (pc := 52) [] (fun x52 => .int x52 :: []) (fun _ => P) dX10_thread_52 (cV_X10_229 hG) (Nat.le_of_ble_eq_true rfl) rfl kd_43 (Ne_nextOver_ok hG 43 kd_43 P) rfl (fun _ => rfl) (fun _ => rfl) (Nat.le_of_ble_eq_true rfl) rfl rfl (fun x52 => ?_)
    refine s_if_eq (pc := 55) 62 dX10_thread_55 rfl ?_ ?_
    · refine s_iconst (pc := 62) (v := 0) dX10_thread_62 rfl ?_
      exact s_iret (pc := 63) dX10_thread_63 rfl rfl
    · refine s_iconst (pc := 58) (v := 1) dX10_thread_58 rfl ?_
      refine s_goto (pc := 59) 63 dX10_thread_59 rfl ?_
      exact s_iret (pc := 63) dX10_thread_63 rfl rfl
  refine s_sw (fun hx2 => ?_) (fun hx2 => ?_)
  · refine s_tin (pc := 5) 64 dX10_thread_5 (by rw [hx2]; decide) (by rw [hx2]; decide) (by rw [hx2]; rfl) rfl ?_
    refine s_aload_n (pc := 64) 0 dX10_thread_64 rfl rfl ?_
    refine s_getR (pc := 65) 43 dX10_thread_65 (fi_X10_61 hG) kd_0 rfl ?_
    refine s_getI (pc := 68) dX10_thread_68 (fi_X10_212 hG) kd_43 ?_
    exact s_iret (pc := 71) dX10_thread_71 rfl rfl
  refine s_sw (fun hx3 => ?_) (fun hx3 => ?_)
  · refine s_tin (pc := 5) 72 dX10_thread_5 (by rw [hx3]; decide) (by rw [hx3]; decide) (by rw [hx3]; rfl) rfl ?_
    refine s_aload_n (pc := 72) 0 dX10_thread_72 rfl rfl ?_
    refine s_getR (pc := 73) 43 dX10_thread_73 (fi_X10_61 hG) kd_0 rfl ?_
    refine s_getI (pc := 76) dX10_thread_76 (fi_X10_233 hG) kd_43 ?_
    exact s_iret (pc := 79) dX10_thread_79 rfl rfl
  refine s_sw (fun hx4 => ?_) (fun hx4 => ?_)
  · refine s_tin (pc := 5) 80 dX10_thread_5 (by rw [hx4]; decide) (by rw [hx4]; decide) (by rw [hx4]; rfl) rfl ?_
    refine s_aload_n (pc := 80) 0 dX10_thread_80 rfl rfl ?_
    refine s_getR (pc := 81) 43 dX10_thread_81 (fi_X10_61 hG) kd_0 rfl ?_
    refine s_getI (pc := 84) dX10_thread_84 (fi_X10_236 hG) kd_43 ?_
    exact s_iret (pc := 87) dX10_thread_87 rfl rfl
  refine s_tout (pc := 5) 88 dX10_thread_5 (Classical.byContradiction fun hq => ?_) rfl ?_
  · have h9 : Int32.toInt v1 = 0 ∨ Int32.toInt v1 = 1 ∨ Int32.toInt v1 = 2 ∨ Int32.toInt v1 = 3 ∨ Int32.toInt v1 = 4 := by omega
    rcases h9 with h9 | h9 | h9 | h9 | h9
    · exact hx0 (Int32.toInt_inj.mp h9)
    · exact hx1 (Int32.toInt_inj.mp h9)
    · exact hx2 (Int32.toInt_inj.mp h9)
    · exact hx3 (Int32.toInt_inj.mp h9)
    · exact hx4 (Int32.toInt_inj.mp h9)
  · exact s_throw (pc := 88) (thr_X10_239 hG) dX10_thread_88 dX10_thread_91 dX10_thread_92 dX10_thread_94 dX10_thread_97 rfl rfl (Nat.le_of_ble_eq_true rfl) (Nat.le_of_ble_eq_true rfl) (Nat.le_of_ble_eq_true rfl)
def Bs_done  (v1 : Int32) (P : PH) : Option ((String ⊕ Int32)) :=
  (Bs_checkThread P).bind fun (x1 : String ⊕ Unit) =>
  Sum.elim (fun E => some (Sum.inl E)) (fun (w1 : Unit) =>
    (Ne_wayOf 43 v1 P).bind fun (x9 : Int32) =>
    some (Sum.inr x9)) x1
set_option maxRecDepth 100000 in
set_option maxHeartbeats 4000000 in
theorem Bs_done_ok {G : GT} {l : Launch} (hG : GOK G l)  (v1 : Int32) (P : PH) : OkT G l yX10_done miX10_done 1 6 (xI P) [.ref (gA G 0), .int v1] P (Bs_done v1 P) := by
  refine okT_of hG _ [(0, .ref (gA G 0)), (1, .int v1)] rfl rfl rfl (Nat.le_of_ble_eq_true rfl) rfl ?_
  unfold Bs_done
  refine s_aload_n (pc := 0) 0 dX10_done_0 rfl rfl ?_
  refine s_callVTp (k := 0) (n := 0) (pc := 1) [] (fun w => []) (fun E => Sum.inl E) dX10_done_1 (cV_X10_206 hG) (Nat.le_of_ble_eq_true rfl) rfl kd_0 (Bs_checkThread_ok hG P) rfl rfl (fun _ => rfl) (Nat.le_of_ble_eq_true rfl) rfl rfl (fun _ => rfl) (fun w1 => ?_)
  refine s_aload_n (pc := 4) 0 dX10_done_4 rfl rfl ?_
  refine s_getR (pc := 5) 43 dX10_done_5 (fi_X10_61 hG) kd_0 rfl ?_
  refine s_iload_n (pc := 8) 1 dX10_done_8 rfl rfl ?_
  refine s_callV (k := 0) (n := 0) (pc := 9) [.int v1] (fun x9 => .int x9 :: []) (fun _ => P) dX10_done_9 (cV_X10_241 hG) (Nat.le_of_ble_eq_true rfl) rfl kd_43 (Ne_wayOf_ok hG 43 kd_43 v1 P) rfl (fun _ => rfl) (fun _ => rfl) (Nat.le_of_ble_eq_true rfl) rfl rfl (fun x9 => ?_)
  exact s_iret (pc := 12) dX10_done_12 rfl rfl
def Bs_checkThere  (v0 : Nat) (P : PH) : Option ((String ⊕ Unit)) :=
  if (P.1 v0 0) = 0 then
    some (Sum.inl "java/lang/IllegalStateException")
  else
    some (Sum.inr ())
set_option maxRecDepth 100000 in
set_option maxHeartbeats 4000000 in
theorem Bs_checkThere_ok {G : GT} {l : Launch} (hG : GOK G l)  (v0 : Nat) (hv0 : kd v0 = 8) (P : PH) : OkT G l yX10_checkThere miX10_checkThere 1 6 (xV P) [.ref (gA G v0)] P (Bs_checkThere v0 P) := by
  refine okT_of hG _ [(0, .ref (gA G v0))] rfl rfl rfl (Nat.le_of_ble_eq_true rfl) rfl ?_
  unfold Bs_checkThere
  refine s_aload_n (pc := 0) 0 dX10_checkThere_0 rfl rfl ?_
  refine s_getI (pc := 1) dX10_checkThere_1 (fi_X10_384 hG) hv0 ?_
  refine s_if_ne (pc := 4) 18 dX10_checkThere_4 rfl ?_ ?_
  · exact s_throwW (pc := 7) (thr_X10_385 hG) dX10_checkThere_7 dX10_checkThere_10 dX10_checkThere_11 dX10_checkThere_14 dX10_checkThere_17 rfl rfl (Nat.le_of_ble_eq_true rfl) (Nat.le_of_ble_eq_true rfl) (Nat.le_of_ble_eq_true rfl)
  · exact s_vret (pc := 18) dX10_checkThere_18 rfl rfl
def Bs_checkTray_13    (P : PH) : Option ((String ⊕ Nat)) :=
  some (Sum.inl "java/util/NoSuchElementException")
set_option maxRecDepth 100000 in
set_option maxHeartbeats 4000000 in
theorem Bs_checkTray_13_sem {G : GT} {l : Launch} (hG : GOK G l)   (P : PH)   : Sem G l miX10_checkTray 1 6 (xR G P) 13 [] [] P (Bs_checkTray_13 P) := by
  unfold Bs_checkTray_13
  exact s_throwNW (pc := 13) (thr_X10_382 hG) dX10_checkTray_13 dX10_checkTray_16 dX10_checkTray_17 dX10_checkTray_20 dX10_checkTray_23 rfl rfl (Nat.le_of_ble_eq_true rfl) (Nat.le_of_ble_eq_true rfl) (Nat.le_of_ble_eq_true rfl)
def Bs_checkTray  (v1 : Int32) (P : PH) : Option ((String ⊕ Nat)) :=
  if v1 < 0 then
    Bs_checkTray_13 P
  else
    if v1 < (4 : Int32) then
      gdI v1 4 <|
      gdP (kd (53 + 2 * v1.toNatClampNeg) = 8) <|
      some (Sum.inr (53 + 2 * v1.toNatClampNeg))
    else
      Bs_checkTray_13 P
set_option maxRecDepth 100000 in
set_option maxHeartbeats 4000000 in
theorem Bs_checkTray_ok {G : GT} {l : Launch} (hG : GOK G l)  (v1 : Int32) (P : PH) : OkT G l yX10_checkTray miX10_checkTray 1 6 (xR G P) [.ref (gA G 0), .int v1] P (Bs_checkTray v1 P) := by
  refine okT_of hG _ [(0, .ref (gA G 0)), (1, .int v1)] rfl rfl rfl (Nat.le_of_ble_eq_true rfl) rfl ?_
  unfold Bs_checkTray
  refine s_iload_n (pc := 0) 1 dX10_checkTray_0 rfl rfl ?_
  refine s_if_lt (pc := 1) 13 dX10_checkTray_1 rfl ?_ ?_
  · refine s_sub [] rfl ?_
    exact Bs_checkTray_13_sem hG P
  · refine s_iload_n (pc := 4) 1 dX10_checkTray_4 rfl rfl ?_
    refine s_aload_n (pc := 5) 0 dX10_checkTray_5 rfl rfl ?_
    refine s_getR (pc := 6) 64 dX10_checkTray_6 (fi_X10_11 hG) kd_0 rfl ?_
    refine s_alen (pc := 9) (t := 5) 4 4 dX10_checkTray_9 kd_64 (Nat.le_of_ble_eq_true rfl) ln_64 rfl ?_
    refine s_icmp_lt (pc := 10) 24 dX10_checkTray_10 rfl ?_ ?_
    · refine s_aload_n (pc := 24) 0 dX10_checkTray_24 rfl rfl ?_
      refine s_getR (pc := 25) 64 dX10_checkTray_25 (fi_X10_11 hG) kd_0 rfl ?_
      refine s_iload_n (pc := 28) 1 dX10_checkTray_28 rfl rfl ?_
      refine s_aaldT (pc := 29) dX10_checkTray_29 kd_64 ln_64 ?_
      refine s_guard (fun hk29 => ?_)
      exact s_aret (pc := 30) dX10_checkTray_30 rfl rfl
    · refine s_sub [] rfl ?_
      exact Bs_checkTray_13_sem hG P
def Bs_goBy_2   (v0 : Nat) (v1 : Nat)  : Nat → Int32 → PH → Option (Int32 × PH)
  | 0 => fun _ _ => none
  | n + 1 => fun v2 P =>
    if (P.1 v1 1) ≤ v2 then
      some (P.1 v1 1, P)
    else
      (Tr_wayAt v1 v2 P).bind fun (x13 : Int32) =>
      (Ne_go v0 x13 P).bind fun (x16 : Int32 × PH) =>
      if x16.1 = 0 then
        Bs_goBy_2 v0 v1 n (v2 + 1) x16.2
      else
        some (v2, x16.2)
set_option maxRecDepth 100000 in
set_option maxHeartbeats 4000000 in
theorem Bs_goBy_2_sem {G : GT} {l : Launch} (hG : GOK G l)  (v0 : Nat) (hv0 : kd v0 = 2) (v1 : Nat) (hv1 : kd v1 = 8)    : ∀ (n : Nat) (v2 : Int32) (P : PH), Sem G l miX10_goBy 0 0 (rn tIH) 2 [(0, .ref (gA G v0)), (1, .ref (gA G v1)), (2, .int v2)] [] P (Bs_goBy_2 v0 v1 n v2 P) := by
  intro n
  induction n with
  | zero => intro v2 P; exact s_none rfl
  | succ n ih =>
    intro v2 P
    rw [Bs_goBy_2]
    refine s_iload_n (pc := 2) 2 dX10_goBy_2 rfl rfl ?_
    refine s_aload_n (pc := 3) 1 dX10_goBy_3 rfl rfl ?_
    refine s_getI (pc := 4) dX10_goBy_4 (fi_X10_261 hG) hv1 ?_
    refine s_icmp_ge (pc := 7) 30 dX10_goBy_7 rfl ?_ ?_
    · refine s_aload_n (pc := 30) 1 dX10_goBy_30 rfl rfl ?_
      refine s_getI (pc := 31) dX10_goBy_31 (fi_X10_261 hG) hv1 ?_
      exact s_iret (pc := 34) dX10_goBy_34 rfl rfl
    · refine s_aload_n (pc := 10) 0 dX10_goBy_10 rfl rfl ?_
      refine s_aload_n (pc := 11) 1 dX10_goBy_11 rfl rfl ?_
      refine s_iload_n (pc := 12) 2 dX10_goBy_12 rfl rfl ?_
      refine s_callV (k := 0) (n := 0) (pc := 13) [.int v2] (fun x13 => .int x13 :: [.ref (gA G v0)]) (fun _ => P) dX10_goBy_13 (cV_X10_264 hG) (Nat.le_of_ble_eq_true rfl) rfl hv1 (Tr_wayAt_ok hG v1 hv1 v2 P) rfl (fun _ => rfl) (fun _ => rfl) (Nat.le_of_ble_eq_true rfl) rfl rfl (fun x13 => ?_)
      refine s_callV (k := 0) (n := 0) (pc := 16) [.int x13] (fun x16 => .int (x16.1) :: []) (fun x16 => x16.2) dX10_goBy_16 (cV_X10_218 hG) (Nat.le_of_ble_eq_true rfl) rfl hv0 (Ne_go_ok hG v0 hv0 x13 P) rfl (fun _ => rfl) (fun _ => rfl) (Nat.le_of_ble_eq_true rfl) rfl rfl (fun x16 => ?_)
      refine s_if_eq (pc := 19) 24 dX10_goBy_19 rfl ?_ ?_
      · refine s_iinc (pc := 24) 2 1 [(2, .int (v2 + 1)), (0, .ref (gA G v0)), (1, .ref (gA G v1))] dX10_goBy_24 rfl rfl (Nat.le_of_ble_eq_true rfl) rfl ?_
        refine s_goto (pc := 27) 2 dX10_goBy_27 rfl ?_
        refine s_sub [1, 2, 0] rfl ?_
        exact ih (v2 + 1) x16.2
      · refine s_iload_n (pc := 22) 2 dX10_goBy_22 rfl rfl ?_
        exact s_iret (pc := 23) dX10_goBy_23 rfl rfl
def Bs_goBy  (v0 : Nat) (v1 : Nat) (P : PH) : Option (Int32 × PH) :=
  Bs_goBy_2 v0 v1 bigN (0 : Int32) P
set_option maxRecDepth 100000 in
set_option maxHeartbeats 4000000 in
theorem Bs_goBy_ok {G : GT} {l : Launch} (hG : GOK G l)  (v0 : Nat) (hv0 : kd v0 = 2) (v1 : Nat) (hv1 : kd v1 = 8) (P : PH) : OkN G l yX10_goBy miX10_goBy 0 0 tIH [.ref (gA G v0), .ref (gA G v1)] P (Bs_goBy v0 v1 P) := by
  refine okN_of hG _ [(0, .ref (gA G v0)), (1, .ref (gA G v1))] rfl rfl rfl (Nat.le_of_ble_eq_true rfl) rfl ?_
  unfold Bs_goBy
  refine s_iconst (pc := 0) (v := 0) dX10_goBy_0 rfl ?_
  refine s_istore_n (pc := 1) [(2, .int ((0 : Int32))), (0, .ref (gA G v0)), (1, .ref (gA G v1))] dX10_goBy_1 rfl (Nat.le_of_ble_eq_true rfl) rfl ?_
  refine s_sub [1, 2, 0] rfl ?_
  exact Bs_goBy_2_sem hG v0 hv0 v1 hv1 bigN (0 : Int32) P
def Bs_judge_23    (P : PH) : Option ((String ⊕ Int32) × PH) :=
  some ((Sum.inl "java/lang/IllegalArgumentException", P))
set_option maxRecDepth 100000 in
set_option maxHeartbeats 4000000 in
theorem Bs_judge_23_sem {G : GT} {l : Launch} (hG : GOK G l)   (P : PH)   : Sem G l miX10_judge 1 6 xIH 23 [] [] P (Bs_judge_23 P) := by
  unfold Bs_judge_23
  exact s_throw (pc := 23) (thr_X10_252 hG) dX10_judge_23 dX10_judge_26 dX10_judge_27 dX10_judge_29 dX10_judge_32 rfl rfl (Nat.le_of_ble_eq_true rfl) (Nat.le_of_ble_eq_true rfl) (Nat.le_of_ble_eq_true rfl)
def Bs_judge  (v1 : Int32) (v2 : Int32) (P : PH) : Option ((String ⊕ Int32) × PH) :=
  (Bs_checkTray v1 P).bind fun (x2 : String ⊕ Nat) =>
  Sum.elim (fun E => some (Sum.inl E, P)) (fun (w2 : Nat) =>
    gdP (kd w2 = 8) <|
    (Bs_checkThread P).bind fun (x7 : String ⊕ Unit) =>
    Sum.elim (fun E => some (Sum.inl E, P)) (fun (w7 : Unit) =>
      (Bs_checkThere w2 P).bind fun (x11 : String ⊕ Unit) =>
      Sum.elim (fun E => some (Sum.inl E, P)) (fun (w11 : Unit) =>
        if v2 < 0 then
          Bs_judge_23 P
        else
          if v2 ≤ (3 : Int32) then
            (Ne_copy 45 43 P).bind fun (x41 : PH) =>
            (Bs_goBy 45 w2 x41).bind fun (x49 : Int32 × PH) =>
            if v2 = 0 then
              if (x49.2.1 w2 1) ≤ x49.1 then
                some (Sum.inr (-1 : Int32), x49.2)
              else
                some (Sum.inr (x49.1), x49.2)
            else
            if v2 = 1 then
              if (x49.2.1 w2 1) ≤ x49.1 then
                some (Sum.inr (0 : Int32), x49.2)
              else
                (Tr_wayAt w2 x49.1 x49.2).bind fun (x112 : Int32) =>
                (Ne_hindrance 45 x112 x49.2).bind fun (x115 : Int32) =>
                some (Sum.inr x115, x49.2)
            else
            if v2 = 2 then
              some (Sum.inr (x49.2.1 45 5), x49.2)
            else
              (Ne_stillOpen 45 x49.2).bind fun (x135 : Int32) =>
              some (Sum.inr x135, x49.2)
          else
            Bs_judge_23 P) x11) x7) x2
set_option maxRecDepth 100000 in
set_option maxHeartbeats 4000000 in
theorem Bs_judge_ok {G : GT} {l : Launch} (hG : GOK G l)  (v1 : Int32) (v2 : Int32) (P : PH) : OkT G l yX10_judge miX10_judge 4 24 xIH [.ref (gA G 0), .int v1, .int v2] P (Bs_judge v1 v2 P) := by
  refine okT_of hG _ [(0, .ref (gA G 0)), (1, .int v1), (2, .int v2)] rfl rfl rfl (Nat.le_of_ble_eq_true rfl) rfl ?_
  unfold Bs_judge
  refine s_aload_n (pc := 0) 0 dX10_judge_0 rfl rfl ?_
  refine s_iload_n (pc := 1) 1 dX10_judge_1 rfl rfl ?_
  refine s_callVTp (k := 3) (n := 18) (pc := 2) [.int v1] (fun w => .ref (gA G w) :: []) (fun E => (Sum.inl E, P)) dX10_judge_2 (cV_X10_244 hG) (Nat.le_of_ble_eq_true rfl) rfl kd_0 (Bs_checkTray_ok hG v1 P) rfl rfl (fun _ => rfl) (Nat.le_of_ble_eq_true rfl) rfl rfl (fun _ => rfl) (fun w2 => ?_)
  refine s_guard (fun hk2 => ?_)
  refine s_astore_n (pc := 5) [(3, .ref (gA G w2)), (0, .ref (gA G 0)), (1, .int v1), (2, .int v2)] dX10_judge_5 rfl (Nat.le_of_ble_eq_true rfl) rfl ?_
  refine s_aload_n (pc := 6) 1 dX10_judge_6 rfl rfl ?_
  refine s_callVTp (k := 2) (n := 12) (pc := 7) [] (fun w => []) (fun E => (Sum.inl E, P)) dX10_judge_7 (cV_X10_206 hG) (Nat.le_of_ble_eq_true rfl) rfl kd_0 (Bs_checkThread_ok hG P) rfl rfl (fun _ => rfl) (Nat.le_of_ble_eq_true rfl) rfl rfl (fun _ => rfl) (fun w7 => ?_)
  refine s_aload_n (pc := 10) 0 dX10_judge_10 rfl rfl ?_
  refine s_callSTp (k := 1) (n := 6) (pc := 11) [.ref (gA G w2)] (fun w => []) (fun E => (Sum.inl E, P)) dX10_judge_11 (cS_X10_248 hG) (Nat.le_of_ble_eq_true rfl) rfl (Bs_checkThere_ok hG w2 hk2 P) rfl rfl (fun _ => rfl) (Nat.le_of_ble_eq_true rfl) rfl rfl (fun _ => rfl) (fun w11 => ?_)
  refine s_iload_n (pc := 14) 3 dX10_judge_14 rfl rfl ?_
  refine s_if_lt (pc := 15) 23 dX10_judge_15 rfl ?_ ?_
  · refine s_sub [] rfl ?_
    exact Bs_judge_23_sem hG P
  · refine s_iload_n (pc := 18) 3 dX10_judge_18 rfl rfl ?_
    refine s_iconst (pc := 19) (v := 3) dX10_judge_19 rfl ?_
    refine s_icmp_le (pc := 20) 33 dX10_judge_20 rfl ?_ ?_
    · refine s_aload_n (pc := 33) 1 dX10_judge_33 rfl rfl ?_
      refine s_getR (pc := 34) 45 dX10_judge_34 (fi_X10_65 hG) kd_0 rfl ?_
      refine s_aload_n (pc := 37) 1 dX10_judge_37 rfl rfl ?_
      refine s_getR (pc := 38) 43 dX10_judge_38 (fi_X10_61 hG) kd_0 rfl ?_
      refine s_callV (k := 1) (n := 6) (pc := 41) [.ref (gA G 43)] (fun _ => []) (fun x41 => x41) dX10_judge_41 (cV_X10_254 hG) (Nat.le_of_ble_eq_true rfl) rfl kd_45 (Ne_copy_ok hG 45 kd_45 43 kd_43 P) rfl (fun _ => rfl) (fun _ => rfl) (Nat.le_of_ble_eq_true rfl) rfl rfl (fun x41 => ?_)
      refine s_aload_n (pc := 44) 1 dX10_judge_44 rfl rfl ?_
      refine s_getR (pc := 45) 45 dX10_judge_45 (fi_X10_65 hG) kd_0 rfl ?_
      refine s_aload_n (pc := 48) 0 dX10_judge_48 rfl rfl ?_
      refine s_callS (k := 1) (n := 6) (pc := 49) [.ref (gA G 45), .ref (gA G w2)] (fun x49 => .int (x49.1) :: []) (fun x49 => x49.2) dX10_judge_49 (cS_X10_257 hG) (Nat.le_of_ble_eq_true rfl) rfl (Bs_goBy_ok hG 45 kd_45 w2 hk2 x41) rfl (fun _ => rfl) (fun _ => rfl) (Nat.le_of_ble_eq_true rfl) rfl rfl (fun x49 => ?_)
      refine s_istore (pc := 52) [(4, .int (x49.1)), (3, .ref (gA G w2)), (0, .ref (gA G 0)), (1, .int v1), (2, .int v2)] dX10_judge_52 (Nat.le_of_ble_eq_true rfl) rfl ?_
      refine s_iload_n (pc := 54) 4 dX10_judge_54 rfl rfl ?_
      refine s_sw (fun hx0 => ?_) (fun hx0 => ?_)
      · refine s_tin (pc := 55) 80 dX10_judge_55 (by rw [hx0]; decide) (by rw [hx0]; decide) (by rw [hx0]; rfl) rfl ?_
        refine s_iload (pc := 80) 0 dX10_judge_80 rfl ?_
        refine s_aload_n (pc := 82) 1 dX10_judge_82 rfl rfl ?_
        refine s_getI (pc := 83) dX10_judge_83 (fi_X10_261 hG) hk2 ?_
        refine s_icmp_ge (pc := 86) 94 dX10_judge_86 rfl ?_ ?_
        · refine s_iconst (pc := 94) (v := -1) dX10_judge_94 rfl ?_
          exact s_iret (pc := 95) dX10_judge_95 rfl rfl
        · refine s_iload (pc := 89) 0 dX10_judge_89 rfl ?_
          refine s_goto (pc := 91) 95 dX10_judge_91 rfl ?_
          exact s_iret (pc := 95) dX10_judge_95 rfl rfl
      refine s_sw (fun hx1 => ?_) (fun hx1 => ?_)
      · refine s_tin (pc := 55) 96 dX10_judge_55 (by rw [hx1]; decide) (by rw [hx1]; decide) (by rw [hx1]; rfl) rfl ?_
        refine s_iload (pc := 96) 0 dX10_judge_96 rfl ?_
        refine s_aload_n (pc := 98) 1 dX10_judge_98 rfl rfl ?_
        refine s_getI (pc := 99) dX10_judge_99 (fi_X10_261 hG) hk2 ?_
        refine s_icmp_ge (pc := 102) 121 dX10_judge_102 rfl ?_ ?_
        · refine s_iconst (pc := 121) (v := 0) dX10_judge_121 rfl ?_
          exact s_iret (pc := 122) dX10_judge_122 rfl rfl
        · refine s_aload_n (pc := 105) 2 dX10_judge_105 rfl rfl ?_
          refine s_getR (pc := 106) 45 dX10_judge_106 (fi_X10_65 hG) kd_0 rfl ?_
          refine s_aload_n (pc := 109) 1 dX10_judge_109 rfl rfl ?_
          refine s_iload (pc := 110) 0 dX10_judge_110 rfl ?_
          refine s_callV (k := 1) (n := 6) (pc := 112) [.int (x49.1)] (fun x112 => .int x112 :: [.ref (gA G 45)]) (fun _ => x49.2) dX10_judge_112 (cV_X10_264 hG) (Nat.le_of_ble_eq_true rfl) rfl hk2 (Tr_wayAt_ok hG w2 hk2 x49.1 x49.2) rfl (fun _ => rfl) (fun _ => rfl) (Nat.le_of_ble_eq_true rfl) rfl rfl (fun x112 => ?_)
          refine s_callV (k := 1) (n := 6) (pc := 115) [.int x112] (fun x115 => .int x115 :: []) (fun _ => x49.2) dX10_judge_115 (cV_X10_215 hG) (Nat.le_of_ble_eq_true rfl) rfl kd_45 (Ne_hindrance_ok hG 45 kd_45 x112 x49.2) rfl (fun _ => rfl) (fun _ => rfl) (Nat.le_of_ble_eq_true rfl) rfl rfl (fun x115 => ?_)
          refine s_goto (pc := 118) 122 dX10_judge_118 rfl ?_
          exact s_iret (pc := 122) dX10_judge_122 rfl rfl
      refine s_sw (fun hx2 => ?_) (fun hx2 => ?_)
      · refine s_tin (pc := 55) 123 dX10_judge_55 (by rw [hx2]; decide) (by rw [hx2]; decide) (by rw [hx2]; rfl) rfl ?_
        refine s_aload_n (pc := 123) 2 dX10_judge_123 rfl rfl ?_
        refine s_getR (pc := 124) 45 dX10_judge_124 (fi_X10_65 hG) kd_0 rfl ?_
        refine s_getI (pc := 127) dX10_judge_127 (fi_X10_226 hG) kd_45 ?_
        exact s_iret (pc := 130) dX10_judge_130 rfl rfl
      refine s_tout (pc := 55) 131 dX10_judge_55 (Classical.byContradiction fun hq => ?_) rfl ?_
      · have h9 : Int32.toInt v2 = 0 ∨ Int32.toInt v2 = 1 ∨ Int32.toInt v2 = 2 := by omega
        rcases h9 with h9 | h9 | h9
        · exact hx0 (Int32.toInt_inj.mp h9)
        · exact hx1 (Int32.toInt_inj.mp h9)
        · exact hx2 (Int32.toInt_inj.mp h9)
      · refine s_aload_n (pc := 131) 2 dX10_judge_131 rfl rfl ?_
        refine s_getR (pc := 132) 45 dX10_judge_132 (fi_X10_65 hG) kd_0 rfl ?_
        refine s_callV (k := 1) (n := 6) (pc := 135) [] (fun x135 => .int x135 :: []) (fun _ => x49.2) dX10_judge_135 (cV_X10_267 hG) (Nat.le_of_ble_eq_true rfl) rfl kd_45 (Ne_stillOpen_ok hG 45 kd_45 x49.2) rfl (fun _ => rfl) (fun _ => rfl) (Nat.le_of_ble_eq_true rfl) rfl rfl (fun x135 => ?_)
        exact s_iret (pc := 138) dX10_judge_138 rfl rfl
    · refine s_sub [] rfl ?_
      exact Bs_judge_23_sem hG P
def Bs_perform  (v1 : Int32) (P : PH) : Option ((String ⊕ Int32) × PH) :=
  (Bs_checkTray v1 P).bind fun (x2 : String ⊕ Nat) =>
  Sum.elim (fun E => some (Sum.inl E, P)) (fun (w2 : Nat) =>
    gdP (kd w2 = 8) <|
    (Bs_checkThread P).bind fun (x7 : String ⊕ Unit) =>
    Sum.elim (fun E => some (Sum.inl E, P)) (fun (w7 : Unit) =>
      (Bs_checkThere w2 P).bind fun (x11 : String ⊕ Unit) =>
      Sum.elim (fun E => some (Sum.inl E, P)) (fun (w11 : Unit) =>
        (Bs_goBy 43 w2 P).bind fun (x19 : Int32 × PH) =>
        some (Sum.inr (x19.1), x19.2)) x11) x7) x2
set_option maxRecDepth 100000 in
set_option maxHeartbeats 4000000 in
theorem Bs_perform_ok {G : GT} {l : Launch} (hG : GOK G l)  (v1 : Int32) (P : PH) : OkT G l yX10_perform miX10_perform 3 18 xIH [.ref (gA G 0), .int v1] P (Bs_perform v1 P) := by
  refine okT_of hG _ [(0, .ref (gA G 0)), (1, .int v1)] rfl rfl rfl (Nat.le_of_ble_eq_true rfl) rfl ?_
  unfold Bs_perform
  refine s_aload_n (pc := 0) 0 dX10_perform_0 rfl rfl ?_
  refine s_iload_n (pc := 1) 1 dX10_perform_1 rfl rfl ?_
  refine s_callVTp (k := 2) (n := 12) (pc := 2) [.int v1] (fun w => .ref (gA G w) :: []) (fun E => (Sum.inl E, P)) dX10_perform_2 (cV_X10_244 hG) (Nat.le_of_ble_eq_true rfl) rfl kd_0 (Bs_checkTray_ok hG v1 P) rfl rfl (fun _ => rfl) (Nat.le_of_ble_eq_true rfl) rfl rfl (fun _ => rfl) (fun w2 => ?_)
  refine s_guard (fun hk2 => ?_)
  refine s_astore_n (pc := 5) [(2, .ref (gA G w2)), (0, .ref (gA G 0)), (1, .int v1)] dX10_perform_5 rfl (Nat.le_of_ble_eq_true rfl) rfl ?_
  refine s_aload_n (pc := 6) 1 dX10_perform_6 rfl rfl ?_
  refine s_callVTp (k := 1) (n := 6) (pc := 7) [] (fun w => []) (fun E => (Sum.inl E, P)) dX10_perform_7 (cV_X10_206 hG) (Nat.le_of_ble_eq_true rfl) rfl kd_0 (Bs_checkThread_ok hG P) rfl rfl (fun _ => rfl) (Nat.le_of_ble_eq_true rfl) rfl rfl (fun _ => rfl) (fun w7 => ?_)
  refine s_aload_n (pc := 10) 0 dX10_perform_10 rfl rfl ?_
  refine s_callSTp (k := 0) (n := 0) (pc := 11) [.ref (gA G w2)] (fun w => []) (fun E => (Sum.inl E, P)) dX10_perform_11 (cS_X10_248 hG) (Nat.le_of_ble_eq_true rfl) rfl (Bs_checkThere_ok hG w2 hk2 P) rfl rfl (fun _ => rfl) (Nat.le_of_ble_eq_true rfl) rfl rfl (fun _ => rfl) (fun w11 => ?_)
  refine s_aload_n (pc := 14) 1 dX10_perform_14 rfl rfl ?_
  refine s_getR (pc := 15) 43 dX10_perform_15 (fi_X10_61 hG) kd_0 rfl ?_
  refine s_aload_n (pc := 18) 0 dX10_perform_18 rfl rfl ?_
  refine s_callS (k := 0) (n := 0) (pc := 19) [.ref (gA G 43), .ref (gA G w2)] (fun x19 => .int (x19.1) :: []) (fun x19 => x19.2) dX10_perform_19 (cS_X10_257 hG) (Nat.le_of_ble_eq_true rfl) rfl (Bs_goBy_ok hG 43 kd_43 w2 hk2 P) rfl (fun _ => rfl) (fun _ => rfl) (Nat.le_of_ble_eq_true rfl) rfl rfl (fun x19 => ?_)
  exact s_iret (pc := 22) dX10_perform_22 rfl rfl
def Bs_left   (P : PH) : Option ((String ⊕ Int32)) :=
  (Bs_checkThread P).bind fun (x1 : String ⊕ Unit) =>
  Sum.elim (fun E => some (Sum.inl E)) (fun (w1 : Unit) =>
    (Ne_stillOpen 43 P).bind fun (x8 : Int32) =>
    some (Sum.inr x8)) x1
set_option maxRecDepth 100000 in
set_option maxHeartbeats 4000000 in
theorem Bs_left_ok {G : GT} {l : Launch} (hG : GOK G l)   (P : PH) : OkT G l yX10_left miX10_left 1 6 (xI P) [.ref (gA G 0)] P (Bs_left P) := by
  refine okT_of hG _ [(0, .ref (gA G 0))] rfl rfl rfl (Nat.le_of_ble_eq_true rfl) rfl ?_
  unfold Bs_left
  refine s_aload_n (pc := 0) 0 dX10_left_0 rfl rfl ?_
  refine s_callVTp (k := 0) (n := 0) (pc := 1) [] (fun w => []) (fun E => Sum.inl E) dX10_left_1 (cV_X10_206 hG) (Nat.le_of_ble_eq_true rfl) rfl kd_0 (Bs_checkThread_ok hG P) rfl rfl (fun _ => rfl) (Nat.le_of_ble_eq_true rfl) rfl rfl (fun _ => rfl) (fun w1 => ?_)
  refine s_aload_n (pc := 4) 0 dX10_left_4 rfl rfl ?_
  refine s_getR (pc := 5) 43 dX10_left_5 (fi_X10_61 hG) kd_0 rfl ?_
  refine s_callV (k := 0) (n := 0) (pc := 8) [] (fun x8 => .int x8 :: []) (fun _ => P) dX10_left_8 (cV_X10_267 hG) (Nat.le_of_ble_eq_true rfl) rfl kd_43 (Ne_stillOpen_ok hG 43 kd_43 P) rfl (fun _ => rfl) (fun _ => rfl) (Nat.le_of_ble_eq_true rfl) rfl rfl (fun x8 => ?_)
  exact s_iret (pc := 11) dX10_left_11 rfl rfl
def Bs_barred_24   (v1 : Int32) (P : PH) : Option ((String ⊕ Int32) × PH) :=
  (Rs_behind 43 P).bind fun (x32 : PH) =>
  (Rs_look x32).bind fun (x39 : PH) =>
  if v1 = 0 then
    some (Sum.inr (x39.1 75 0), x39)
  else
    some (Sum.inr (x39.1 75 1), x39)
set_option maxRecDepth 100000 in
set_option maxHeartbeats 4000000 in
theorem Bs_barred_24_sem {G : GT} {l : Launch} (hG : GOK G l)  (v1 : Int32) (P : PH)   : Sem G l miX10_barred 1 6 xIH 24 [(0, .ref (gA G 0)), (1, .int v1)] [] P (Bs_barred_24 v1 P) := by
  unfold Bs_barred_24
  refine s_aload_n (pc := 24) 0 dX10_barred_24 rfl rfl ?_
  refine s_getR (pc := 25) 75 dX10_barred_25 (fi_X10_71 hG) kd_0 rfl ?_
  refine s_aload_n (pc := 28) 0 dX10_barred_28 rfl rfl ?_
  refine s_getR (pc := 29) 43 dX10_barred_29 (fi_X10_61 hG) kd_0 rfl ?_
  refine s_callV (k := 1) (n := 6) (pc := 32) [.ref (gA G 43)] (fun _ => []) (fun x32 => x32) dX10_barred_32 (cV_X10_273 hG) (Nat.le_of_ble_eq_true rfl) rfl kd_75 (Rs_behind_ok hG 43 kd_43 P) rfl (fun _ => rfl) (fun _ => rfl) (Nat.le_of_ble_eq_true rfl) rfl rfl (fun x32 => ?_)
  refine s_aload_n (pc := 35) 0 dX10_barred_35 rfl rfl ?_
  refine s_getR (pc := 36) 75 dX10_barred_36 (fi_X10_71 hG) kd_0 rfl ?_
  refine s_callV (k := 1) (n := 6) (pc := 39) [] (fun _ => []) (fun x39 => x39) dX10_barred_39 (cV_X10_276 hG) (Nat.le_of_ble_eq_true rfl) rfl kd_75 (Rs_look_ok hG x32) rfl (fun _ => rfl) (fun _ => rfl) (Nat.le_of_ble_eq_true rfl) rfl rfl (fun x39 => ?_)
  refine s_iload_n (pc := 42) 1 dX10_barred_42 rfl rfl ?_
  refine s_if_ne (pc := 43) 56 dX10_barred_43 rfl ?_ ?_
  · refine s_aload_n (pc := 46) 0 dX10_barred_46 rfl rfl ?_
    refine s_getR (pc := 47) 75 dX10_barred_47 (fi_X10_71 hG) kd_0 rfl ?_
    refine s_getI (pc := 50) dX10_barred_50 (fi_X10_279 hG) kd_75 ?_
    refine s_goto (pc := 53) 63 dX10_barred_53 rfl ?_
    exact s_iret (pc := 63) dX10_barred_63 rfl rfl
  · refine s_aload_n (pc := 56) 0 dX10_barred_56 rfl rfl ?_
    refine s_getR (pc := 57) 75 dX10_barred_57 (fi_X10_71 hG) kd_0 rfl ?_
    refine s_getI (pc := 60) dX10_barred_60 (fi_X10_282 hG) kd_75 ?_
    exact s_iret (pc := 63) dX10_barred_63 rfl rfl
def Bs_barred  (v1 : Int32) (P : PH) : Option ((String ⊕ Int32) × PH) :=
  (Bs_checkThread P).bind fun (x1 : String ⊕ Unit) =>
  Sum.elim (fun E => some (Sum.inl E, P)) (fun (w1 : Unit) =>
    if v1 = 0 then
      Bs_barred_24 v1 P
    else
      if v1 = (1 : Int32) then
        Bs_barred_24 v1 P
      else
        some ((Sum.inl "java/lang/IllegalArgumentException", P))) x1
set_option maxRecDepth 100000 in
set_option maxHeartbeats 4000000 in
theorem Bs_barred_ok {G : GT} {l : Launch} (hG : GOK G l)  (v1 : Int32) (P : PH) : OkT G l yX10_barred miX10_barred 2 12 xIH [.ref (gA G 0), .int v1] P (Bs_barred v1 P) := by
  refine okT_of hG _ [(0, .ref (gA G 0)), (1, .int v1)] rfl rfl rfl (Nat.le_of_ble_eq_true rfl) rfl ?_
  unfold Bs_barred
  refine s_aload_n (pc := 0) 0 dX10_barred_0 rfl rfl ?_
  refine s_callVTp (k := 1) (n := 6) (pc := 1) [] (fun w => []) (fun E => (Sum.inl E, P)) dX10_barred_1 (cV_X10_206 hG) (Nat.le_of_ble_eq_true rfl) rfl kd_0 (Bs_checkThread_ok hG P) rfl rfl (fun _ => rfl) (Nat.le_of_ble_eq_true rfl) rfl rfl (fun _ => rfl) (fun w1 => ?_)
  refine s_iload_n (pc := 4) 1 dX10_barred_4 rfl rfl ?_
  refine s_if_eq (pc := 5) 24 dX10_barred_5 rfl ?_ ?_
  · exact Bs_barred_24_sem hG v1 P
  · refine s_iload_n (pc := 8) 1 dX10_barred_8 rfl rfl ?_
    refine s_iconst (pc := 9) (v := 1) dX10_barred_9 rfl ?_
    refine s_icmp_eq (pc := 10) 24 dX10_barred_10 rfl ?_ ?_
    · exact Bs_barred_24_sem hG v1 P
    · exact s_throwW (pc := 13) (thr_X10_271 hG) dX10_barred_13 dX10_barred_16 dX10_barred_17 dX10_barred_20 dX10_barred_23 rfl rfl (Nat.le_of_ble_eq_true rfl) (Nat.le_of_ble_eq_true rfl) (Nat.le_of_ble_eq_true rfl)
def Bs_ending   (P : PH) : Option ((String ⊕ Int32) × PH) :=
  (Bs_checkThread P).bind fun (x1 : String ⊕ Unit) =>
  Sum.elim (fun E => some (Sum.inl E, P)) (fun (w1 : Unit) =>
    (Rs_behind 43 P).bind fun (x12 : PH) =>
    (Rs_look x12).bind fun (x19 : PH) =>
    some (Sum.inr (x19.1 75 2), x19)) x1
set_option maxRecDepth 100000 in
set_option maxHeartbeats 4000000 in
theorem Bs_ending_ok {G : GT} {l : Launch} (hG : GOK G l)   (P : PH) : OkT G l yX10_ending miX10_ending 1 6 xIH [.ref (gA G 0)] P (Bs_ending P) := by
  refine okT_of hG _ [(0, .ref (gA G 0))] rfl rfl rfl (Nat.le_of_ble_eq_true rfl) rfl ?_
  unfold Bs_ending
  refine s_aload_n (pc := 0) 0 dX10_ending_0 rfl rfl ?_
  refine s_callVTp (k := 0) (n := 0) (pc := 1) [] (fun w => []) (fun E => (Sum.inl E, P)) dX10_ending_1 (cV_X10_206 hG) (Nat.le_of_ble_eq_true rfl) rfl kd_0 (Bs_checkThread_ok hG P) rfl rfl (fun _ => rfl) (Nat.le_of_ble_eq_true rfl) rfl rfl (fun _ => rfl) (fun w1 => ?_)
  refine s_aload_n (pc := 4) 0 dX10_ending_4 rfl rfl ?_
  refine s_getR (pc := 5) 75 dX10_ending_5 (fi_X10_71 hG) kd_0 rfl ?_
  refine s_aload_n (pc := 8) 0 dX10_ending_8 rfl rfl ?_
  refine s_getR (pc := 9) 43 dX10_ending_9 (fi_X10_61 hG) kd_0 rfl ?_
  refine s_callV (k := 0) (n := 0) (pc := 12) [.ref (gA G 43)] (fun _ => []) (fun x12 => x12) dX10_ending_12 (cV_X10_273 hG) (Nat.le_of_ble_eq_true rfl) rfl kd_75 (Rs_behind_ok hG 43 kd_43 P) rfl (fun _ => rfl) (fun _ => rfl) (Nat.le_of_ble_eq_true rfl) rfl rfl (fun x12 => ?_)
  refine s_aload_n (pc := 15) 0 dX10_ending_15 rfl rfl ?_
  refine s_getR (pc := 16) 75 dX10_ending_16 (fi_X10_71 hG) kd_0 rfl ?_
  refine s_callV (k := 0) (n := 0) (pc := 19) [] (fun _ => []) (fun x19 => x19) dX10_ending_19 (cV_X10_276 hG) (Nat.le_of_ble_eq_true rfl) rfl kd_75 (Rs_look_ok hG x12) rfl (fun _ => rfl) (fun _ => rfl) (Nat.le_of_ble_eq_true rfl) rfl rfl (fun x19 => ?_)
  refine s_aload_n (pc := 22) 0 dX10_ending_22 rfl rfl ?_
  refine s_getR (pc := 23) 75 dX10_ending_23 (fi_X10_71 hG) kd_0 rfl ?_
  refine s_getI (pc := 26) dX10_ending_26 (fi_X10_285 hG) kd_75 ?_
  exact s_iret (pc := 29) dX10_ending_29 rfl rfl
def Bs_working  (v1 : Int32) (P : PH) : Option ((String ⊕ Int32) × PH) :=
  (Bs_checkThread P).bind fun (x1 : String ⊕ Unit) =>
  Sum.elim (fun E => some (Sum.inl E, P)) (fun (w1 : Unit) =>
    (Rs_behind 43 P).bind fun (x12 : PH) =>
    (Rs_firstWorking x12).bind fun (x19 : Int32 × PH) =>
    if v1 = (-1 : Int32) then
      some (Sum.inr (x19.1), x19.2)
    else
      (Rs_wayOf v1 x19.2).bind fun (x37 : Int32) =>
      some (Sum.inr x37, x19.2)) x1
set_option maxRecDepth 100000 in
set_option maxHeartbeats 4000000 in
theorem Bs_working_ok {G : GT} {l : Launch} (hG : GOK G l)  (v1 : Int32) (P : PH) : OkT G l yX10_working miX10_working 1 6 xIH [.ref (gA G 0), .int v1] P (Bs_working v1 P) := by
  refine okT_of hG _ [(0, .ref (gA G 0)), (1, .int v1)] rfl rfl rfl (Nat.le_of_ble_eq_true rfl) rfl ?_
  unfold Bs_working
  refine s_aload_n (pc := 0) 0 dX10_working_0 rfl rfl ?_
  refine s_callVTp (k := 0) (n := 0) (pc := 1) [] (fun w => []) (fun E => (Sum.inl E, P)) dX10_working_1 (cV_X10_206 hG) (Nat.le_of_ble_eq_true rfl) rfl kd_0 (Bs_checkThread_ok hG P) rfl rfl (fun _ => rfl) (Nat.le_of_ble_eq_true rfl) rfl rfl (fun _ => rfl) (fun w1 => ?_)
  refine s_aload_n (pc := 4) 0 dX10_working_4 rfl rfl ?_
  refine s_getR (pc := 5) 75 dX10_working_5 (fi_X10_71 hG) kd_0 rfl ?_
  refine s_aload_n (pc := 8) 0 dX10_working_8 rfl rfl ?_
  refine s_getR (pc := 9) 43 dX10_working_9 (fi_X10_61 hG) kd_0 rfl ?_
  refine s_callV (k := 0) (n := 0) (pc := 12) [.ref (gA G 43)] (fun _ => []) (fun x12 => x12) dX10_working_12 (cV_X10_273 hG) (Nat.le_of_ble_eq_true rfl) rfl kd_75 (Rs_behind_ok hG 43 kd_43 P) rfl (fun _ => rfl) (fun _ => rfl) (Nat.le_of_ble_eq_true rfl) rfl rfl (fun x12 => ?_)
  refine s_aload_n (pc := 15) 0 dX10_working_15 rfl rfl ?_
  refine s_getR (pc := 16) 75 dX10_working_16 (fi_X10_71 hG) kd_0 rfl ?_
  refine s_callV (k := 0) (n := 0) (pc := 19) [] (fun x19 => .int (x19.1) :: []) (fun x19 => x19.2) dX10_working_19 (cV_X10_288 hG) (Nat.le_of_ble_eq_true rfl) rfl kd_75 (Rs_firstWorking_ok hG x12) rfl (fun _ => rfl) (fun _ => rfl) (Nat.le_of_ble_eq_true rfl) rfl rfl (fun x19 => ?_)
  refine s_istore_n (pc := 22) [(2, .int (x19.1)), (0, .ref (gA G 0)), (1, .int v1)] dX10_working_22 rfl (Nat.le_of_ble_eq_true rfl) rfl ?_
  refine s_iload_n (pc := 23) 2 dX10_working_23 rfl rfl ?_
  refine s_iconst (pc := 24) (v := -1) dX10_working_24 rfl ?_
  refine s_icmp_ne (pc := 25) 32 dX10_working_25 rfl ?_ ?_
  · refine s_iload_n (pc := 28) 0 dX10_working_28 rfl rfl ?_
    refine s_goto (pc := 29) 40 dX10_working_29 rfl ?_
    exact s_iret (pc := 40) dX10_working_40 rfl rfl
  · refine s_aload_n (pc := 32) 1 dX10_working_32 rfl rfl ?_
    refine s_getR (pc := 33) 75 dX10_working_33 (fi_X10_71 hG) kd_0 rfl ?_
    refine s_iload_n (pc := 36) 2 dX10_working_36 rfl rfl ?_
    refine s_callV (k := 0) (n := 0) (pc := 37) [.int v1] (fun x37 => .int x37 :: []) (fun _ => x19.2) dX10_working_37 (cV_X10_291 hG) (Nat.le_of_ble_eq_true rfl) rfl kd_75 (Rs_wayOf_ok hG v1 x19.2) rfl (fun _ => rfl) (fun _ => rfl) (Nat.le_of_ble_eq_true rfl) rfl rfl (fun x37 => ?_)
    exact s_iret (pc := 40) dX10_working_40 rfl rfl
def Bs_work_25   (v1 : Int32)  : Nat → Int32 → PH → Option ((String ⊕ Int32) × PH)
  | 0 => fun _ _ => none
  | n + 1 => fun v2 P =>
    if v1 ≤ v2 then
      some (Sum.inr v1, P)
    else
      (Rs_wayOf v2 P).bind fun (x39 : Int32) =>
      (Ne_go 43 x39 P).bind fun (x42 : Int32 × PH) =>
      Bs_work_25 v1 n (v2 + 1) x42.2
set_option maxRecDepth 100000 in
set_option maxHeartbeats 4000000 in
theorem Bs_work_25_sem {G : GT} {l : Launch} (hG : GOK G l)  (v1 : Int32)    : ∀ (n : Nat) (v2 : Int32) (P : PH), Sem G l miX10_work 0 0 xIH 25 [(0, .ref (gA G 0)), (1, .int v1), (2, .int v2)] [] P (Bs_work_25 v1 n v2 P) := by
  intro n
  induction n with
  | zero => intro v2 P; exact s_none rfl
  | succ n ih =>
    intro v2 P
    rw [Bs_work_25]
    refine s_iload_n (pc := 25) 2 dX10_work_25 rfl rfl ?_
    refine s_iload_n (pc := 26) 1 dX10_work_26 rfl rfl ?_
    refine s_icmp_ge (pc := 27) 52 dX10_work_27 rfl ?_ ?_
    · refine s_iload_n (pc := 52) 1 dX10_work_52 rfl rfl ?_
      exact s_iret (pc := 53) dX10_work_53 rfl rfl
    · refine s_aload_n (pc := 30) 0 dX10_work_30 rfl rfl ?_
      refine s_getR (pc := 31) 43 dX10_work_31 (fi_X10_61 hG) kd_0 rfl ?_
      refine s_aload_n (pc := 34) 0 dX10_work_34 rfl rfl ?_
      refine s_getR (pc := 35) 75 dX10_work_35 (fi_X10_71 hG) kd_0 rfl ?_
      refine s_iload_n (pc := 38) 2 dX10_work_38 rfl rfl ?_
      refine s_callV (k := 0) (n := 0) (pc := 39) [.int v2] (fun x39 => .int x39 :: [.ref (gA G 43)]) (fun _ => P) dX10_work_39 (cV_X10_291 hG) (Nat.le_of_ble_eq_true rfl) rfl kd_75 (Rs_wayOf_ok hG v2 P) rfl (fun _ => rfl) (fun _ => rfl) (Nat.le_of_ble_eq_true rfl) rfl rfl (fun x39 => ?_)
      refine s_callV (k := 0) (n := 0) (pc := 42) [.int x39] (fun x42 => .int (x42.1) :: []) (fun x42 => x42.2) dX10_work_42 (cV_X10_218 hG) (Nat.le_of_ble_eq_true rfl) rfl kd_43 (Ne_go_ok hG 43 kd_43 x39 P) rfl (fun _ => rfl) (fun _ => rfl) (Nat.le_of_ble_eq_true rfl) rfl rfl (fun x42 => ?_)
      refine s_pop (pc := 45) dX10_work_45 rfl ?_
      refine s_iinc (pc := 46) 2 1 [(2, .int (v2 + 1)), (0, .ref (gA G 0)), (1, .int v1)] dX10_work_46 rfl rfl (Nat.le_of_ble_eq_true rfl) rfl ?_
      refine s_goto (pc := 49) 25 dX10_work_49 rfl ?_
      refine s_sub [1, 2, 0] rfl ?_
      exact ih (v2 + 1) x42.2
def Bs_work   (P : PH) : Option ((String ⊕ Int32) × PH) :=
  (Bs_checkThread P).bind fun (x1 : String ⊕ Unit) =>
  Sum.elim (fun E => some (Sum.inl E, P)) (fun (w1 : Unit) =>
    (Rs_behind 43 P).bind fun (x12 : PH) =>
    (Rs_firstWorking x12).bind fun (x19 : Int32 × PH) =>
    Bs_work_25 x19.1 bigN (0 : Int32) x19.2) x1
set_option maxRecDepth 100000 in
set_option maxHeartbeats 4000000 in
theorem Bs_work_ok {G : GT} {l : Launch} (hG : GOK G l)   (P : PH) : OkT G l yX10_work miX10_work 1 6 xIH [.ref (gA G 0)] P (Bs_work P) := by
  refine okT_of hG _ [(0, .ref (gA G 0))] rfl rfl rfl (Nat.le_of_ble_eq_true rfl) rfl ?_
  unfold Bs_work
  refine s_aload_n (pc := 0) 0 dX10_work_0 rfl rfl ?_
  refine s_callVTp (k := 0) (n := 0) (pc := 1) [] (fun w => []) (fun E => (Sum.inl E, P)) dX10_work_1 (cV_X10_206 hG) (Nat.le_of_ble_eq_true rfl) rfl kd_0 (Bs_checkThread_ok hG P) rfl rfl (fun _ => rfl) (Nat.le_of_ble_eq_true rfl) rfl rfl (fun _ => rfl) (fun w1 => ?_)
  refine s_aload_n (pc := 4) 0 dX10_work_4 rfl rfl ?_
  refine s_getR (pc := 5) 75 dX10_work_5 (fi_X10_71 hG) kd_0 rfl ?_
  refine s_aload_n (pc := 8) 0 dX10_work_8 rfl rfl ?_
  refine s_getR (pc := 9) 43 dX10_work_9 (fi_X10_61 hG) kd_0 rfl ?_
  refine s_callV (k := 0) (n := 0) (pc := 12) [.ref (gA G 43)] (fun _ => []) (fun x12 => x12) dX10_work_12 (cV_X10_273 hG) (Nat.le_of_ble_eq_true rfl) rfl kd_75 (Rs_behind_ok hG 43 kd_43 P) rfl (fun _ => rfl) (fun _ => rfl) (Nat.le_of_ble_eq_true rfl) rfl rfl (fun x12 => ?_)
  refine s_aload_n (pc := 15) 0 dX10_work_15 rfl rfl ?_
  refine s_getR (pc := 16) 75 dX10_work_16 (fi_X10_71 hG) kd_0 rfl ?_
  refine s_callV (k := 0) (n := 0) (pc := 19) [] (fun x19 => .int (x19.1) :: []) (fun x19 => x19.2) dX10_work_19 (cV_X10_288 hG) (Nat.le_of_ble_eq_true rfl) rfl kd_75 (Rs_firstWorking_ok hG x12) rfl (fun _ => rfl) (fun _ => rfl) (Nat.le_of_ble_eq_true rfl) rfl rfl (fun x19 => ?_)
  refine s_istore_n (pc := 22) [(1, .int (x19.1)), (0, .ref (gA G 0))] dX10_work_22 rfl (Nat.le_of_ble_eq_true rfl) rfl ?_
  refine s_iconst (pc := 23) (v := 0) dX10_work_23 rfl ?_
  refine s_istore_n (pc := 24) [(2, .int ((0 : Int32))), (1, .int (x19.1)), (0, .ref (gA G 0))] dX10_work_24 rfl (Nat.le_of_ble_eq_true rfl) rfl ?_
  refine s_sub [2, 1, 0] rfl ?_
  exact Bs_work_25_sem hG x19.1 bigN (0 : Int32) x19.2
def Bs_ways   (P : PH) : Option ((String ⊕ Int32) × PH) :=
  (Bs_checkThread P).bind fun (x1 : String ⊕ Unit) =>
  Sum.elim (fun E => some (Sum.inl E, P)) (fun (w1 : Unit) =>
    (Rs_behind 43 P).bind fun (x12 : PH) =>
    (Rs_countWorkings x12).bind fun (x19 : Int32 × PH) =>
    some (Sum.inr (x19.1), x19.2)) x1
set_option maxRecDepth 100000 in
set_option maxHeartbeats 4000000 in
theorem Bs_ways_ok {G : GT} {l : Launch} (hG : GOK G l)   (P : PH) : OkT G l yX10_ways miX10_ways 1 6 xIH [.ref (gA G 0)] P (Bs_ways P) := by
  refine okT_of hG _ [(0, .ref (gA G 0))] rfl rfl rfl (Nat.le_of_ble_eq_true rfl) rfl ?_
  unfold Bs_ways
  refine s_aload_n (pc := 0) 0 dX10_ways_0 rfl rfl ?_
  refine s_callVTp (k := 0) (n := 0) (pc := 1) [] (fun w => []) (fun E => (Sum.inl E, P)) dX10_ways_1 (cV_X10_206 hG) (Nat.le_of_ble_eq_true rfl) rfl kd_0 (Bs_checkThread_ok hG P) rfl rfl (fun _ => rfl) (Nat.le_of_ble_eq_true rfl) rfl rfl (fun _ => rfl) (fun w1 => ?_)
  refine s_aload_n (pc := 4) 0 dX10_ways_4 rfl rfl ?_
  refine s_getR (pc := 5) 75 dX10_ways_5 (fi_X10_71 hG) kd_0 rfl ?_
  refine s_aload_n (pc := 8) 0 dX10_ways_8 rfl rfl ?_
  refine s_getR (pc := 9) 43 dX10_ways_9 (fi_X10_61 hG) kd_0 rfl ?_
  refine s_callV (k := 0) (n := 0) (pc := 12) [.ref (gA G 43)] (fun _ => []) (fun x12 => x12) dX10_ways_12 (cV_X10_273 hG) (Nat.le_of_ble_eq_true rfl) rfl kd_75 (Rs_behind_ok hG 43 kd_43 P) rfl (fun _ => rfl) (fun _ => rfl) (Nat.le_of_ble_eq_true rfl) rfl rfl (fun x12 => ?_)
  refine s_aload_n (pc := 15) 0 dX10_ways_15 rfl rfl ?_
  refine s_getR (pc := 16) 75 dX10_ways_16 (fi_X10_71 hG) kd_0 rfl ?_
  refine s_callV (k := 0) (n := 0) (pc := 19) [] (fun x19 => .int (x19.1) :: []) (fun x19 => x19.2) dX10_ways_19 (cV_X10_292 hG) (Nat.le_of_ble_eq_true rfl) rfl kd_75 (Rs_countWorkings_ok hG x12) rfl (fun _ => rfl) (fun _ => rfl) (Nat.le_of_ble_eq_true rfl) rfl rfl (fun x19 => ?_)
  exact s_iret (pc := 22) dX10_ways_22 rfl rfl
def Bs_unpicked_13    (P : PH) : Option ((String ⊕ Int32) × PH) :=
  some ((Sum.inl "java/lang/IllegalArgumentException", P))
set_option maxRecDepth 100000 in
set_option maxHeartbeats 4000000 in
theorem Bs_unpicked_13_sem {G : GT} {l : Launch} (hG : GOK G l)   (P : PH)   : Sem G l miX10_unpicked 1 6 xIH 13 [] [] P (Bs_unpicked_13 P) := by
  unfold Bs_unpicked_13
  exact s_throwW (pc := 13) (thr_X10_295 hG) dX10_unpicked_13 dX10_unpicked_16 dX10_unpicked_17 dX10_unpicked_20 dX10_unpicked_23 rfl rfl (Nat.le_of_ble_eq_true rfl) (Nat.le_of_ble_eq_true rfl) (Nat.le_of_ble_eq_true rfl)
def Bs_unpicked  (v1 : Int32) (v2 : Int32) (P : PH) : Option ((String ⊕ Int32) × PH) :=
  (Bs_checkThread P).bind fun (x1 : String ⊕ Unit) =>
  Sum.elim (fun E => some (Sum.inl E, P)) (fun (w1 : Unit) =>
    if v2 < 0 then
      Bs_unpicked_13 P
    else
      if v2 ≤ (2 : Int32) then
        (Un_find 43 v1 P).bind fun (x33 : PH) =>
        if (x33.1 77 0) = (-1 : Int32) then
          some (Sum.inr (x33.1 77 0), x33)
        else
          if v2 = (1 : Int32) then
            some (Sum.inr (x33.1 77 0), x33)
          else
            if v2 = 0 then
              some (Sum.inr ((x33.1 77 0) + (x33.1 77 1)), x33)
            else
              some (Sum.inr (x33.1 77 1), x33)
      else
        Bs_unpicked_13 P) x1
set_option maxRecDepth 100000 in
set_option maxHeartbeats 4000000 in
theorem Bs_unpicked_ok {G : GT} {l : Launch} (hG : GOK G l)  (v1 : Int32) (v2 : Int32) (P : PH) : OkT G l yX10_unpicked miX10_unpicked 2 12 xIH [.ref (gA G 0), .int v1, .int v2] P (Bs_unpicked v1 v2 P) := by
  refine okT_of hG _ [(0, .ref (gA G 0)), (1, .int v1), (2, .int v2)] rfl rfl rfl (Nat.le_of_ble_eq_true rfl) rfl ?_
  unfold Bs_unpicked
  refine s_aload_n (pc := 0) 0 dX10_unpicked_0 rfl rfl ?_
  refine s_callVTp (k := 1) (n := 6) (pc := 1) [] (fun w => []) (fun E => (Sum.inl E, P)) dX10_unpicked_1 (cV_X10_206 hG) (Nat.le_of_ble_eq_true rfl) rfl kd_0 (Bs_checkThread_ok hG P) rfl rfl (fun _ => rfl) (Nat.le_of_ble_eq_true rfl) rfl rfl (fun _ => rfl) (fun w1 => ?_)
  refine s_iload_n (pc := 4) 2 dX10_unpicked_4 rfl rfl ?_
  refine s_if_lt (pc := 5) 13 dX10_unpicked_5 rfl ?_ ?_
  · refine s_sub [] rfl ?_
    exact Bs_unpicked_13_sem hG P
  · refine s_iload_n (pc := 8) 2 dX10_unpicked_8 rfl rfl ?_
    refine s_iconst (pc := 9) (v := 2) dX10_unpicked_9 rfl ?_
    refine s_icmp_le (pc := 10) 24 dX10_unpicked_10 rfl ?_ ?_
    · refine s_aload_n (pc := 24) 0 dX10_unpicked_24 rfl rfl ?_
      refine s_getR (pc := 25) 77 dX10_unpicked_25 (fi_X10_80 hG) kd_0 rfl ?_
      refine s_aload_n (pc := 28) 0 dX10_unpicked_28 rfl rfl ?_
      refine s_getR (pc := 29) 43 dX10_unpicked_29 (fi_X10_61 hG) kd_0 rfl ?_
      refine s_iload_n (pc := 32) 1 dX10_unpicked_32 rfl rfl ?_
      refine s_callV (k := 1) (n := 6) (pc := 33) [.ref (gA G 43), .int v1] (fun _ => []) (fun x33 => x33) dX10_unpicked_33 (cV_X10_297 hG) (Nat.le_of_ble_eq_true rfl) rfl kd_77 (Un_find_ok hG 43 kd_43 v1 P) rfl (fun _ => rfl) (fun _ => rfl) (Nat.le_of_ble_eq_true rfl) rfl rfl (fun x33 => ?_)
      refine s_aload_n (pc := 36) 0 dX10_unpicked_36 rfl rfl ?_
      refine s_getR (pc := 37) 77 dX10_unpicked_37 (fi_X10_80 hG) kd_0 rfl ?_
      refine s_getI (pc := 40) dX10_unpicked_40 (fi_X10_301 hG) kd_77 ?_
      refine s_iconst (pc := 43) (v := -1) dX10_unpicked_43 rfl ?_
      refine s_icmp_eq (pc := 44) 52 dX10_unpicked_44 rfl ?_ ?_
      · refine s_aload_n (pc := 52) 0 dX10_unpicked_52 rfl rfl ?_
        refine s_getR (pc := 53) 77 dX10_unpicked_53 (fi_X10_80 hG) kd_0 rfl ?_
        refine s_getI (pc := 56) dX10_unpicked_56 (fi_X10_301 hG) kd_77 ?_
        exact s_iret (pc := 59) dX10_unpicked_59 rfl rfl
      · refine s_iload_n (pc := 47) 2 dX10_unpicked_47 rfl rfl ?_
        refine s_iconst (pc := 48) (v := 1) dX10_unpicked_48 rfl ?_
        refine s_icmp_ne (pc := 49) 60 dX10_unpicked_49 rfl ?_ ?_
        · refine s_aload_n (pc := 52) 0 dX10_unpicked_52 rfl rfl ?_
          refine s_getR (pc := 53) 77 dX10_unpicked_53 (fi_X10_80 hG) kd_0 rfl ?_
          refine s_getI (pc := 56) dX10_unpicked_56 (fi_X10_301 hG) kd_77 ?_
          exact s_iret (pc := 59) dX10_unpicked_59 rfl rfl
        · refine s_iload_n (pc := 60) 2 dX10_unpicked_60 rfl rfl ?_
          refine s_if_ne (pc := 61) 82 dX10_unpicked_61 rfl ?_ ?_
          · refine s_aload_n (pc := 64) 0 dX10_unpicked_64 rfl rfl ?_
            refine s_getR (pc := 65) 77 dX10_unpicked_65 (fi_X10_80 hG) kd_0 rfl ?_
            refine s_getI (pc := 68) dX10_unpicked_68 (fi_X10_301 hG) kd_77 ?_
            refine s_aload_n (pc := 71) 0 dX10_unpicked_71 rfl rfl ?_
            refine s_getR (pc := 72) 77 dX10_unpicked_72 (fi_X10_80 hG) kd_0 rfl ?_
            refine s_getI (pc := 75) dX10_unpicked_75 (fi_X10_304 hG) kd_77 ?_
            refine s_iadd (pc := 78) dX10_unpicked_78 ?_
            refine s_goto (pc := 79) 89 dX10_unpicked_79 rfl ?_
            exact s_iret (pc := 89) dX10_unpicked_89 rfl rfl
          · refine s_aload_n (pc := 82) 0 dX10_unpicked_82 rfl rfl ?_
            refine s_getR (pc := 83) 77 dX10_unpicked_83 (fi_X10_80 hG) kd_0 rfl ?_
            refine s_getI (pc := 86) dX10_unpicked_86 (fi_X10_304 hG) kd_77 ?_
            exact s_iret (pc := 89) dX10_unpicked_89 rfl rfl
    · refine s_sub [] rfl ?_
      exact Bs_unpicked_13_sem hG P
def Bs_places  (v1 : Int32) (P : PH) : Option ((String ⊕ Int32) × PH) :=
  (Bs_checkInk v1 P).bind fun (x1 : String ⊕ Unit) =>
  Sum.elim (fun E => some (Sum.inl E, P)) (fun (w1 : Unit) =>
    (Rs_countPlaces 43 v1 P).bind fun (x13 : Int32 × PH) =>
    some (Sum.inr (x13.1), x13.2)) x1
set_option maxRecDepth 100000 in
set_option maxHeartbeats 4000000 in
theorem Bs_places_ok {G : GT} {l : Launch} (hG : GOK G l)  (v1 : Int32) (P : PH) : OkT G l yX10_places miX10_places 1 6 xIH [.ref (gA G 0), .int v1] P (Bs_places v1 P) := by
  refine okT_of hG _ [(0, .ref (gA G 0)), (1, .int v1)] rfl rfl rfl (Nat.le_of_ble_eq_true rfl) rfl ?_
  unfold Bs_places
  refine s_iload_n (pc := 0) 1 dX10_places_0 rfl rfl ?_
  refine s_callSTp (k := 0) (n := 0) (pc := 1) [.int v1] (fun w => []) (fun E => (Sum.inl E, P)) dX10_places_1 (cS_X10_176 hG) (Nat.le_of_ble_eq_true rfl) rfl (Bs_checkInk_ok hG v1 P) rfl rfl (fun _ => rfl) (Nat.le_of_ble_eq_true rfl) rfl rfl (fun _ => rfl) (fun w1 => ?_)
  refine s_aload_n (pc := 4) 0 dX10_places_4 rfl rfl ?_
  refine s_getR (pc := 5) 75 dX10_places_5 (fi_X10_71 hG) kd_0 rfl ?_
  refine s_aload_n (pc := 8) 0 dX10_places_8 rfl rfl ?_
  refine s_getR (pc := 9) 43 dX10_places_9 (fi_X10_61 hG) kd_0 rfl ?_
  refine s_iload_n (pc := 12) 1 dX10_places_12 rfl rfl ?_
  refine s_callV (k := 0) (n := 0) (pc := 13) [.ref (gA G 43), .int v1] (fun x13 => .int (x13.1) :: []) (fun x13 => x13.2) dX10_places_13 (cV_X10_307 hG) (Nat.le_of_ble_eq_true rfl) rfl kd_75 (Rs_countPlaces_ok hG 43 kd_43 v1 P) rfl (fun _ => rfl) (fun _ => rfl) (Nat.le_of_ble_eq_true rfl) rfl rfl (fun x13 => ?_)
  exact s_iret (pc := 16) dX10_places_16 rfl rfl
def Bs_threads_15    (P : PH) : Option ((String ⊕ Int32) × PH) :=
  some ((Sum.inl "java/lang/IllegalArgumentException", P))
set_option maxRecDepth 100000 in
set_option maxHeartbeats 4000000 in
theorem Bs_threads_15_sem {G : GT} {l : Launch} (hG : GOK G l)   (P : PH)   : Sem G l miX10_threads 1 6 xIH 15 [] [] P (Bs_threads_15 P) := by
  unfold Bs_threads_15
  exact s_throwW (pc := 15) (thr_X10_311 hG) dX10_threads_15 dX10_threads_18 dX10_threads_19 dX10_threads_22 dX10_threads_25 rfl rfl (Nat.le_of_ble_eq_true rfl) (Nat.le_of_ble_eq_true rfl) (Nat.le_of_ble_eq_true rfl)
def Bs_threads  (v1 : Int32) (v2 : Int32) (P : PH) : Option ((String ⊕ Int32) × PH) :=
  (Bs_checkInk v1 P).bind fun (x1 : String ⊕ Unit) =>
  Sum.elim (fun E => some (Sum.inl E, P)) (fun (w1 : Unit) =>
    if v2 < (1 : Int32) then
      Bs_threads_15 P
    else
      if v2 ≤ (20 : Int32) then
        (Sh_fewestOf v1 v2 P).bind fun (x32 : Int32 × PH) =>
        some (Sum.inr (x32.1), x32.2)
      else
        Bs_threads_15 P) x1
set_option maxRecDepth 100000 in
set_option maxHeartbeats 4000000 in
theorem Bs_threads_ok {G : GT} {l : Launch} (hG : GOK G l)  (v1 : Int32) (v2 : Int32) (P : PH) : OkT G l yX10_threads miX10_threads 2 12 xIH [.ref (gA G 0), .int v1, .int v2] P (Bs_threads v1 v2 P) := by
  refine okT_of hG _ [(0, .ref (gA G 0)), (1, .int v1), (2, .int v2)] rfl rfl rfl (Nat.le_of_ble_eq_true rfl) rfl ?_
  unfold Bs_threads
  refine s_iload_n (pc := 0) 1 dX10_threads_0 rfl rfl ?_
  refine s_callSTp (k := 1) (n := 6) (pc := 1) [.int v1] (fun w => []) (fun E => (Sum.inl E, P)) dX10_threads_1 (cS_X10_176 hG) (Nat.le_of_ble_eq_true rfl) rfl (Bs_checkInk_ok hG v1 P) rfl rfl (fun _ => rfl) (Nat.le_of_ble_eq_true rfl) rfl rfl (fun _ => rfl) (fun w1 => ?_)
  refine s_iload_n (pc := 4) 2 dX10_threads_4 rfl rfl ?_
  refine s_iconst (pc := 5) (v := 1) dX10_threads_5 rfl ?_
  refine s_icmp_lt (pc := 6) 15 dX10_threads_6 rfl ?_ ?_
  · refine s_sub [] rfl ?_
    exact Bs_threads_15_sem hG P
  · refine s_iload_n (pc := 9) 2 dX10_threads_9 rfl rfl ?_
    refine s_bipush (pc := 10) (v := 20) dX10_threads_10 rfl ?_
    refine s_icmp_le (pc := 12) 26 dX10_threads_12 rfl ?_ ?_
    · refine s_aload_n (pc := 26) 0 dX10_threads_26 rfl rfl ?_
      refine s_getR (pc := 27) 82 dX10_threads_27 (fi_X10_87 hG) kd_0 rfl ?_
      refine s_iload_n (pc := 30) 1 dX10_threads_30 rfl rfl ?_
      refine s_iload_n (pc := 31) 2 dX10_threads_31 rfl rfl ?_
      refine s_callV (k := 1) (n := 6) (pc := 32) [.int v1, .int v2] (fun x32 => .int (x32.1) :: []) (fun x32 => x32.2) dX10_threads_32 (cV_X10_313 hG) (Nat.le_of_ble_eq_true rfl) rfl kd_82 (Sh_fewestOf_ok hG v1 v2 P) rfl (fun _ => rfl) (fun _ => rfl) (Nat.le_of_ble_eq_true rfl) rfl rfl (fun x32 => ?_)
      exact s_iret (pc := 35) dX10_threads_35 rfl rfl
    · refine s_sub [] rfl ?_
      exact Bs_threads_15_sem hG P
def Bs_seen  (v1 : Int32) (P : PH) : Option (Int32) :=
  if v1 = 0 then
    (Jl_bitCount (P.2 43 1) P).bind fun (x21 : Int32) =>
    some x21
  else
    (Jl_bitCount (P.2 43 0) P).bind fun (x21 : Int32) =>
    some x21
set_option maxRecDepth 100000 in
set_option maxHeartbeats 4000000 in
theorem Bs_seen_ok {G : GT} {l : Launch} (hG : GOK G l)  (v1 : Int32) (P : PH) : OkN G l yX10_seen miX10_seen 0 0 (tI P) [.ref (gA G 0), .int v1] P (Bs_seen v1 P) := by
  refine okN_of hG _ [(0, .ref (gA G 0)), (1, .int v1)] rfl rfl rfl (Nat.le_of_ble_eq_true rfl) rfl ?_
  unfold Bs_seen
  refine s_iload_n (pc := 0) 1 dX10_seen_0 rfl rfl ?_
  refine s_if_eq (pc := 1) 14 dX10_seen_1 rfl ?_ ?_
  · refine s_aload_n (pc := 14) 0 dX10_seen_14 rfl rfl ?_
    refine s_getR (pc := 15) 43 dX10_seen_15 (fi_X10_61 hG) kd_0 rfl ?_
    refine s_getL (pc := 18) dX10_seen_18 (fi_X10_320 hG) kd_43 ?_
    refine s_callS (k := 0) (n := 0) (pc := 21) [.long (P.2 43 1)] (fun x21 => .int x21 :: []) (fun _ => P) dX10_seen_21 (cS_X10_167 hG) (Nat.le_of_ble_eq_true rfl) rfl (Jl_bitCount_ok hG (P.2 43 1) P) rfl (fun _ => rfl) (fun _ => rfl) (Nat.le_of_ble_eq_true rfl) rfl rfl (fun x21 => ?_)
    exact s_iret (pc := 24) dX10_seen_24 rfl rfl
  · refine s_aload_n (pc := 4) 0 dX10_seen_4 rfl rfl ?_
    refine s_getR (pc := 5) 43 dX10_seen_5 (fi_X10_61 hG) kd_0 rfl ?_
    refine s_getL (pc := 8) dX10_seen_8 (fi_X10_316 hG) kd_43 ?_
    refine s_goto (pc := 11) 21 dX10_seen_11 rfl ?_
    refine s_callS (k := 0) (n := 0) (pc := 21) [.long (P.2 43 0)] (fun x21 => .int x21 :: []) (fun _ => P) dX10_seen_21 (cS_X10_167 hG) (Nat.le_of_ble_eq_true rfl) rfl (Jl_bitCount_ok hG (P.2 43 0) P) rfl (fun _ => rfl) (fun _ => rfl) (Nat.le_of_ble_eq_true rfl) rfl rfl (fun x21 => ?_)
    exact s_iret (pc := 24) dX10_seen_24 rfl rfl
def Bs_same   (P : PH) : Option (Int32) :=
  if (lg_cmp (P.2 43 0) (P.2 43 1)) = 0 then
    gdP ((1 : Int32) = 0 ∨ (1 : Int32) = 1) <|
    some (1 : Int32)
  else
    gdP ((0 : Int32) = 0 ∨ (0 : Int32) = 1) <|
    some (0 : Int32)
set_option maxRecDepth 100000 in
set_option maxHeartbeats 4000000 in
theorem Bs_same_ok {G : GT} {l : Launch} (hG : GOK G l)   (P : PH) : OkN G l yX10_same miX10_same 0 0 (tI P) [.ref (gA G 0)] P (Bs_same P) := by
  refine okN_of hG _ [(0, .ref (gA G 0))] rfl rfl rfl (Nat.le_of_ble_eq_true rfl) rfl ?_
  unfold Bs_same
  refine s_aload_n (pc := 0) 0 dX10_same_0 rfl rfl ?_
  refine s_getR (pc := 1) 43 dX10_same_1 (fi_X10_61 hG) kd_0 rfl ?_
  refine s_getL (pc := 4) dX10_same_4 (fi_X10_316 hG) kd_43 ?_
  refine s_aload_n (pc := 7) 0 dX10_same_7 rfl rfl ?_
  refine s_getR (pc := 8) 43 dX10_same_8 (fi_X10_61 hG) kd_0 rfl ?_
  refine s_getL (pc := 11) dX10_same_11 (fi_X10_320 hG) kd_43 ?_
  refine s_lcmp (pc := 14) dX10_same_14 ?_
  refine s_if_ne (pc := 15) 22 dX10_same_15 rfl ?_ ?_
  · refine s_iconst (pc := 18) (v := 1) dX10_same_18 rfl ?_
    refine s_goto (pc := 19) 23 dX10_same_19 rfl ?_
    exact s_zret (pc := 23) dX10_same_23 rfl rfl
  · refine s_iconst (pc := 22) (v := 0) dX10_same_22 rfl ?_
    exact s_zret (pc := 23) dX10_same_23 rfl rfl
