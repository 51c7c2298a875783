def Un_trace_208  (r93 : Int32 → PH → Option (PH)) (v1 : Nat) (v2 : Int32) (v3 : Int32) (s0 : Int64) (s1 : Int32) (P : PH) : Option (PH) :=
  gdI s1 121 <|
  (some (sL P 80 s1.toNatClampNeg s0)).bind fun (P208 : PH) =>
  gdI v2 121 <|
  (Dr_otherEnd 3 v3 (P208.1 78 v2.toNatClampNeg) P208).bind fun (x227 : Int32) =>
  gdI (v2 + (1 : Int32)) 121 <|
  (some (sI P208 78 (v2 + (1 : Int32)).toNatClampNeg x227)).bind fun (P230 : PH) =>
  r93 (v2 + 1) P230
set_option maxRecDepth 100000 in
set_option maxHeartbeats 4000000 in
theorem Un_trace_208_sem {G : GT} {l : Launch} (hG : GOK G l)  (v1 : Nat) (hv1 : kd v1 = 2) (v2 : Int32) (v3 : Int32) (s0 : Int64) (s1 : Int32) (P : PH)  (r93 : Int32 → PH → Option (PH)) (hr93 : ∀ (v2 : Int32) (P : PH), Sem G l miX9_trace 0 0 (rn tVH) 93 [(0, .ref (gA G 77)), (1, .ref (gA G v1)), (2, .int v2)] [] P (r93 v2 P)) : Sem G l miX9_trace 0 0 (rn tVH) 208 [(0, .ref (gA G 77)), (1, .ref (gA G v1)), (2, .int v2), (3, .int v3)] [.long s0, .int s1, .ref (gA G 80)] P (Un_trace_208 r93 v1 v2 v3 s0 s1 P) := by
  unfold Un_trace_208
  refine s_last (pc := 208) 121 dX9_trace_208 kd_80 ln_80 ?_
  refine s_letP (fun P208 => ?_)
  refine s_aload_n (pc := 209) 0 dX9_trace_209 rfl rfl ?_
  refine s_getR (pc := 210) 78 dX9_trace_210 (fi_X9_9 hG) kd_77 rfl ?_
  refine s_iload_n (pc := 213) 2 dX9_trace_213 rfl rfl ?_
  refine s_iconst (pc := 214) (v := 1) dX9_trace_214 rfl ?_
  refine s_iadd (pc := 215) dX9_trace_215 ?_
  refine s_aload_n (pc := 216) 0 dX9_trace_216 rfl rfl ?_
  refine s_getR (pc := 217) 3 dX9_trace_217 (fi_X9_25 hG) kd_77 rfl ?_
  refine s_iload_n (pc := 220) 3 dX9_trace_220 rfl rfl ?_
  refine s_aload_n (pc := 221) 0 dX9_trace_221 rfl rfl ?_
  refine s_getR (pc := 222) 78 dX9_trace_222 (fi_X9_9 hG) kd_77 rfl ?_
  refine s_iload_n (pc := 225) 2 dX9_trace_225 rfl rfl ?_
  refine s_iald (pc := 226) 121 dX9_trace_226 kd_78 ln_78 ?_
  refine s_callV (k := 0) (n := 0) (pc := 227) [.int v3, .int (P208.1 78 v2.toNatClampNeg)] (fun x227 => .int x227 :: [.int (v2 + (1 : Int32)), .ref (gA G 78)]) (fun _ => P208) dX9_trace_227 (cV_X9_111 hG) (Nat.le_of_ble_eq_true rfl) rfl kd_3 (Dr_otherEnd_ok hG 3 kd_3 v3 (P208.1 78 v2.toNatClampNeg) P208) rfl (fun _ => rfl) (fun _ => rfl) (Nat.le_of_ble_eq_true rfl) rfl rfl (fun x227 => ?_)
  refine s_iast (pc := 230) 121 dX9_trace_230 kd_78 ln_78 ?_
  refine s_letP (fun P230 => ?_)
  refine s_iinc (pc := 231) 2 1 [(2, .int (v2 + 1)), (0, .ref (gA G 77)), (1, .ref (gA G v1)), (3, .int v3)] dX9_trace_231 rfl rfl (Nat.le_of_ble_eq_true rfl) rfl ?_
  refine s_goto (pc := 234) 93 dX9_trace_234 rfl ?_
  refine s_sub [1, 2, 0] rfl ?_
  exact hr93 (v2 + 1) P230
def Un_trace_177  (r93 : Int32 → PH → Option (PH)) (v1 : Nat) (v2 : Int32) (v3 : Int32) (v4 : Int64) (v6 : Int32) (s0 : Int64) (s1 : Int32) (P : PH) : Option (PH) :=
  gdI s1 121 <|
  (some (sL P 79 s1.toNatClampNeg s0)).bind fun (P177 : PH) =>
  if v6 = 0 then
    gdI v2 121 <|
    Un_trace_208 r93 v1 v2 v3 ((P177.2 80 v2.toNatClampNeg) ||| v4) (v2 + (1 : Int32)) P177
  else
    gdI v2 121 <|
    Un_trace_208 r93 v1 v2 v3 (P177.2 80 v2.toNatClampNeg) (v2 + (1 : Int32)) P177
set_option maxRecDepth 100000 in
set_option maxHeartbeats 4000000 in
theorem Un_trace_177_sem {G : GT} {l : Launch} (hG : GOK G l)  (v1 : Nat) (hv1 : kd v1 = 2) (v2 : Int32) (v3 : Int32) (v4 : Int64) (v6 : Int32) (s0 : Int64) (s1 : Int32) (P : PH)  (r93 : Int32 → PH → Option (PH)) (hr93 : ∀ (v2 : Int32) (P : PH), Sem G l miX9_trace 0 0 (rn tVH) 93 [(0, .ref (gA G 77)), (1, .ref (gA G v1)), (2, .int v2)] [] P (r93 v2 P)) : Sem G l miX9_trace 0 0 (rn tVH) 177 [(0, .ref (gA G 77)), (1, .ref (gA G v1)), (2, .int v2), (3, .int v3), (4, .long v4), (6, .int v6)] [.long s0, .int s1, .ref (gA G 79)] P (Un_trace_177 r93 v1 v2 v3 v4 v6 s0 s1 P) := by
  unfold Un_trace_177
  refine s_last (pc := 177) 121 dX9_trace_177 kd_79 ln_79 ?_
  refine s_letP (fun P177 => ?_)
  refine s_aload_n (pc := 178) 0 dX9_trace_178 rfl rfl ?_
  refine s_getR (pc := 179) 80 dX9_trace_179 (fi_X9_19 hG) kd_77 rfl ?_
  refine s_iload_n (pc := 182) 2 dX9_trace_182 rfl rfl ?_
  refine s_iconst (pc := 183) (v := 1) dX9_trace_183 rfl ?_
  refine s_iadd (pc := 184) dX9_trace_184 ?_
  refine s_iload (pc := 185) 5 dX9_trace_185 rfl ?_
  refine s_if_eq (pc := 187) 199 dX9_trace_187 rfl ?_ ?_
  · refine s_aload_n (pc := 199) 0 dX9_trace_199 rfl rfl ?_
    refine s_getR (pc := 200) 80 dX9_trace_200 (fi_X9_19 hG) kd_77 rfl ?_
    refine s_iload_n (pc := 203) 2 dX9_trace_203 rfl rfl ?_
    refine s_lald (pc := 204) 121 dX9_trace_204 kd_80 ln_80 ?_
    refine s_lload (pc := 205) 4 dX9_trace_205 rfl ?_
    refine s_lor (pc := 207) dX9_trace_207 ?_
    refine s_sub [0, 1, 2, 3] rfl ?_
    exact Un_trace_208_sem hG v1 hv1 v2 v3 ((P177.2 80 v2.toNatClampNeg) ||| v4) (v2 + (1 : Int32)) P177 r93 hr93
  · refine s_aload_n (pc := 190) 0 dX9_trace_190 rfl rfl ?_
    refine s_getR (pc := 191) 80 dX9_trace_191 (fi_X9_19 hG) kd_77 rfl ?_
    refine s_iload_n (pc := 194) 2 dX9_trace_194 rfl rfl ?_
    refine s_lald (pc := 195) 121 dX9_trace_195 kd_80 ln_80 ?_
    refine s_goto (pc := 196) 208 dX9_trace_196 rfl ?_
    refine s_sub [0, 1, 2, 3] rfl ?_
    exact Un_trace_208_sem hG v1 hv1 v2 v3 (P177.2 80 v2.toNatClampNeg) (v2 + (1 : Int32)) P177 r93 hr93
def Un_trace_138  (r93 : Int32 → PH → Option (PH)) (v1 : Nat) (v2 : Int32) (v3 : Int32) (s0 : Int64) (P : PH) : Option (PH) :=
  (Un_goesOver v2 P).bind fun (x142 : Int32) =>
  if x142 = 0 then
    gdI v2 121 <|
    Un_trace_177 r93 v1 v2 v3 s0 x142 (P.2 79 v2.toNatClampNeg) (v2 + (1 : Int32)) P
  else
    gdI v2 121 <|
    Un_trace_177 r93 v1 v2 v3 s0 x142 ((P.2 79 v2.toNatClampNeg) ||| s0) (v2 + (1 : Int32)) P
set_option maxRecDepth 100000 in
set_option maxHeartbeats 4000000 in
theorem Un_trace_138_sem {G : GT} {l : Launch} (hG : GOK G l)  (v1 : Nat) (hv1 : kd v1 = 2) (v2 : Int32) (v3 : Int32) (s0 : Int64) (P : PH)  (r93 : Int32 → PH → Option (PH)) (hr93 : ∀ (v2 : Int32) (P : PH), Sem G l miX9_trace 0 0 (rn tVH) 93 [(0, .ref (gA G 77)), (1, .ref (gA G v1)), (2, .int v2)] [] P (r93 v2 P)) : Sem G l miX9_trace 0 0 (rn tVH) 138 [(0, .ref (gA G 77)), (1, .ref (gA G v1)), (2, .int v2), (3, .int v3)] [.long s0] P (Un_trace_138 r93 v1 v2 v3 s0 P) := by
  unfold Un_trace_138
  refine s_lstore (pc := 138) [(4, .long s0), (0, .ref (gA G 77)), (1, .ref (gA G v1)), (2, .int v2), (3, .int v3)] dX9_trace_138 (Nat.le_of_ble_eq_true rfl) rfl ?_
  refine s_aload_n (pc := 140) 1 dX9_trace_140 rfl rfl ?_
  refine s_iload_n (pc := 141) 3 dX9_trace_141 rfl rfl ?_
  refine s_callV (k := 0) (n := 0) (pc := 142) [.int v2] (fun x142 => .int x142 :: []) (fun _ => P) dX9_trace_142 (cV_X9_107 hG) (Nat.le_of_ble_eq_true rfl) rfl kd_77 (Un_goesOver_ok hG v2 P) rfl (fun _ => rfl) (fun _ => rfl) (Nat.le_of_ble_eq_true rfl) rfl rfl (fun x142 => ?_)
  refine s_istore (pc := 145) [(6, .int x142), (4, .long s0), (0, .ref (gA G 77)), (1, .ref (gA G v1)), (2, .int v2), (3, .int v3)] dX9_trace_145 (Nat.le_of_ble_eq_true rfl) rfl ?_
  refine s_aload_n (pc := 147) 2 dX9_trace_147 rfl rfl ?_
  refine s_getR (pc := 148) 79 dX9_trace_148 (fi_X9_15 hG) kd_77 rfl ?_
  refine s_iload_n (pc := 151) 4 dX9_trace_151 rfl rfl ?_
  refine s_iconst (pc := 152) (v := 1) dX9_trace_152 rfl ?_
  refine s_iadd (pc := 153) dX9_trace_153 ?_
  refine s_iload (pc := 154) 0 dX9_trace_154 rfl ?_
  refine s_if_eq (pc := 156) 171 dX9_trace_156 rfl ?_ ?_
  · refine s_aload_n (pc := 171) 2 dX9_trace_171 rfl rfl ?_
    refine s_getR (pc := 172) 79 dX9_trace_172 (fi_X9_15 hG) kd_77 rfl ?_
    refine s_iload_n (pc := 175) 4 dX9_trace_175 rfl rfl ?_
    refine s_lald (pc := 176) 121 dX9_trace_176 kd_79 ln_79 ?_
    refine s_sub [2, 3, 4, 5, 1, 0] rfl ?_
    exact Un_trace_177_sem hG v1 hv1 v2 v3 s0 x142 (P.2 79 v2.toNatClampNeg) (v2 + (1 : Int32)) P r93 hr93
  · refine s_aload_n (pc := 159) 2 dX9_trace_159 rfl rfl ?_
    refine s_getR (pc := 160) 79 dX9_trace_160 (fi_X9_15 hG) kd_77 rfl ?_
    refine s_iload_n (pc := 163) 4 dX9_trace_163 rfl rfl ?_
    refine s_lald (pc := 164) 121 dX9_trace_164 kd_79 ln_79 ?_
    refine s_lload (pc := 165) 1 dX9_trace_165 rfl ?_
    refine s_lor (pc := 167) dX9_trace_167 ?_
    refine s_goto (pc := 168) 177 dX9_trace_168 rfl ?_
    refine s_sub [2, 3, 4, 5, 1, 0] rfl ?_
    exact Un_trace_177_sem hG v1 hv1 v2 v3 s0 x142 ((P.2 79 v2.toNatClampNeg) ||| s0) (v2 + (1 : Int32)) P r93 hr93
def Un_trace_93   (v1 : Nat)  : Nat → Int32 → PH → Option (PH)
  | 0 => fun _ _ => none
  | n + 1 => fun v2 P =>
    if (P.1 77 8) ≤ v2 then
      some P
    else
      if (120 : Int32) ≤ v2 then
        some P
      else
        gdI v2 121 <|
        (Ne_wayOf v1 v2 P).bind fun (x119 : Int32) =>
        (Dr_lineBy 3 (P.1 78 v2.toNatClampNeg) x119 P).bind fun (x122 : Int32) =>
        if x122 = (-1 : Int32) then
          Un_trace_138 (Un_trace_93 v1 n) v1 v2 x122 (0 : Int64) P
        else
          Un_trace_138 (Un_trace_93 v1 n) v1 v2 x122 ((1 : Int64) <<< (x122.toInt64 &&& 63)) P
set_option maxRecDepth 100000 in
set_option maxHeartbeats 4000000 in
theorem Un_trace_93_sem {G : GT} {l : Launch} (hG : GOK G l)  (v1 : Nat) (hv1 : kd v1 = 2)    : ∀ (n : Nat) (v2 : Int32) (P : PH), Sem G l miX9_trace 0 0 (rn tVH) 93 [(0, .ref (gA G 77)), (1, .ref (gA G v1)), (2, .int v2)] [] P (Un_trace_93 v1 n v2 P) := by
  intro n
  induction n with
  | zero => intro v2 P; exact s_none rfl
  | succ n ih =>
    intro v2 P
    rw [Un_trace_93]
    refine s_iload_n (pc := 93) 2 dX9_trace_93 rfl rfl ?_
    refine s_aload_n (pc := 94) 0 dX9_trace_94 rfl rfl ?_
    refine s_getI (pc := 95) dX9_trace_95 (fi_X9_44 hG) kd_77 ?_
    refine s_icmp_ge (pc := 98) 237 dX9_trace_98 rfl ?_ ?_
    · exact s_vret (pc := 237) dX9_trace_237 rfl rfl
    · refine s_iload_n (pc := 101) 2 dX9_trace_101 rfl rfl ?_
      refine s_bipush (pc := 102) (v := 120) dX9_trace_102 rfl ?_
      refine s_icmp_ge (pc := 104) 237 dX9_trace_104 rfl ?_ ?_
      · exact s_vret (pc := 237) dX9_trace_237 rfl rfl
      · refine s_aload_n (pc := 107) 0 dX9_trace_107 rfl rfl ?_
        refine s_getR (pc := 108) 3 dX9_trace_108 (fi_X9_25 hG) kd_77 rfl ?_
        refine s_aload_n (pc := 111) 0 dX9_trace_111 rfl rfl ?_
        refine s_getR (pc := 112) 78 dX9_trace_112 (fi_X9_9 hG) kd_77 rfl ?_
        refine s_iload_n (pc := 115) 2 dX9_trace_115 rfl rfl ?_
        refine s_iald (pc := 116) 121 dX9_trace_116 kd_78 ln_78 ?_
        refine s_aload_n (pc := 117) 1 dX9_trace_117 rfl rfl ?_
        refine s_iload_n (pc := 118) 2 dX9_trace_118 rfl rfl ?_
        refine s_callV (k := 0) (n := 0) (pc := 119) [.int v2] (fun x119 => .int x119 :: [.int (P.1 78 v2.toNatClampNeg), .ref (gA G 3)]) (fun _ => P) dX9_trace_119 (cV_X9_98 hG) (Nat.le_of_ble_eq_true rfl) rfl hv1 (Ne_wayOf_ok hG v1 hv1 v2 P) rfl (fun _ => rfl) (fun _ => rfl) (Nat.le_of_ble_eq_true rfl) rfl rfl (fun x119 => ?_)
        refine s_callV (k := 0) (n := 0) (pc := 122) [.int (P.1 78 v2.toNatClampNeg), .int x119] (fun x122 => .int x122 :: []) (fun _ => P) dX9_trace_122 (cV_X9_102 hG) (Nat.le_of_ble_eq_true rfl) rfl kd_3 (Dr_lineBy_ok hG 3 kd_3 (P.1 78 v2.toNatClampNeg) x119 P) rfl (fun _ => rfl) (fun _ => rfl) (Nat.le_of_ble_eq_true rfl) rfl rfl (fun x122 => ?_)
        refine s_istore_n (pc := 125) [(3, .int x122), (0, .ref (gA G 77)), (1, .ref (gA G v1)), (2, .int v2)] dX9_trace_125 rfl (Nat.le_of_ble_eq_true rfl) rfl ?_
        refine s_iload_n (pc := 126) 0 dX9_trace_126 rfl rfl ?_
        refine s_iconst (pc := 127) (v := -1) dX9_trace_127 rfl ?_
        refine s_icmp_ne (pc := 128) 135 dX9_trace_128 rfl ?_ ?_
        · refine s_lconst (pc := 131) (v := 0) dX9_trace_131 rfl ?_
          refine s_goto (pc := 132) 138 dX9_trace_132 rfl ?_
          refine s_sub [1, 2, 3, 0] rfl ?_
          exact Un_trace_138_sem hG v1 hv1 v2 x122 (0 : Int64) P (Un_trace_93 v1 n) ih
        · refine s_lconst (pc := 135) (v := 1) dX9_trace_135 rfl ?_
          refine s_iload_n (pc := 136) 0 dX9_trace_136 rfl rfl ?_
          refine s_lshl (pc := 137) dX9_trace_137 ?_
          refine s_sub [1, 2, 3, 0] rfl ?_
          exact Un_trace_138_sem hG v1 hv1 v2 x122 ((1 : Int64) <<< (x122.toInt64 &&& 63)) P (Un_trace_93 v1 n) ih
def Un_trace_40   (v1 : Nat) (s0 : Int32) (P : PH) : Option (PH) :=
  gdP (s0 = 0 ∨ s0 = 1) <|
  (some (sI P 77 9 s0)).bind fun (P40 : PH) =>
  (Ne_openOver v1 (P40.1 v1 3) P40).bind fun (x49 : Int64) =>
  (some (sL P40 77 10 x49)).bind fun (P52 : PH) =>
  (Ne_openUnder v1 (P52.1 v1 3) P52).bind fun (x61 : Int64) =>
  (some (sL P52 77 11 x61)).bind fun (P64 : PH) =>
  gdI (0 : Int32) 121 <|
  (some (sI P64 78 (0 : Int32).toNatClampNeg (P64.1 v1 4))).bind fun (P76 : PH) =>
  gdI (0 : Int32) 121 <|
  (some (sL P76 79 (0 : Int32).toNatClampNeg (0 : Int64))).bind fun (P83 : PH) =>
  gdI (0 : Int32) 121 <|
  (some (sL P83 80 (0 : Int32).toNatClampNeg (0 : Int64))).bind fun (P90 : PH) =>
  Un_trace_93 v1 bigN (0 : Int32) P90
set_option maxRecDepth 100000 in
set_option maxHeartbeats 4000000 in
theorem Un_trace_40_sem {G : GT} {l : Launch} (hG : GOK G l)  (v1 : Nat) (hv1 : kd v1 = 2) (s0 : Int32) (P : PH)   : Sem G l miX9_trace 0 0 (rn tVH) 40 [(0, .ref (gA G 77)), (1, .ref (gA G v1))] [.int s0, .ref (gA G 77)] P (Un_trace_40 v1 s0 P) := by
  unfold Un_trace_40
  refine s_putZ (pc := 40) dX9_trace_40 (fp_X9_76 hG) kd_77 ?_
  refine s_letP (fun P40 => ?_)
  refine s_aload_n (pc := 43) 0 dX9_trace_43 rfl rfl ?_
  refine s_aload_n (pc := 44) 1 dX9_trace_44 rfl rfl ?_
  refine s_aload_n (pc := 45) 1 dX9_trace_45 rfl rfl ?_
  refine s_getI (pc := 46) dX9_trace_46 (fi_X9_80 hG) hv1 ?_
  refine s_callV (k := 0) (n := 0) (pc := 49) [.int (P40.1 v1 3)] (fun x49 => .long x49 :: [.ref (gA G 77)]) (fun _ => P40) dX9_trace_49 (cV_X9_83 hG) (Nat.le_of_ble_eq_true rfl) rfl hv1 (Ne_openOver_ok hG v1 hv1 (P40.1 v1 3) P40) rfl (fun _ => rfl) (fun _ => rfl) (Nat.le_of_ble_eq_true rfl) rfl rfl (fun x49 => ?_)
  refine s_putL (pc := 52) dX9_trace_52 (fp_X9_87 hG) kd_77 ?_
  refine s_letP (fun P52 => ?_)
  refine s_aload_n (pc := 55) 0 dX9_trace_55 rfl rfl ?_
  refine s_aload_n (pc := 56) 1 dX9_trace_56 rfl rfl ?_
  refine s_aload_n (pc := 57) 1 dX9_trace_57 rfl rfl ?_
  refine s_getI (pc := 58) dX9_trace_58 (fi_X9_80 hG) hv1 ?_
  refine s_callV (k := 0) (n := 0) (pc := 61) [.int (P52.1 v1 3)] (fun x61 => .long x61 :: [.ref (gA G 77)]) (fun _ => P52) dX9_trace_61 (cV_X9_90 hG) (Nat.le_of_ble_eq_true rfl) rfl hv1 (Ne_openUnder_ok hG v1 hv1 (P52.1 v1 3) P52) rfl (fun _ => rfl) (fun _ => rfl) (Nat.le_of_ble_eq_true rfl) rfl rfl (fun x61 => ?_)
  refine s_putL (pc := 64) dX9_trace_64 (fp_X9_93 hG) kd_77 ?_
  refine s_letP (fun P64 => ?_)
  refine s_aload_n (pc := 67) 0 dX9_trace_67 rfl rfl ?_
  refine s_getR (pc := 68) 78 dX9_trace_68 (fi_X9_9 hG) kd_77 rfl ?_
  refine s_iconst (pc := 71) (v := 0) dX9_trace_71 rfl ?_
  refine s_aload_n (pc := 72) 1 dX9_trace_72 rfl rfl ?_
  refine s_getI (pc := 73) dX9_trace_73 (fi_X9_95 hG) hv1 ?_
  refine s_iast (pc := 76) 121 dX9_trace_76 kd_78 ln_78 ?_
  refine s_letP (fun P76 => ?_)
  refine s_aload_n (pc := 77) 0 dX9_trace_77 rfl rfl ?_
  refine s_getR (pc := 78) 79 dX9_trace_78 (fi_X9_15 hG) kd_77 rfl ?_
  refine s_iconst (pc := 81) (v := 0) dX9_trace_81 rfl ?_
  refine s_lconst (pc := 82) (v := 0) dX9_trace_82 rfl ?_
  refine s_last (pc := 83) 121 dX9_trace_83 kd_79 ln_79 ?_
  refine s_letP (fun P83 => ?_)
  refine s_aload_n (pc := 84) 0 dX9_trace_84 rfl rfl ?_
  refine s_getR (pc := 85) 80 dX9_trace_85 (fi_X9_19 hG) kd_77 rfl ?_
  refine s_iconst (pc := 88) (v := 0) dX9_trace_88 rfl ?_
  refine s_lconst (pc := 89) (v := 0) dX9_trace_89 rfl ?_
  refine s_last (pc := 90) 121 dX9_trace_90 kd_80 ln_80 ?_
  refine s_letP (fun P90 => ?_)
  refine s_iconst (pc := 91) (v := 0) dX9_trace_91 rfl ?_
  refine s_istore_n (pc := 92) [(2, .int ((0 : Int32))), (0, .ref (gA G 77)), (1, .ref (gA G v1))] dX9_trace_92 rfl (Nat.le_of_ble_eq_true rfl) rfl ?_
  refine s_sub [1, 2, 0] rfl ?_
  exact Un_trace_93_sem hG v1 hv1 bigN (0 : Int32) P90
def Un_trace  (v1 : Nat) (P : PH) : Option (PH) :=
  (some (sI P 77 8 (jMin (P.1 v1 6) (120 : Int32)))).bind fun (P10 : PH) =>
  (Ne_nextOver v1 P10).bind fun (x15 : Int32) =>
  if ((P10.1 77 8) &&& (1 : Int32)) = 0 then
    if x15 = (1 : Int32) then
      Un_trace_40 v1 (1 : Int32) P10
    else
      Un_trace_40 v1 (0 : Int32) P10
  else
    if x15 = (0 : Int32) then
      Un_trace_40 v1 (1 : Int32) P10
    else
      Un_trace_40 v1 (0 : Int32) P10
set_option maxRecDepth 100000 in
set_option maxHeartbeats 4000000 in
theorem Un_trace_ok {G : GT} {l : Launch} (hG : GOK G l)  (v1 : Nat) (hv1 : kd v1 = 2) (P : PH) : OkN G l yX9_trace miX9_trace 0 0 tVH [.ref (gA G 77), .ref (gA G v1)] P (Un_trace v1 P) := by
  refine okN_of hG _ [(0, .ref (gA G 77)), (1, .ref (gA G v1))] rfl rfl rfl (Nat.le_of_ble_eq_true rfl) rfl ?_
  unfold Un_trace
  refine s_aload_n (pc := 0) 0 dX9_trace_0 rfl rfl ?_
  refine s_aload_n (pc := 1) 1 dX9_trace_1 rfl rfl ?_
  refine s_getI (pc := 2) dX9_trace_2 (fi_X9_64 hG) hv1 ?_
  refine s_bipush (pc := 5) (v := 120) dX9_trace_5 rfl ?_
  refine s_mmin (pc := 7) dX9_trace_7 (mk_X9_67 hG) (Nat.le_of_ble_eq_true rfl) (Nat.le_of_ble_eq_true rfl) ?_
  refine s_putI (pc := 10) dX9_trace_10 (fp_X9_44 hG) kd_77 ?_
  refine s_letP (fun P10 => ?_)
  refine s_aload_n (pc := 13) 0 dX9_trace_13 rfl rfl ?_
  refine s_aload_n (pc := 14) 1 dX9_trace_14 rfl rfl ?_
  refine s_callV (k := 0) (n := 0) (pc := 15) [] (fun x15 => .int x15 :: [.ref (gA G 77)]) (fun _ => P10) dX9_trace_15 (cV_X9_73 hG) (Nat.le_of_ble_eq_true rfl) rfl hv1 (Ne_nextOver_ok hG v1 hv1 P10) rfl (fun _ => rfl) (fun _ => rfl) (Nat.le_of_ble_eq_true rfl) rfl rfl (fun x15 => ?_)
  refine s_aload_n (pc := 18) 0 dX9_trace_18 rfl rfl ?_
  refine s_getI (pc := 19) dX9_trace_19 (fi_X9_44 hG) kd_77 ?_
  refine s_iconst (pc := 22) (v := 1) dX9_trace_22 rfl ?_
  refine s_iand (pc := 23) dX9_trace_23 ?_
  refine s_if_ne (pc := 24) 31 dX9_trace_24 rfl ?_ ?_
  · refine s_iconst (pc := 27) (v := 1) dX9_trace_27 rfl ?_
    refine s_goto (pc := 28) 32 dX9_trace_28 rfl ?_
    refine s_icmp_ne (pc := 32) 39 dX9_trace_32 rfl ?_ ?_
    · refine s_iconst (pc := 35) (v := 1) dX9_trace_35 rfl ?_
      refine s_goto (pc := 36) 40 dX9_trace_36 rfl ?_
      exact Un_trace_40_sem hG v1 hv1 (1 : Int32) P10
    · refine s_iconst (pc := 39) (v := 0) dX9_trace_39 rfl ?_
      exact Un_trace_40_sem hG v1 hv1 (0 : Int32) P10
  · refine s_iconst (pc := 31) (v := 0) dX9_trace_31 rfl ?_
    refine s_icmp_ne (pc := 32) 39 dX9_trace_32 rfl ?_ ?_
    · refine s_iconst (pc := 35) (v := 1) dX9_trace_35 rfl ?_
      refine s_goto (pc := 36) 40 dX9_trace_36 rfl ?_
      exact Un_trace_40_sem hG v1 hv1 (1 : Int32) P10
    · refine s_iconst (pc := 39) (v := 0) dX9_trace_39 rfl ?_
      exact Un_trace_40_sem hG v1 hv1 (0 : Int32) P10
def Un_find_115  (r80 : Int32 → PH → Option (PH)) (v2 : Int32) (v3 : Int32) (s0 : Int32) (s1 : Int32) (P : PH) : Option (PH) :=
  (Un_findOf s1 s0 P).bind fun (x115 : PH) =>
  r80 (v3 + 1) x115
set_option maxRecDepth 100000 in
set_option maxHeartbeats 4000000 in
theorem Un_find_115_sem {G : GT} {l : Launch} (hG : GOK G l)  (v2 : Int32) (v3 : Int32) (s0 : Int32) (s1 : Int32) (P : PH)  (r80 : Int32 → PH → Option (PH)) (hr80 : ∀ (v3 : Int32) (P : PH), Sem G l miX9_find 0 0 (rn tVH) 80 [(0, .ref (gA G 77)), (2, .int v2), (3, .int v3)] [] P (r80 v3 P)) : Sem G l miX9_find 0 0 (rn tVH) 115 [(0, .ref (gA G 77)), (2, .int v2), (3, .int v3)] [.int s0, .int s1, .ref (gA G 77)] P (Un_find_115 r80 v2 v3 s0 s1 P) := by
  unfold Un_find_115
  refine s_callV (k := 0) (n := 0) (pc := 115) [.int s1, .int s0] (fun _ => []) (fun x115 => x115) dX9_find_115 (cV_X9_57 hG) (Nat.le_of_ble_eq_true rfl) rfl kd_77 (Un_findOf_ok hG s1 s0 P) rfl (fun _ => rfl) (fun _ => rfl) (Nat.le_of_ble_eq_true rfl) rfl rfl (fun x115 => ?_)
  refine s_iinc (pc := 118) 2 1 [(3, .int (v3 + 1)), (0, .ref (gA G 77)), (2, .int v2)] dX9_find_118 rfl rfl (Nat.le_of_ble_eq_true rfl) rfl ?_
  refine s_goto (pc := 121) 80 dX9_find_121 rfl ?_
  refine s_sub [1, 2, 0] rfl ?_
  exact hr80 (v3 + 1) x115
def Un_find_80   (v2 : Int32)  : Nat → Int32 → PH → Option (PH)
  | 0 => fun _ _ => none
  | n + 1 => fun v3 P =>
    if (P.1 77 8) < v3 then
      some P
    else
      if (P.1 77 0) = (-1 : Int32) then
        if v2 = 0 then
          Un_find_115 (Un_find_80 v2 n) v2 v3 (0 : Int32) v3 P
        else
          if (P.1 77 8) ≤ v3 then
            Un_find_115 (Un_find_80 v2 n) v2 v3 (0 : Int32) v3 P
          else
            Un_find_115 (Un_find_80 v2 n) v2 v3 v3 v3 P
      else
        some P
set_option maxRecDepth 100000 in
set_option maxHeartbeats 4000000 in
theorem Un_find_80_sem {G : GT} {l : Launch} (hG : GOK G l)  (v2 : Int32)    : ∀ (n : Nat) (v3 : Int32) (P : PH), Sem G l miX9_find 0 0 (rn tVH) 80 [(0, .ref (gA G 77)), (2, .int v2), (3, .int v3)] [] P (Un_find_80 v2 n v3 P) := by
  intro n
  induction n with
  | zero => intro v3 P; exact s_none rfl
  | succ n ih =>
    intro v3 P
    rw [Un_find_80]
    refine s_iload_n (pc := 80) 2 dX9_find_80 rfl rfl ?_
    refine s_aload_n (pc := 81) 0 dX9_find_81 rfl rfl ?_
    refine s_getI (pc := 82) dX9_find_82 (fi_X9_44 hG) kd_77 ?_
    refine s_icmp_gt (pc := 85) 124 dX9_find_85 rfl ?_ ?_
    · exact s_vret (pc := 124) dX9_find_124 rfl rfl
    · refine s_aload_n (pc := 88) 0 dX9_find_88 rfl rfl ?_
      refine s_getI (pc := 89) dX9_find_89 (fi_X9_37 hG) kd_77 ?_
      refine s_iconst (pc := 92) (v := -1) dX9_find_92 rfl ?_
      refine s_icmp_ne (pc := 93) 124 dX9_find_93 rfl ?_ ?_
      · refine s_aload_n (pc := 96) 0 dX9_find_96 rfl rfl ?_
        refine s_iload_n (pc := 97) 2 dX9_find_97 rfl rfl ?_
        refine s_iload_n (pc := 98) 1 dX9_find_98 rfl rfl ?_
        refine s_if_eq (pc := 99) 114 dX9_find_99 rfl ?_ ?_
        · refine s_iconst (pc := 114) (v := 0) dX9_find_114 rfl ?_
          exact Un_find_115_sem hG v2 v3 (0 : Int32) v3 P (Un_find_80 v2 n) ih
        · refine s_iload_n (pc := 102) 2 dX9_find_102 rfl rfl ?_
          refine s_aload_n (pc := 103) 0 dX9_find_103 rfl rfl ?_
          refine s_getI (pc := 104) dX9_find_104 (fi_X9_44 hG) kd_77 ?_
          refine s_icmp_ge (pc := 107) 114 dX9_find_107 rfl ?_ ?_
          · refine s_iconst (pc := 114) (v := 0) dX9_find_114 rfl ?_
            exact Un_find_115_sem hG v2 v3 (0 : Int32) v3 P (Un_find_80 v2 n) ih
          · refine s_iload_n (pc := 110) 2 dX9_find_110 rfl rfl ?_
            refine s_goto (pc := 111) 115 dX9_find_111 rfl ?_
            exact Un_find_115_sem hG v2 v3 v3 v3 P (Un_find_80 v2 n) ih
      · exact s_vret (pc := 124) dX9_find_124 rfl rfl
def Un_find_47  (r17 : Int32 → PH → Option (PH)) (v2 : Int32) (v3 : Int32) (s0 : Int32) (P : PH) : Option (PH) :=
  (Un_put v3 (0 : Int32) P).bind fun (x50 : Int32 × PH) =>
  if x50.1 = 0 then
    gdI s0 121 <|
    (some (sI x50.2 81 s0.toNatClampNeg (0 : Int32))).bind fun (P71 : PH) =>
    r17 (v3 + 1) P71
  else
    (Rs_matches x50.2).bind fun (x60 : Int32 × PH) =>
    if x60.1 = 0 then
      gdI s0 121 <|
      (some (sI x60.2 81 s0.toNatClampNeg (0 : Int32))).bind fun (P71 : PH) =>
      r17 (v3 + 1) P71
    else
      gdI s0 121 <|
      (some (sI x60.2 81 s0.toNatClampNeg (1 : Int32))).bind fun (P71 : PH) =>
      r17 (v3 + 1) P71
set_option maxRecDepth 100000 in
set_option maxHeartbeats 4000000 in
theorem Un_find_47_sem {G : GT} {l : Launch} (hG : GOK G l)  (v2 : Int32) (v3 : Int32) (s0 : Int32) (P : PH)  (r17 : Int32 → PH → Option (PH)) (hr17 : ∀ (v3 : Int32) (P : PH), Sem G l miX9_find 0 0 (rn tVH) 17 [(0, .ref (gA G 77)), (2, .int v2), (3, .int v3)] [] P (r17 v3 P)) : Sem G l miX9_find 0 0 (rn tVH) 47 [(0, .ref (gA G 77)), (2, .int v2), (3, .int v3)] [.int s0, .ref (gA G 81)] P (Un_find_47 r17 v2 v3 s0 P) := by
  unfold Un_find_47
  refine s_aload_n (pc := 47) 0 dX9_find_47 rfl rfl ?_
  refine s_iload_n (pc := 48) 2 dX9_find_48 rfl rfl ?_
  refine s_iconst (pc := 49) (v := 0) dX9_find_49 rfl ?_
  refine s_callV (k := 0) (n := 0) (pc := 50) [.int v3, .int ((0 : Int32))] (fun x50 => .int (x50.1) :: [.int s0, .ref (gA G 81)]) (fun x50 => x50.2) dX9_find_50 (cV_X9_47 hG) (Nat.le_of_ble_eq_true rfl) rfl kd_77 (Un_put_ok hG v3 (0 : Int32) P) rfl (fun _ => rfl) (fun _ => rfl) (Nat.le_of_ble_eq_true rfl) rfl rfl (fun x50 => ?_)
  refine s_if_eq (pc := 53) 70 dX9_find_53 rfl ?_ ?_
  · refine s_iconst (pc := 70) (v := 0) dX9_find_70 rfl ?_
    refine s_iast (pc := 71) 121 dX9_find_71 kd_81 ln_81 ?_
    refine s_letP (fun P71 => ?_)
    refine s_iinc (pc := 72) 2 1 [(3, .int (v3 + 1)), (0, .ref (gA G 77)), (2, .int v2)] dX9_find_72 rfl rfl (Nat.le_of_ble_eq_true rfl) rfl ?_
    refine s_goto (pc := 75) 17 dX9_find_75 rfl ?_
    refine s_sub [1, 2, 0] rfl ?_
    exact hr17 (v3 + 1) P71
  · refine s_aload_n (pc := 56) 0 dX9_find_56 rfl rfl ?_
    refine s_getR (pc := 57) 75 dX9_find_57 (fi_X9_29 hG) kd_77 rfl ?_
    refine s_callV (k := 0) (n := 0) (pc := 60) [] (fun x60 => .int (x60.1) :: [.int s0, .ref (gA G 81)]) (fun x60 => x60.2) dX9_find_60 (cV_X9_51 hG) (Nat.le_of_ble_eq_true rfl) rfl kd_75 (Rs_matches_ok hG x50.2) rfl (fun _ => rfl) (fun _ => rfl) (Nat.le_of_ble_eq_true rfl) rfl rfl (fun x60 => ?_)
    refine s_if_eq (pc := 63) 70 dX9_find_63 rfl ?_ ?_
    · refine s_iconst (pc := 70) (v := 0) dX9_find_70 rfl ?_
      refine s_iast (pc := 71) 121 dX9_find_71 kd_81 ln_81 ?_
      refine s_letP (fun P71 => ?_)
      refine s_iinc (pc := 72) 2 1 [(3, .int (v3 + 1)), (0, .ref (gA G 77)), (2, .int v2)] dX9_find_72 rfl rfl (Nat.le_of_ble_eq_true rfl) rfl ?_
      refine s_goto (pc := 75) 17 dX9_find_75 rfl ?_
      refine s_sub [1, 2, 0] rfl ?_
      exact hr17 (v3 + 1) P71
    · refine s_iconst (pc := 66) (v := 1) dX9_find_66 rfl ?_
      refine s_goto (pc := 67) 71 dX9_find_67 rfl ?_
      refine s_iast (pc := 71) 121 dX9_find_71 kd_81 ln_81 ?_
      refine s_letP (fun P71 => ?_)
      refine s_iinc (pc := 72) 2 1 [(3, .int (v3 + 1)), (0, .ref (gA G 77)), (2, .int v2)] dX9_find_72 rfl rfl (Nat.le_of_ble_eq_true rfl) rfl ?_
      refine s_goto (pc := 75) 17 dX9_find_75 rfl ?_
      refine s_sub [1, 2, 0] rfl ?_
      exact hr17 (v3 + 1) P71
def Un_find_17   (v2 : Int32)  : Nat → Int32 → PH → Option (PH)
  | 0 => fun _ _ => none
  | n + 1 => fun v3 P =>
    if (121 : Int32) ≤ v3 then
      Un_find_80 v2 bigN (0 : Int32) P
    else
      if (P.1 77 8) < v3 then
        gdI v3 121 <|
        (some (sI P 81 v3.toNatClampNeg (0 : Int32))).bind fun (P71 : PH) =>
        Un_find_17 v2 n (v3 + 1) P71
      else
        if v3 = 0 then
          Un_find_47 (Un_find_17 v2 n) v2 v3 v3 P
        else
          if v2 = 0 then
            gdI v3 121 <|
            (some (sI P 81 v3.toNatClampNeg (0 : Int32))).bind fun (P71 : PH) =>
            Un_find_17 v2 n (v3 + 1) P71
          else
            Un_find_47 (Un_find_17 v2 n) v2 v3 v3 P
set_option maxRecDepth 100000 in
set_option maxHeartbeats 4000000 in
theorem Un_find_17_sem {G : GT} {l : Launch} (hG : GOK G l)  (v2 : Int32)    : ∀ (n : Nat) (v3 : Int32) (P : PH), Sem G l miX9_find 0 0 (rn tVH) 17 [(0, .ref (gA G 77)), (2, .int v2), (3, .int v3)] [] P (Un_find_17 v2 n v3 P) := by
  intro n
  induction n with
  | zero => intro v3 P; exact s_none rfl
  | succ n ih =>
    intro v3 P
    rw [Un_find_17]
    refine s_iload_n (pc := 17) 2 dX9_find_17 rfl rfl ?_
    refine s_aload_n (pc := 18) 0 dX9_find_18 rfl rfl ?_
    refine s_getR (pc := 19) 81 dX9_find_19 (fi_X9_22 hG) kd_77 rfl ?_
    refine s_alen (pc := 22) (t := 1) 121 121 dX9_find_22 kd_81 (Nat.le_of_ble_eq_true rfl) ln_81 rfl ?_
    refine s_icmp_ge (pc := 23) 78 dX9_find_23 rfl ?_ ?_
    · refine s_iconst (pc := 78) (v := 0) dX9_find_78 rfl ?_
      refine s_istore_n (pc := 79) [(3, .int ((0 : Int32))), (0, .ref (gA G 77)), (2, .int v2)] dX9_find_79 rfl (Nat.le_of_ble_eq_true rfl) rfl ?_
      refine s_sub [1, 2, 0] rfl ?_
      exact Un_find_80_sem hG v2 bigN (0 : Int32) P
    · refine s_aload_n (pc := 26) 0 dX9_find_26 rfl rfl ?_
      refine s_getR (pc := 27) 81 dX9_find_27 (fi_X9_22 hG) kd_77 rfl ?_
      refine s_iload_n (pc := 30) 2 dX9_find_30 rfl rfl ?_
      refine s_iload_n (pc := 31) 2 dX9_find_31 rfl rfl ?_
      refine s_aload_n (pc := 32) 0 dX9_find_32 rfl rfl ?_
      refine s_getI (pc := 33) dX9_find_33 (fi_X9_44 hG) kd_77 ?_
      refine s_icmp_gt (pc := 36) 70 dX9_find_36 rfl ?_ ?_
      · refine s_iconst (pc := 70) (v := 0) dX9_find_70 rfl ?_
        refine s_iast (pc := 71) 121 dX9_find_71 kd_81 ln_81 ?_
        refine s_letP (fun P71 => ?_)
        refine s_iinc (pc := 72) 2 1 [(3, .int (v3 + 1)), (0, .ref (gA G 77)), (2, .int v2)] dX9_find_72 rfl rfl (Nat.le_of_ble_eq_true rfl) rfl ?_
        refine s_goto (pc := 75) 17 dX9_find_75 rfl ?_
        refine s_sub [1, 2, 0] rfl ?_
        exact ih (v3 + 1) P71
      · refine s_iload_n (pc := 39) 2 dX9_find_39 rfl rfl ?_
        refine s_if_eq (pc := 40) 47 dX9_find_40 rfl ?_ ?_
        · exact Un_find_47_sem hG v2 v3 v3 P (Un_find_17 v2 n) ih
        · refine s_iload_n (pc := 43) 1 dX9_find_43 rfl rfl ?_
          refine s_if_eq (pc := 44) 70 dX9_find_44 rfl ?_ ?_
          · refine s_iconst (pc := 70) (v := 0) dX9_find_70 rfl ?_
            refine s_iast (pc := 71) 121 dX9_find_71 kd_81 ln_81 ?_
            refine s_letP (fun P71 => ?_)
            refine s_iinc (pc := 72) 2 1 [(3, .int (v3 + 1)), (0, .ref (gA G 77)), (2, .int v2)] dX9_find_72 rfl rfl (Nat.le_of_ble_eq_true rfl) rfl ?_
            refine s_goto (pc := 75) 17 dX9_find_75 rfl ?_
            refine s_sub [1, 2, 0] rfl ?_
            exact ih (v3 + 1) P71
          · exact Un_find_47_sem hG v2 v3 v3 P (Un_find_17 v2 n) ih
def Un_find  (v1 : Nat) (v2 : Int32) (P : PH) : Option (PH) :=
  (Un_trace v1 P).bind fun (x2 : PH) =>
  (some (sI x2 77 0 (-1 : Int32))).bind fun (P7 : PH) =>
  (some (sI P7 77 1 (-1 : Int32))).bind fun (P12 : PH) =>
  Un_find_17 v2 bigN (0 : Int32) P12
set_option maxRecDepth 100000 in
set_option maxHeartbeats 4000000 in
theorem Un_find_ok {G : GT} {l : Launch} (hG : GOK G l)  (v1 : Nat) (hv1 : kd v1 = 2) (v2 : Int32) (P : PH) : OkN G l yX9_find miX9_find 0 0 tVH [.ref (gA G 77), .ref (gA G v1), .int v2] P (Un_find v1 v2 P) := by
  refine okN_of hG _ [(0, .ref (gA G 77)), (1, .ref (gA G v1)), (2, .int v2)] rfl rfl rfl (Nat.le_of_ble_eq_true rfl) rfl ?_
  unfold Un_find
  refine s_aload_n (pc := 0) 0 dX9_find_0 rfl rfl ?_
  refine s_aload_n (pc := 1) 1 dX9_find_1 rfl rfl ?_
  refine s_callV (k := 0) (n := 0) (pc := 2) [.ref (gA G v1)] (fun _ => []) (fun x2 => x2) dX9_find_2 (cV_X9_33 hG) (Nat.le_of_ble_eq_true rfl) rfl kd_77 (Un_trace_ok hG v1 hv1 P) rfl (fun _ => rfl) (fun _ => rfl) (Nat.le_of_ble_eq_true rfl) rfl rfl (fun x2 => ?_)
  refine s_aload_n (pc := 5) 0 dX9_find_5 rfl rfl ?_
  refine s_iconst (pc := 6) (v := -1) dX9_find_6 rfl ?_
  refine s_putI (pc := 7) dX9_find_7 (fp_X9_37 hG) kd_77 ?_
  refine s_letP (fun P7 => ?_)
  refine s_aload_n (pc := 10) 0 dX9_find_10 rfl rfl ?_
  refine s_iconst (pc := 11) (v := -1) dX9_find_11 rfl ?_
  refine s_putI (pc := 12) dX9_find_12 (fp_X9_41 hG) kd_77 ?_
  refine s_letP (fun P12 => ?_)
  refine s_iconst (pc := 15) (v := 0) dX9_find_15 rfl ?_
  refine s_istore_n (pc := 16) [(3, .int ((0 : Int32))), (0, .ref (gA G 77)), (1, .ref (gA G v1)), (2, .int v2)] dX9_find_16 rfl (Nat.le_of_ble_eq_true rfl) rfl ?_
  refine s_sub [1, 3, 0] rfl ?_
  exact Un_find_17_sem hG v2 bigN (0 : Int32) P12
def Bs_feed  (v1 : Int32) (v2 : Int32) (v3 : Int32) (v4 : Int32) (v5 : Int32) (P : PH) : Option (Int32 × PH) :=
  if (P.1 71 0) ≤ (680 : Int32) then
    (Re_take v1 P).bind fun (x20 : PH) =>
    (Re_take v2 x20).bind fun (x28 : PH) =>
    (Re_take v3 x28).bind fun (x36 : PH) =>
    (Re_take v4 x36).bind fun (x45 : PH) =>
    (Re_take v5 x45).bind fun (x54 : PH) =>
    some (x54.1 71 0, x54)
  else
    some ((-1 : Int32), P)
set_option maxRecDepth 100000 in
set_option maxHeartbeats 4000000 in
theorem Bs_feed_ok {G : GT} {l : Launch} (hG : GOK G l)  (v1 : Int32) (v2 : Int32) (v3 : Int32) (v4 : Int32) (v5 : Int32) (P : PH) : OkN G l yX10_feed miX10_feed 0 0 tIH [.ref (gA G 0), .int v1, .int v2, .int v3, .int v4, .int v5] P (Bs_feed v1 v2 v3 v4 v5 P) := by
  refine okN_of hG _ [(0, .ref (gA G 0)), (1, .int v1), (2, .int v2), (3, .int v3), (4, .int v4), (5, .int v5)] rfl rfl rfl (Nat.le_of_ble_eq_true rfl) rfl ?_
  unfold Bs_feed
  refine s_aload_n (pc := 0) 0 dX10_feed_0 rfl rfl ?_
  refine s_getR (pc := 1) 71 dX10_feed_1 (fi_X10_43 hG) kd_0 rfl ?_
  refine s_getI (pc := 4) dX10_feed_4 (fi_X10_93 hG) kd_71 ?_
  refine s_sipush (pc := 7) (v := 680) dX10_feed_7 rfl ?_
  refine s_icmp_le (pc := 10) 15 dX10_feed_10 rfl ?_ ?_
  · refine s_aload_n (pc := 15) 0 dX10_feed_15 rfl rfl ?_
    refine s_getR (pc := 16) 71 dX10_feed_16 (fi_X10_43 hG) kd_0 rfl ?_
    refine s_iload_n (pc := 19) 1 dX10_feed_19 rfl rfl ?_
    refine s_callV (k := 0) (n := 0) (pc := 20) [.int v1] (fun _ => []) (fun x20 => x20) dX10_feed_20 (cV_X10_96 hG) (Nat.le_of_ble_eq_true rfl) rfl kd_71 (Re_take_ok hG v1 P) rfl (fun _ => rfl) (fun _ => rfl) (Nat.le_of_ble_eq_true rfl) rfl rfl (fun x20 => ?_)
    refine s_aload_n (pc := 23) 0 dX10_feed_23 rfl rfl ?_
    refine s_getR (pc := 24) 71 dX10_feed_24 (fi_X10_43 hG) kd_0 rfl ?_
    refine s_iload_n (pc := 27) 2 dX10_feed_27 rfl rfl ?_
    refine s_callV (k := 0) (n := 0) (pc := 28) [.int v2] (fun _ => []) (fun x28 => x28) dX10_feed_28 (cV_X10_96 hG) (Nat.le_of_ble_eq_true rfl) rfl kd_71 (Re_take_ok hG v2 x20) rfl (fun _ => rfl) (fun _ => rfl) (Nat.le_of_ble_eq_true rfl) rfl rfl (fun x28 => ?_)
    refine s_aload_n (pc := 31) 0 dX10_feed_31 rfl rfl ?_
    refine s_getR (pc := 32) 71 dX10_feed_32 (fi_X10_43 hG) kd_0 rfl ?_
    refine s_iload_n (pc := 35) 3 dX10_feed_35 rfl rfl ?_
    refine s_callV (k := 0) (n := 0) (pc := 36) [.int v3] (fun _ => []) (fun x36 => x36) dX10_feed_36 (cV_X10_96 hG) (Nat.le_of_ble_eq_true rfl) rfl kd_71 (Re_take_ok hG v3 x28) rfl (fun _ => rfl) (fun _ => rfl) (Nat.le_of_ble_eq_true rfl) rfl rfl (fun x36 => ?_)
    refine s_aload_n (pc := 39) 0 dX10_feed_39 rfl rfl ?_
    refine s_getR (pc := 40) 71 dX10_feed_40 (fi_X10_43 hG) kd_0 rfl ?_
    refine s_iload (pc := 43) 4 dX10_feed_43 rfl ?_
    refine s_callV (k := 0) (n := 0) (pc := 45) [.int v4] (fun _ => []) (fun x45 => x45) dX10_feed_45 (cV_X10_96 hG) (Nat.le_of_ble_eq_true rfl) rfl kd_71 (Re_take_ok hG v4 x36) rfl (fun _ => rfl) (fun _ => rfl) (Nat.le_of_ble_eq_true rfl) rfl rfl (fun x45 => ?_)
    refine s_aload_n (pc := 48) 0 dX10_feed_48 rfl rfl ?_
    refine s_getR (pc := 49) 71 dX10_feed_49 (fi_X10_43 hG) kd_0 rfl ?_
    refine s_iload (pc := 52) 5 dX10_feed_52 rfl ?_
    refine s_callV (k := 0) (n := 0) (pc := 54) [.int v5] (fun _ => []) (fun x54 => x54) dX10_feed_54 (cV_X10_96 hG) (Nat.le_of_ble_eq_true rfl) rfl kd_71 (Re_take_ok hG v5 x45) rfl (fun _ => rfl) (fun _ => rfl) (Nat.le_of_ble_eq_true rfl) rfl rfl (fun x54 => ?_)
    refine s_aload_n (pc := 57) 0 dX10_feed_57 rfl rfl ?_
    refine s_getR (pc := 58) 71 dX10_feed_58 (fi_X10_43 hG) kd_0 rfl ?_
    refine s_getI (pc := 61) dX10_feed_61 (fi_X10_93 hG) kd_71 ?_
    exact s_iret (pc := 64) dX10_feed_64 rfl rfl
  · refine s_iconst (pc := 13) (v := -1) dX10_feed_13 rfl ?_
    exact s_iret (pc := 14) dX10_feed_14 rfl rfl
def Bs_drawing_15    (P : PH) : Option ((String ⊕ Int32) × PH) :=
  some ((Sum.inl "java/lang/IllegalArgumentException", P))
set_option maxRecDepth 100000 in
set_option maxHeartbeats 4000000 in
theorem Bs_drawing_15_sem {G : GT} {l : Launch} (hG : GOK G l)   (P : PH)   : Sem G l miX10_drawing 1 6 xIH 15 [] [] P (Bs_drawing_15 P) := by
  unfold Bs_drawing_15
  exact s_throw (pc := 15) (thr_X10_102 hG) dX10_drawing_15 dX10_drawing_18 dX10_drawing_19 dX10_drawing_21 dX10_drawing_24 rfl rfl (Nat.le_of_ble_eq_true rfl) (Nat.le_of_ble_eq_true rfl) (Nat.le_of_ble_eq_true rfl)
def Bs_drawing_91    (P : PH) : Option ((String ⊕ Int32) × PH) :=
  if (P.1 0 0) = 0 then
    (Dr_copy 3 11 P).bind fun (x114 : PH) =>
    (Ne_clear 43 x114).bind fun (x121 : PH) =>
    some (Sum.inr (x121.1 3 0), x121)
  else
    some (Sum.inr ((-10 : Int32) - (P.1 0 0)), P)
set_option maxRecDepth 100000 in
set_option maxHeartbeats 4000000 in
theorem Bs_drawing_91_sem {G : GT} {l : Launch} (hG : GOK G l)   (P : PH)   : Sem G l miX10_drawing 1 6 xIH 91 [(0, .ref (gA G 0))] [] P (Bs_drawing_91 P) := by
  unfold Bs_drawing_91
  refine s_aload_n (pc := 91) 0 dX10_drawing_91 rfl rfl ?_
  refine s_getI (pc := 92) dX10_drawing_92 (fi_X10_113 hG) kd_0 ?_
  refine s_if_eq (pc := 95) 106 dX10_drawing_95 rfl ?_ ?_
  · refine s_aload_n (pc := 106) 0 dX10_drawing_106 rfl rfl ?_
    refine s_getR (pc := 107) 3 dX10_drawing_107 (fi_X10_28 hG) kd_0 rfl ?_
    refine s_aload_n (pc := 110) 0 dX10_drawing_110 rfl rfl ?_
    refine s_getR (pc := 111) 11 dX10_drawing_111 (fi_X10_32 hG) kd_0 rfl ?_
    refine s_callV (k := 1) (n := 6) (pc := 114) [.ref (gA G 11)] (fun _ => []) (fun x114 => x114) dX10_drawing_114 (cV_X10_120 hG) (Nat.le_of_ble_eq_true rfl) rfl kd_3 (Dr_copy_ok hG 3 kd_3 11 kd_11 P) rfl (fun _ => rfl) (fun _ => rfl) (Nat.le_of_ble_eq_true rfl) rfl rfl (fun x114 => ?_)
    refine s_aload_n (pc := 117) 0 dX10_drawing_117 rfl rfl ?_
    refine s_getR (pc := 118) 43 dX10_drawing_118 (fi_X10_61 hG) kd_0 rfl ?_
    refine s_callV (k := 1) (n := 6) (pc := 121) [] (fun _ => []) (fun x121 => x121) dX10_drawing_121 (cV_X10_123 hG) (Nat.le_of_ble_eq_true rfl) rfl kd_43 (Ne_clear_ok hG 43 kd_43 x114) rfl (fun _ => rfl) (fun _ => rfl) (Nat.le_of_ble_eq_true rfl) rfl rfl (fun x121 => ?_)
    refine s_aload_n (pc := 124) 0 dX10_drawing_124 rfl rfl ?_
    refine s_getR (pc := 125) 3 dX10_drawing_125 (fi_X10_28 hG) kd_0 rfl ?_
    refine s_getI (pc := 128) dX10_drawing_128 (fi_X10_126 hG) kd_3 ?_
    exact s_iret (pc := 131) dX10_drawing_131 rfl rfl
  · refine s_bipush (pc := 98) (v := (-10)) dX10_drawing_98 rfl ?_
    refine s_aload_n (pc := 100) 0 dX10_drawing_100 rfl rfl ?_
    refine s_getI (pc := 101) dX10_drawing_101 (fi_X10_113 hG) kd_0 ?_
    refine s_isub (pc := 104) dX10_drawing_104 ?_
    exact s_iret (pc := 105) dX10_drawing_105 rfl rfl
def Bs_drawing  (v1 : Int32) (P : PH) : Option ((String ⊕ Int32) × PH) :=
  if v1 < 0 then
    Bs_drawing_15 P
  else
    if v1 ≤ (P.1 71 0) then
      (Re_read v1 P).bind fun (x30 : PH) =>
      (some (sI x30 0 0 (x30.1 71 1))).bind fun (P41 : PH) =>
      (some (sI P41 0 1 (P41.1 71 2))).bind fun (P52 : PH) =>
      if (P52.1 0 0) = 0 then
        (Pe_draw P52).bind fun (x66 : PH) =>
        (some (sI x66 0 0 (x66.1 74 0))).bind fun (P77 : PH) =>
        (some (sI P77 0 1 (P77.1 74 1))).bind fun (P88 : PH) =>
        Bs_drawing_91 P88
      else
        Bs_drawing_91 P52
    else
      Bs_drawing_15 P
set_option maxRecDepth 100000 in
set_option maxHeartbeats 4000000 in
theorem Bs_drawing_ok {G : GT} {l : Launch} (hG : GOK G l)  (v1 : Int32) (P : PH) : OkT G l yX10_drawing miX10_drawing 1 6 xIH [.ref (gA G 0), .int v1] P (Bs_drawing v1 P) := by
  refine okT_of hG _ [(0, .ref (gA G 0)), (1, .int v1)] rfl rfl rfl (Nat.le_of_ble_eq_true rfl) rfl ?_
  unfold Bs_drawing
  refine s_iload_n (pc := 0) 1 dX10_drawing_0 rfl rfl ?_
  refine s_if_lt (pc := 1) 15 dX10_drawing_1 rfl ?_ ?_
  · refine s_sub [] rfl ?_
    exact Bs_drawing_15_sem hG P
  · refine s_iload_n (pc := 4) 1 dX10_drawing_4 rfl rfl ?_
    refine s_aload_n (pc := 5) 0 dX10_drawing_5 rfl rfl ?_
    refine s_getR (pc := 6) 71 dX10_drawing_6 (fi_X10_43 hG) kd_0 rfl ?_
    refine s_getI (pc := 9) dX10_drawing_9 (fi_X10_93 hG) kd_71 ?_
    refine s_icmp_le (pc := 12) 25 dX10_drawing_12 rfl ?_ ?_
    · refine s_aload_n (pc := 25) 0 dX10_drawing_25 rfl rfl ?_
      refine s_getR (pc := 26) 71 dX10_drawing_26 (fi_X10_43 hG) kd_0 rfl ?_
      refine s_iload_n (pc := 29) 1 dX10_drawing_29 rfl rfl ?_
      refine s_callV (k := 1) (n := 6) (pc := 30) [.int v1] (fun _ => []) (fun x30 => x30) dX10_drawing_30 (cV_X10_107 hG) (Nat.le_of_ble_eq_true rfl) rfl kd_71 (Re_read_ok hG v1 P) rfl (fun _ => rfl) (fun _ => rfl) (Nat.le_of_ble_eq_true rfl) rfl rfl (fun x30 => ?_)
      refine s_aload_n (pc := 33) 0 dX10_drawing_33 rfl rfl ?_
      refine s_aload_n (pc := 34) 0 dX10_drawing_34 rfl rfl ?_
      refine s_getR (pc := 35) 71 dX10_drawing_35 (fi_X10_43 hG) kd_0 rfl ?_
      refine s_getI (pc := 38) dX10_drawing_38 (fi_X10_110 hG) kd_71 ?_
      refine s_putI (pc := 41) dX10_drawing_41 (fp_X10_113 hG) kd_0 ?_
      refine s_letP (fun P41 => ?_)
      refine s_aload_n (pc := 44) 0 dX10_drawing_44 rfl rfl ?_
      refine s_aload_n (pc := 45) 0 dX10_drawing_45 rfl rfl ?_
      refine s_getR (pc := 46) 71 dX10_drawing_46 (fi_X10_43 hG) kd_0 rfl ?_
      refine s_getI (pc := 49) dX10_drawing_49 (fi_X10_114 hG) kd_71 ?_
      refine s_putI (pc := 52) dX10_drawing_52 (fp_X10_21 hG) kd_0 ?_
      refine s_letP (fun P52 => ?_)
      refine s_aload_n (pc := 55) 0 dX10_drawing_55 rfl rfl ?_
      refine s_getI (pc := 56) dX10_drawing_56 (fi_X10_113 hG) kd_0 ?_
      refine s_if_ne (pc := 59) 91 dX10_drawing_59 rfl ?_ ?_
      · refine s_aload_n (pc := 62) 0 dX10_drawing_62 rfl rfl ?_
        refine s_getR (pc := 63) 74 dX10_drawing_63 (fi_X10_52 hG) kd_0 rfl ?_
        refine s_callV (k := 1) (n := 6) (pc := 66) [] (fun _ => []) (fun x66 => x66) dX10_drawing_66 (cV_X10_115 hG) (Nat.le_of_ble_eq_true rfl) rfl kd_74 (Pe_draw_ok hG P52) rfl (fun _ => rfl) (fun _ => rfl) (Nat.le_of_ble_eq_true rfl) rfl rfl (fun x66 => ?_)
        refine s_aload_n (pc := 69) 0 dX10_drawing_69 rfl rfl ?_
        refine s_aload_n (pc := 70) 0 dX10_drawing_70 rfl rfl ?_
        refine s_getR (pc := 71) 74 dX10_drawing_71 (fi_X10_52 hG) kd_0 rfl ?_
        refine s_getI (pc := 74) dX10_drawing_74 (fi_X10_118 hG) kd_74 ?_
        refine s_putI (pc := 77) dX10_drawing_77 (fp_X10_113 hG) kd_0 ?_
        refine s_letP (fun P77 => ?_)
        refine s_aload_n (pc := 80) 0 dX10_drawing_80 rfl rfl ?_
        refine s_aload_n (pc := 81) 0 dX10_drawing_81 rfl rfl ?_
        refine s_getR (pc := 82) 74 dX10_drawing_82 (fi_X10_52 hG) kd_0 rfl ?_
        refine s_getI (pc := 85) dX10_drawing_85 (fi_X10_119 hG) kd_74 ?_
        refine s_putI (pc := 88) dX10_drawing_88 (fp_X10_21 hG) kd_0 ?_
        refine s_letP (fun P88 => ?_)
        refine s_sub [0] rfl ?_
        exact Bs_drawing_91_sem hG P88
      · refine s_sub [0] rfl ?_
        exact Bs_drawing_91_sem hG P52
    · refine s_sub [] rfl ?_
      exact Bs_drawing_15_sem hG P
def Bs_fault  (v1 : Int32) (P : PH) : Option (Int32) :=
  if v1 = 0 then
    some (P.1 0 0)
  else
  if v1 = 1 then
    some (P.1 0 1)
  else
    some (-1 : Int32)
set_option maxRecDepth 100000 in
set_option maxHeartbeats 4000000 in
theorem Bs_fault_ok {G : GT} {l : Launch} (hG : GOK G l)  (v1 : Int32) (P : PH) : OkN G l yX10_fault miX10_fault 0 0 (tI P) [.ref (gA G 0), .int v1] P (Bs_fault v1 P) := by
  refine okN_of hG _ [(0, .ref (gA G 0)), (1, .int v1)] rfl rfl rfl (Nat.le_of_ble_eq_true rfl) rfl ?_
  unfold Bs_fault
  refine s_iload_n (pc := 0) 1 dX10_fault_0 rfl rfl ?_
  refine s_sw (fun hx0 => ?_) (fun hx0 => ?_)
  · refine s_look (pc := 1) 28 dX10_fault_1 rfl (by rw [hx0]; try rfl) rfl ?_
    refine s_aload_n (pc := 28) 0 dX10_fault_28 rfl rfl ?_
    refine s_getI (pc := 29) dX10_fault_29 (fi_X10_113 hG) kd_0 ?_
    exact s_iret (pc := 32) dX10_fault_32 rfl rfl
  refine s_sw (fun hx1 => ?_) (fun hx1 => ?_)
  · refine s_look (pc := 1) 33 dX10_fault_1 rfl (by rw [hx1]; try rfl) rfl ?_
    refine s_aload_n (pc := 33) 0 dX10_fault_33 rfl rfl ?_
    refine s_getI (pc := 34) dX10_fault_34 (fi_X10_21 hG) kd_0 ?_
    exact s_iret (pc := 37) dX10_fault_37 rfl rfl
  refine s_look (pc := 1) 38 dX10_fault_1 rfl (look_two hx0 hx1) rfl ?_
  · refine s_iconst (pc := 38) (v := -1) dX10_fault_38 rfl ?_
    exact s_iret (pc := 39) dX10_fault_39 rfl rfl
def Bs_checkLine_15    (P : PH) : Option ((String ⊕ Unit)) :=
  some (Sum.inl "java/util/NoSuchElementException")
set_option maxRecDepth 100000 in
set_option maxHeartbeats 4000000 in
theorem Bs_checkLine_15_sem {G : GT} {l : Launch} (hG : GOK G l)   (P : PH)   : Sem G l miX10_checkLine 1 6 (xV P) 15 [] [] P (Bs_checkLine_15 P) := by
  unfold Bs_checkLine_15
  exact s_throwNW (pc := 15) (thr_X10_373 hG) dX10_checkLine_15 dX10_checkLine_18 dX10_checkLine_19 dX10_checkLine_22 dX10_checkLine_25 rfl rfl (Nat.le_of_ble_eq_true rfl) (Nat.le_of_ble_eq_true rfl) (Nat.le_of_ble_eq_true rfl)
def Bs_checkLine  (v1 : Int32) (P : PH) : Option ((String ⊕ Unit)) :=
  if v1 < 0 then
    Bs_checkLine_15 P
  else
    if v1 < (P.1 3 0) then
      some (Sum.inr ())
    else
      Bs_checkLine_15 P
set_option maxRecDepth 100000 in
set_option maxHeartbeats 4000000 in
theorem Bs_checkLine_ok {G : GT} {l : Launch} (hG : GOK G l)  (v1 : Int32) (P : PH) : OkT G l yX10_checkLine miX10_checkLine 1 6 (xV P) [.ref (gA G 0), .int v1] P (Bs_checkLine v1 P) := by
  refine okT_of hG _ [(0, .ref (gA G 0)), (1, .int v1)] rfl rfl rfl (Nat.le_of_ble_eq_true rfl) rfl ?_
  unfold Bs_checkLine
  refine s_iload_n (pc := 0) 1 dX10_checkLine_0 rfl rfl ?_
  refine s_if_lt (pc := 1) 15 dX10_checkLine_1 rfl ?_ ?_
  · refine s_sub [] rfl ?_
    exact Bs_checkLine_15_sem hG P
  · refine s_iload_n (pc := 4) 1 dX10_checkLine_4 rfl rfl ?_
    refine s_aload_n (pc := 5) 0 dX10_checkLine_5 rfl rfl ?_
    refine s_getR (pc := 6) 3 dX10_checkLine_6 (fi_X10_28 hG) kd_0 rfl ?_
    refine s_getI (pc := 9) dX10_checkLine_9 (fi_X10_126 hG) kd_3 ?_
    refine s_icmp_lt (pc := 12) 26 dX10_checkLine_12 rfl ?_ ?_
    · exact s_vret (pc := 26) dX10_checkLine_26 rfl rfl
    · refine s_sub [] rfl ?_
      exact Bs_checkLine_15_sem hG P
def Bs_line  (v1 : Int32) (v2 : Int32) (P : PH) : Option ((String ⊕ Int32)) :=
  (Bs_checkLine v1 P).bind fun (x2 : String ⊕ Unit) =>
  Sum.elim (fun E => some (Sum.inl E)) (fun (w2 : Unit) =>
    if v2 = 0 then
      (Dr_fromOf 3 v1 P).bind fun (x41 : Int32) =>
      some (Sum.inr x41)
    else
    if v2 = 1 then
      (Dr_toOf 3 v1 P).bind fun (x50 : Int32) =>
      some (Sum.inr x50)
    else
    if v2 = 2 then
      (Dr_inkOf 3 v1 P).bind fun (x59 : Int32) =>
      some (Sum.inr x59)
    else
    if v2 = 3 then
      (Ne_facesOf 43 v1 P).bind fun (x68 : Int32) =>
      some (Sum.inr x68)
    else
      some (Sum.inl "java/lang/IllegalArgumentException")) x2
set_option maxRecDepth 100000 in
set_option maxHeartbeats 4000000 in
theorem Bs_line_ok {G : GT} {l : Launch} (hG : GOK G l)  (v1 : Int32) (v2 : Int32) (P : PH) : OkT G l yX10_line miX10_line 2 12 (xI P) [.ref (gA G 0), .int v1, .int v2] P (Bs_line v1 v2 P) := by
  refine okT_of hG _ [(0, .ref (gA G 0)), (1, .int v1), (2, .int v2)] rfl rfl rfl (Nat.le_of_ble_eq_true rfl) rfl ?_
  unfold Bs_line
  refine s_aload_n (pc := 0) 0 dX10_line_0 rfl rfl ?_
  refine s_iload_n (pc := 1) 1 dX10_line_1 rfl rfl ?_
  refine s_callVTp (k := 1) (n := 6) (pc := 2) [.int v1] (fun w => []) (fun E => Sum.inl E) dX10_line_2 (cV_X10_129 hG) (Nat.le_of_ble_eq_true rfl) rfl kd_0 (Bs_checkLine_ok hG v1 P) rfl rfl (fun _ => rfl) (Nat.le_of_ble_eq_true rfl) rfl rfl (fun _ => rfl) (fun w2 => ?_)
  refine s_iload_n (pc := 5) 2 dX10_line_5 rfl rfl ?_
  refine s_sw (fun hx0 => ?_) (fun hx0 => ?_)
  · refine s_tin (pc := 6) 36 dX10_line_6 (by rw [hx0]; decide) (by rw [hx0]; decide) (by rw [hx0]; rfl) rfl ?_
    refine s_aload_n (pc := 36) 0 dX10_line_36 rfl rfl ?_
    refine s_getR (pc := 37) 3 dX10_line_37 (fi_X10_28 hG) kd_0 rfl ?_
    refine s_iload_n (pc := 40) 1 dX10_line_40 rfl rfl ?_
    refine s_callV (k := 1) (n := 6) (pc := 41) [.int v1] (fun x41 => .int x41 :: []) (fun _ => P) dX10_line_41 (cV_X10_132 hG) (Nat.le_of_ble_eq_true rfl) rfl kd_3 (Dr_fromOf_ok hG 3 kd_3 v1 P) rfl (fun _ => rfl) (fun _ => rfl) (Nat.le_of_ble_eq_true rfl) rfl rfl (fun x41 => ?_)
    exact s_iret (pc := 44) dX10_line_44 rfl rfl
  refine s_sw (fun hx1 => ?_) (fun hx1 => ?_)
  · refine s_tin (pc := 6) 45 dX10_line_6 (by rw [hx1]; decide) (by rw [hx1]; decide) (by rw [hx1]; rfl) rfl ?_
    refine s_aload_n (pc := 45) 0 dX10_line_45 rfl rfl ?_
    refine s_getR (pc := 46) 3 dX10_line_46 (fi_X10_28 hG) kd_0 rfl ?_
    refine s_iload_n (pc := 49) 1 dX10_line_49 rfl rfl ?_
    refine s_callV (k := 1) (n := 6) (pc := 50) [.int v1] (fun x50 => .int x50 :: []) (fun _ => P) dX10_line_50 (cV_X10_136 hG) (Nat.le_of_ble_eq_true rfl) rfl kd_3 (Dr_toOf_ok hG 3 kd_3 v1 P) rfl (fun _ => rfl) (fun _ => rfl) (Nat.le_of_ble_eq_true rfl) rfl rfl (fun x50 => ?_)
    exact s_iret (pc := 53) dX10_line_53 rfl rfl
  refine s_sw (fun hx2 => ?_) (fun hx2 => ?_)
  · refine s_tin (pc := 6) 54 dX10_line_6 (by rw [hx2]; decide) (by rw [hx2]; decide) (by rw [hx2]; rfl) rfl ?_
    refine s_aload_n (pc := 54) 0 dX10_line_54 rfl rfl ?_
    refine s_getR (pc := 55) 3 dX10_line_55 (fi_X10_28 hG) kd_0 rfl ?_
    refine s_iload_n (pc := 58) 1 dX10_line_58 rfl rfl ?_
    refine s_callV (k := 1) (n := 6) (pc := 59) [.int v1] (fun x59 => .int x59 :: []) (fun _ => P) dX10_line_59 (cV_X10_139 hG) (Nat.le_of_ble_eq_true rfl) rfl kd_3 (Dr_inkOf_ok hG 3 kd_3 v1 P) rfl (fun _ => rfl) (fun _ => rfl) (Nat.le_of_ble_eq_true rfl) rfl rfl (fun x59 => ?_)
    exact s_iret (pc := 62) dX10_line_62 rfl rfl
  refine s_sw (fun hx3 => ?_) (fun hx3 => ?_)
  · refine s_tin (pc := 6) 63 dX10_line_6 (by rw [hx3]; decide) (by rw [hx3]; decide) (by rw [hx3]; rfl) rfl ?_
    refine s_aload_n (pc := 63) 0 dX10_line_63 rfl rfl ?_
    refine s_getR (pc := 64) 43 dX10_line_64 (fi_X10_61 hG) kd_0 rfl ?_
    refine s_iload_n (pc := 67) 1 dX10_line_67 rfl rfl ?_
    refine s_callV (k := 1) (n := 6) (pc := 68) [.int v1] (fun x68 => .int x68 :: []) (fun _ => P) dX10_line_68 (cV_X10_142 hG) (Nat.le_of_ble_eq_true rfl) rfl kd_43 (Ne_facesOf_ok hG 43 kd_43 v1 P) rfl (fun _ => rfl) (fun _ => rfl) (Nat.le_of_ble_eq_true rfl) rfl rfl (fun x68 => ?_)
    exact s_iret (pc := 71) dX10_line_71 rfl rfl
  refine s_tout (pc := 6) 72 dX10_line_6 (Classical.byContradiction fun hq => ?_) rfl ?_
  · have h9 : Int32.toInt v2 = 0 ∨ Int32.toInt v2 = 1 ∨ Int32.toInt v2 = 2 ∨ Int32.toInt v2 = 3 := by omega
    rcases h9 with h9 | h9 | h9 | h9
    · exact hx0 (Int32.toInt_inj.mp h9)
    · exact hx1 (Int32.toInt_inj.mp h9)
    · exact hx2 (Int32.toInt_inj.mp h9)
    · exact hx3 (Int32.toInt_inj.mp h9)
  · exact s_throw (pc := 72) (thr_X10_145 hG) dX10_line_72 dX10_line_75 dX10_line_76 dX10_line_78 dX10_line_81 rfl rfl (Nat.le_of_ble_eq_true rfl) (Nat.le_of_ble_eq_true rfl) (Nat.le_of_ble_eq_true rfl)
def Bs_checkHole_11    (P : PH) : Option ((String ⊕ Unit)) :=
  some (Sum.inl "java/util/NoSuchElementException")
set_option maxRecDepth 100000 in
set_option maxHeartbeats 4000000 in
theorem Bs_checkHole_11_sem {G : GT} {l : Launch} (hG : GOK G l)   (P : PH)   : Sem G l miX10_checkHole 1 6 (xV P) 11 [] [] P (Bs_checkHole_11 P) := by
  unfold Bs_checkHole_11
  exact s_throwNW (pc := 11) (thr_X10_368 hG) dX10_checkHole_11 dX10_checkHole_14 dX10_checkHole_15 dX10_checkHole_18 dX10_checkHole_21 rfl rfl (Nat.le_of_ble_eq_true rfl) (Nat.le_of_ble_eq_true rfl) (Nat.le_of_ble_eq_true rfl)
def Bs_checkHole  (v0 : Int32) (P : PH) : Option ((String ⊕ Unit)) :=
  if v0 < 0 then
    Bs_checkHole_11 P
  else
    if v0 < (144 : Int32) then
      some (Sum.inr ())
    else
      Bs_checkHole_11 P
set_option maxRecDepth 100000 in
set_option maxHeartbeats 4000000 in
theorem Bs_checkHole_ok {G : GT} {l : Launch} (hG : GOK G l)  (v0 : Int32) (P : PH) : OkT G l yX10_checkHole miX10_checkHole 1 6 (xV P) [.int v0] P (Bs_checkHole v0 P) := by
  refine okT_of hG _ [(0, .int v0)] rfl rfl rfl (Nat.le_of_ble_eq_true rfl) rfl ?_
  unfold Bs_checkHole
  refine s_iload_n (pc := 0) 0 dX10_checkHole_0 rfl rfl ?_
  refine s_if_lt (pc := 1) 11 dX10_checkHole_1 rfl ?_ ?_
  · refine s_sub [] rfl ?_
    exact Bs_checkHole_11_sem hG P
  · refine s_iload_n (pc := 4) 0 dX10_checkHole_4 rfl rfl ?_
    refine s_sipush (pc := 5) (v := 144) dX10_checkHole_5 rfl ?_
    refine s_icmp_lt (pc := 8) 22 dX10_checkHole_8 rfl ?_ ?_
    · exact s_vret (pc := 22) dX10_checkHole_22 rfl rfl
    · refine s_sub [] rfl ?_
      exact Bs_checkHole_11_sem hG P
def Bs_checkWay_10    (P : PH) : Option ((String ⊕ Unit)) :=
  some (Sum.inl "java/util/NoSuchElementException")
set_option maxRecDepth 100000 in
set_option maxHeartbeats 4000000 in
theorem Bs_checkWay_10_sem {G : GT} {l : Launch} (hG : GOK G l)   (P : PH)   : Sem G l miX10_checkWay 1 6 (xV P) 10 [] [] P (Bs_checkWay_10 P) := by
  unfold Bs_checkWay_10
  exact s_throwNW (pc := 10) (thr_X10_371 hG) dX10_checkWay_10 dX10_checkWay_13 dX10_checkWay_14 dX10_checkWay_17 dX10_checkWay_20 rfl rfl (Nat.le_of_ble_eq_true rfl) (Nat.le_of_ble_eq_true rfl) (Nat.le_of_ble_eq_true rfl)
def Bs_checkWay  (v0 : Int32) (P : PH) : Option ((String ⊕ Unit)) :=
  if v0 < 0 then
    Bs_checkWay_10 P
  else
    if v0 < (8 : Int32) then
      some (Sum.inr ())
    else
      Bs_checkWay_10 P
set_option maxRecDepth 100000 in
set_option maxHeartbeats 4000000 in
theorem Bs_checkWay_ok {G : GT} {l : Launch} (hG : GOK G l)  (v0 : Int32) (P : PH) : OkT G l yX10_checkWay miX10_checkWay 1 6 (xV P) [.int v0] P (Bs_checkWay v0 P) := by
  refine okT_of hG _ [(0, .int v0)] rfl rfl rfl (Nat.le_of_ble_eq_true rfl) rfl ?_
  unfold Bs_checkWay
  refine s_iload_n (pc := 0) 0 dX10_checkWay_0 rfl rfl ?_
  refine s_if_lt (pc := 1) 10 dX10_checkWay_1 rfl ?_ ?_
  · refine s_sub [] rfl ?_
    exact Bs_checkWay_10_sem hG P
  · refine s_iload_n (pc := 4) 0 dX10_checkWay_4 rfl rfl ?_
    refine s_bipush (pc := 5) (v := 8) dX10_checkWay_5 rfl ?_
    refine s_icmp_lt (pc := 7) 21 dX10_checkWay_7 rfl ?_ ?_
    · exact s_vret (pc := 21) dX10_checkWay_21 rfl rfl
    · refine s_sub [] rfl ?_
      exact Bs_checkWay_10_sem hG P
def Bs_lineAt  (v1 : Int32) (v2 : Int32) (P : PH) : Option ((String ⊕ Int32)) :=
  (Bs_checkHole v1 P).bind fun (x1 : String ⊕ Unit) =>
  Sum.elim (fun E => some (Sum.inl E)) (fun (w1 : Unit) =>
    (Bs_checkWay v2 P).bind fun (x5 : String ⊕ Unit) =>
    Sum.elim (fun E => some (Sum.inl E)) (fun (w5 : Unit) =>
      (Dr_lineBy 3 v1 v2 P).bind fun (x14 : Int32) =>
      some (Sum.inr x14)) x5) x1
set_option maxRecDepth 100000 in
set_option maxHeartbeats 4000000 in
theorem Bs_lineAt_ok {G : GT} {l : Launch} (hG : GOK G l)  (v1 : Int32) (v2 : Int32) (P : PH) : OkT G l yX10_lineAt miX10_lineAt 2 12 (xI P) [.ref (gA G 0), .int v1, .int v2] P (Bs_lineAt v1 v2 P) := by
  refine okT_of hG _ [(0, .ref (gA G 0)), (1, .int v1), (2, .int v2)] rfl rfl rfl (Nat.le_of_ble_eq_true rfl) rfl ?_
  unfold Bs_lineAt
  refine s_iload_n (pc := 0) 1 dX10_lineAt_0 rfl rfl ?_
  refine s_callSTp (k := 1) (n := 6) (pc := 1) [.int v1] (fun w => []) (fun E => Sum.inl E) dX10_lineAt_1 (cS_X10_147 hG) (Nat.le_of_ble_eq_true rfl) rfl (Bs_checkHole_ok hG v1 P) rfl rfl (fun _ => rfl) (Nat.le_of_ble_eq_true rfl) rfl rfl (fun _ => rfl) (fun w1 => ?_)
  refine s_iload_n (pc := 4) 2 dX10_lineAt_4 rfl rfl ?_
  refine s_callSTp (k := 0) (n := 0) (pc := 5) [.int v2] (fun w => []) (fun E => Sum.inl E) dX10_lineAt_5 (cS_X10_150 hG) (Nat.le_of_ble_eq_true rfl) rfl (Bs_checkWay_ok hG v2 P) rfl rfl (fun _ => rfl) (Nat.le_of_ble_eq_true rfl) rfl rfl (fun _ => rfl) (fun w5 => ?_)
  refine s_aload_n (pc := 8) 0 dX10_lineAt_8 rfl rfl ?_
  refine s_getR (pc := 9) 3 dX10_lineAt_9 (fi_X10_28 hG) kd_0 rfl ?_
  refine s_iload_n (pc := 12) 1 dX10_lineAt_12 rfl rfl ?_
  refine s_iload_n (pc := 13) 2 dX10_lineAt_13 rfl rfl ?_
  refine s_callV (k := 0) (n := 0) (pc := 14) [.int v1, .int v2] (fun x14 => .int x14 :: []) (fun _ => P) dX10_lineAt_14 (cV_X10_153 hG) (Nat.le_of_ble_eq_true rfl) rfl kd_3 (Dr_lineBy_ok hG 3 kd_3 v1 v2 P) rfl (fun _ => rfl) (fun _ => rfl) (Nat.le_of_ble_eq_true rfl) rfl rfl (fun x14 => ?_)
  exact s_iret (pc := 17) dX10_lineAt_17 rfl rfl
def Bs_checkInk_9    (P : PH) : Option ((String ⊕ Unit)) :=
  some (Sum.inl "java/lang/IllegalArgumentException")
set_option maxRecDepth 100000 in
set_option maxHeartbeats 4000000 in
theorem Bs_checkInk_9_sem {G : GT} {l : Launch} (hG : GOK G l)   (P : PH)   : Sem G l miX10_checkInk 1 6 (xV P) 9 [] [] P (Bs_checkInk_9 P) := by
  unfold Bs_checkInk_9
  exact s_throwW (pc := 9) (thr_X10_375 hG) dX10_checkInk_9 dX10_checkInk_12 dX10_checkInk_13 dX10_checkInk_16 dX10_checkInk_19 rfl rfl (Nat.le_of_ble_eq_true rfl) (Nat.le_of_ble_eq_true rfl) (Nat.le_of_ble_eq_true rfl)
def Bs_checkInk  (v0 : Int32) (P : PH) : Option ((String ⊕ Unit)) :=
  if v0 < 0 then
    Bs_checkInk_9 P
  else
    if v0 < (4 : Int32) then
      some (Sum.inr ())
    else
      Bs_checkInk_9 P
set_option maxRecDepth 100000 in
set_option maxHeartbeats 4000000 in
theorem Bs_checkInk_ok {G : GT} {l : Launch} (hG : GOK G l)  (v0 : Int32) (P : PH) : OkT G l yX10_checkInk miX10_checkInk 1 6 (xV P) [.int v0] P (Bs_checkInk v0 P) := by
  refine okT_of hG _ [(0, .int v0)] rfl rfl rfl (Nat.le_of_ble_eq_true rfl) rfl ?_
  unfold Bs_checkInk
  refine s_iload_n (pc := 0) 0 dX10_checkInk_0 rfl rfl ?_
  refine s_if_lt (pc := 1) 9 dX10_checkInk_1 rfl ?_ ?_
  · refine s_sub [] rfl ?_
    exact Bs_checkInk_9_sem hG P
  · refine s_iload_n (pc := 4) 0 dX10_checkInk_4 rfl rfl ?_
    refine s_iconst (pc := 5) (v := 4) dX10_checkInk_5 rfl ?_
    refine s_icmp_lt (pc := 6) 20 dX10_checkInk_6 rfl ?_ ?_
    · exact s_vret (pc := 20) dX10_checkInk_20 rfl rfl
    · refine s_sub [] rfl ?_
      exact Bs_checkInk_9_sem hG P
def Bs_checkInkOrAll  (v0 : Int32) (P : PH) : Option ((String ⊕ Unit)) :=
  if v0 = (-1 : Int32) then
    some (Sum.inr ())
  else
    (Bs_checkInk v0 P).bind fun (x6 : String ⊕ Unit) =>
    Sum.elim (fun E => some (Sum.inl E)) (fun (w6 : Unit) =>
      some (Sum.inr ())) x6
set_option maxRecDepth 100000 in
set_option maxHeartbeats 4000000 in
theorem Bs_checkInkOrAll_ok {G : GT} {l : Launch} (hG : GOK G l)  (v0 : Int32) (P : PH) : OkT G l yX10_checkInkOrAll miX10_checkInkOrAll 1 6 (xV P) [.int v0] P (Bs_checkInkOrAll v0 P) := by
  refine okT_of hG _ [(0, .int v0)] rfl rfl rfl (Nat.le_of_ble_eq_true rfl) rfl ?_
  unfold Bs_checkInkOrAll
  refine s_iload_n (pc := 0) 0 dX10_checkInkOrAll_0 rfl rfl ?_
  refine s_iconst (pc := 1) (v := -1) dX10_checkInkOrAll_1 rfl ?_
  refine s_icmp_eq (pc := 2) 9 dX10_checkInkOrAll_2 rfl ?_ ?_
  · exact s_vret (pc := 9) dX10_checkInkOrAll_9 rfl rfl
  · refine s_iload_n (pc := 5) 0 dX10_checkInkOrAll_5 rfl rfl ?_
    refine s_callSTp (k := 0) (n := 0) (pc := 6) [.int v0] (fun w => []) (fun E => Sum.inl E) dX10_checkInkOrAll_6 (cS_X10_176 hG) (Nat.le_of_ble_eq_true rfl) rfl (Bs_checkInk_ok hG v0 P) rfl rfl (fun _ => rfl) (Nat.le_of_ble_eq_true rfl) rfl rfl (fun _ => rfl) (fun w6 => ?_)
    exact s_vret (pc := 9) dX10_checkInkOrAll_9 rfl rfl
def Bs_ends  (v1 : Int32) (v2 : Int32) (P : PH) : Option ((String ⊕ Int32)) :=
  (Bs_checkHole v1 P).bind fun (x1 : String ⊕ Unit) =>
  Sum.elim (fun E => some (Sum.inl E)) (fun (w1 : Unit) =>
    (Bs_checkInkOrAll v2 P).bind fun (x5 : String ⊕ Unit) =>
    Sum.elim (fun E => some (Sum.inl E)) (fun (w5 : Unit) =>
      (Dr_linesAt 3 v1 P).bind fun (x13 : Int64) =>
      (Dr_linesOf 3 v2 P).bind fun (x21 : Int64) =>
      (Jl_bitCount (x13 &&& x21) P).bind fun (x25 : Int32) =>
      some (Sum.inr x25)) x5) x1
set_option maxRecDepth 100000 in
set_option maxHeartbeats 4000000 in
theorem Bs_ends_ok {G : GT} {l : Launch} (hG : GOK G l)  (v1 : Int32) (v2 : Int32) (P : PH) : OkT G l yX10_ends miX10_ends 2 12 (xI P) [.ref (gA G 0), .int v1, .int v2] P (Bs_ends v1 v2 P) := by
  refine okT_of hG _ [(0, .ref (gA G 0)), (1, .int v1), (2, .int v2)] rfl rfl rfl (Nat.le_of_ble_eq_true rfl) rfl ?_
  unfold Bs_ends
  refine s_iload_n (pc := 0) 1 dX10_ends_0 rfl rfl ?_
  refine s_callSTp (k := 1) (n := 6) (pc := 1) [.int v1] (fun w => []) (fun E => Sum.inl E) dX10_ends_1 (cS_X10_147 hG) (Nat.le_of_ble_eq_true rfl) rfl (Bs_checkHole_ok hG v1 P) rfl rfl (fun _ => rfl) (Nat.le_of_ble_eq_true rfl) rfl rfl (fun _ => rfl) (fun w1 => ?_)
  refine s_iload_n (pc := 4) 2 dX10_ends_4 rfl rfl ?_
  refine s_callSTp (k := 0) (n := 0) (pc := 5) [.int v2] (fun w => []) (fun E => Sum.inl E) dX10_ends_5 (cS_X10_157 hG) (Nat.le_of_ble_eq_true rfl) rfl (Bs_checkInkOrAll_ok hG v2 P) rfl rfl (fun _ => rfl) (Nat.le_of_ble_eq_true rfl) rfl rfl (fun _ => rfl) (fun w5 => ?_)
  refine s_aload_n (pc := 8) 0 dX10_ends_8 rfl rfl ?_
  refine s_getR (pc := 9) 3 dX10_ends_9 (fi_X10_28 hG) kd_0 rfl ?_
  refine s_iload_n (pc := 12) 1 dX10_ends_12 rfl rfl ?_
  refine s_callV (k := 0) (n := 0) (pc := 13) [.int v1] (fun x13 => .long x13 :: []) (fun _ => P) dX10_ends_13 (cV_X10_160 hG) (Nat.le_of_ble_eq_true rfl) rfl kd_3 (Dr_linesAt_ok hG 3 kd_3 v1 P) rfl (fun _ => rfl) (fun _ => rfl) (Nat.le_of_ble_eq_true rfl) rfl rfl (fun x13 => ?_)
  refine s_aload_n (pc := 16) 0 dX10_ends_16 rfl rfl ?_
  refine s_getR (pc := 17) 3 dX10_ends_17 (fi_X10_28 hG) kd_0 rfl ?_
  refine s_iload_n (pc := 20) 2 dX10_ends_20 rfl rfl ?_
  refine s_callV (k := 0) (n := 0) (pc := 21) [.int v2] (fun x21 => .long x21 :: [.long x13]) (fun _ => P) dX10_ends_21 (cV_X10_164 hG) (Nat.le_of_ble_eq_true rfl) rfl kd_3 (Dr_linesOf_ok hG 3 kd_3 v2 P) rfl (fun _ => rfl) (fun _ => rfl) (Nat.le_of_ble_eq_true rfl) rfl rfl (fun x21 => ?_)
  refine s_land (pc := 24) dX10_ends_24 ?_
  refine s_callS (k := 0) (n := 0) (pc := 25) [.long (x13 &&& x21)] (fun x25 => .int x25 :: []) (fun _ => P) dX10_ends_25 (cS_X10_167 hG) (Nat.le_of_ble_eq_true rfl) rfl (Jl_bitCount_ok hG (x13 &&& x21) P) rfl (fun _ => rfl) (fun _ => rfl) (Nat.le_of_ble_eq_true rfl) rfl rfl (fun x25 => ?_)
  exact s_iret (pc := 28) dX10_ends_28 rfl rfl
def Bs_knot  (v1 : Int32) (P : PH) : Option (Int32) :=
  (Dr_knotAt 3 v1 P).bind fun (x5 : Int32) =>
  some x5
set_option maxRecDepth 100000 in
set_option maxHeartbeats 4000000 in
theorem Bs_knot_ok {G : GT} {l : Launch} (hG : GOK G l)  (v1 : Int32) (P : PH) : OkN G l yX10_knot miX10_knot 0 0 (tI P) [.ref (gA G 0), .int v1] P (Bs_knot v1 P) := by
  refine okN_of hG _ [(0, .ref (gA G 0)), (1, .int v1)] rfl rfl rfl (Nat.le_of_ble_eq_true rfl) rfl ?_
  unfold Bs_knot
  refine s_aload_n (pc := 0) 0 dX10_knot_0 rfl rfl ?_
  refine s_getR (pc := 1) 3 dX10_knot_1 (fi_X10_28 hG) kd_0 rfl ?_
  refine s_iload_n (pc := 4) 1 dX10_knot_4 rfl rfl ?_
  refine s_callV (k := 0) (n := 0) (pc := 5) [.int v1] (fun x5 => .int x5 :: []) (fun _ => P) dX10_knot_5 (cV_X10_173 hG) (Nat.le_of_ble_eq_true rfl) rfl kd_3 (Dr_knotAt_ok hG 3 kd_3 v1 P) rfl (fun _ => rfl) (fun _ => rfl) (Nat.le_of_ble_eq_true rfl) rfl rfl (fun x5 => ?_)
  exact s_iret (pc := 8) dX10_knot_8 rfl rfl
def Bs_parts  (v1 : Int32) (P : PH) : Option ((String ⊕ Int32)) :=
  (Bs_checkInk v1 P).bind fun (x1 : String ⊕ Unit) =>
  Sum.elim (fun E => some (Sum.inl E)) (fun (w1 : Unit) =>
    (Dr_partsOf 3 v1 P).bind fun (x9 : Int32) =>
    some (Sum.inr x9)) x1
set_option maxRecDepth 100000 in
set_option maxHeartbeats 4000000 in
theorem Bs_parts_ok {G : GT} {l : Launch} (hG : GOK G l)  (v1 : Int32) (P : PH) : OkT G l yX10_parts miX10_parts 1 6 (xI P) [.ref (gA G 0), .int v1] P (Bs_parts v1 P) := by
  refine okT_of hG _ [(0, .ref (gA G 0)), (1, .int v1)] rfl rfl rfl (Nat.le_of_ble_eq_true rfl) rfl ?_
  unfold Bs_parts
  refine s_iload_n (pc := 0) 1 dX10_parts_0 rfl rfl ?_
  refine s_callSTp (k := 0) (n := 0) (pc := 1) [.int v1] (fun w => []) (fun E => Sum.inl E) dX10_parts_1 (cS_X10_176 hG) (Nat.le_of_ble_eq_true rfl) rfl (Bs_checkInk_ok hG v1 P) rfl rfl (fun _ => rfl) (Nat.le_of_ble_eq_true rfl) rfl rfl (fun _ => rfl) (fun w1 => ?_)
  refine s_aload_n (pc := 4) 0 dX10_parts_4 rfl rfl ?_
  refine s_getR (pc := 5) 3 dX10_parts_5 (fi_X10_28 hG) kd_0 rfl ?_
  refine s_iload_n (pc := 8) 1 dX10_parts_8 rfl rfl ?_
  refine s_callV (k := 0) (n := 0) (pc := 9) [.int v1] (fun x9 => .int x9 :: []) (fun _ => P) dX10_parts_9 (cV_X10_179 hG) (Nat.le_of_ble_eq_true rfl) rfl kd_3 (Dr_partsOf_ok hG 3 kd_3 v1 P) rfl (fun _ => rfl) (fun _ => rfl) (Nat.le_of_ble_eq_true rfl) rfl rfl (fun x9 => ?_)
  exact s_iret (pc := 12) dX10_parts_12 rfl rfl
def Bs_partOf  (v1 : Int32) (P : PH) : Option ((String ⊕ Int32)) :=
  (Bs_checkLine v1 P).bind fun (x2 : String ⊕ Unit) =>
  Sum.elim (fun E => some (Sum.inl E)) (fun (w2 : Unit) =>
    (Dr_inkOf 3 v1 P).bind fun (x14 : Int32) =>
    (Dr_linesOf 3 x14 P).bind fun (x17 : Int64) =>
    (Dr_fromOf 3 v1 P).bind fun (x31 : Int32) =>
    (Dr_together 3 x17 x31 P).bind fun (x34 : Int64) =>
    (Bs_lowest x34 P).bind fun (x37 : Int32) =>
    some (Sum.inr x37)) x2
set_option maxRecDepth 100000 in
set_option maxHeartbeats 4000000 in
theorem Bs_partOf_ok {G : GT} {l : Launch} (hG : GOK G l)  (v1 : Int32) (P : PH) : OkT G l yX10_partOf miX10_partOf 1 6 (xI P) [.ref (gA G 0), .int v1] P (Bs_partOf v1 P) := by
  refine okT_of hG _ [(0, .ref (gA G 0)), (1, .int v1)] rfl rfl rfl (Nat.le_of_ble_eq_true rfl) rfl ?_
  unfold Bs_partOf
  refine s_aload_n (pc := 0) 0 dX10_partOf_0 rfl rfl ?_
  refine s_iload_n (pc := 1) 1 dX10_partOf_1 rfl rfl ?_
  refine s_callVTp (k := 0) (n := 0) (pc := 2) [.int v1] (fun w => []) (fun E => Sum.inl E) dX10_partOf_2 (cV_X10_129 hG) (Nat.le_of_ble_eq_true rfl) rfl kd_0 (Bs_checkLine_ok hG v1 P) rfl rfl (fun _ => rfl) (Nat.le_of_ble_eq_true rfl) rfl rfl (fun _ => rfl) (fun w2 => ?_)
  refine s_aload_n (pc := 5) 0 dX10_partOf_5 rfl rfl ?_
  refine s_getR (pc := 6) 3 dX10_partOf_6 (fi_X10_28 hG) kd_0 rfl ?_
  refine s_aload_n (pc := 9) 0 dX10_partOf_9 rfl rfl ?_
  refine s_getR (pc := 10) 3 dX10_partOf_10 (fi_X10_28 hG) kd_0 rfl ?_
  refine s_iload_n (pc := 13) 1 dX10_partOf_13 rfl rfl ?_
  refine s_callV (k := 0) (n := 0) (pc := 14) [.int v1] (fun x14 => .int x14 :: [.ref (gA G 3)]) (fun _ => P) dX10_partOf_14 (cV_X10_139 hG) (Nat.le_of_ble_eq_true rfl) rfl kd_3 (Dr_inkOf_ok hG 3 kd_3 v1 P) rfl (fun _ => rfl) (fun _ => rfl) (Nat.le_of_ble_eq_true rfl) rfl rfl (fun x14 => ?_)
  refine s_callV (k := 0) (n := 0) (pc := 17) [.int x14] (fun x17 => .long x17 :: []) (fun _ => P) dX10_partOf_17 (cV_X10_164 hG) (Nat.le_of_ble_eq_true rfl) rfl kd_3 (Dr_linesOf_ok hG 3 kd_3 x14 P) rfl (fun _ => rfl) (fun _ => rfl) (Nat.le_of_ble_eq_true rfl) rfl rfl (fun x17 => ?_)
  refine s_lstore_n (pc := 20) [(2, .long x17), (0, .ref (gA G 0)), (1, .int v1)] dX10_partOf_20 rfl (Nat.le_of_ble_eq_true rfl) rfl ?_
  refine s_aload_n (pc := 21) 1 dX10_partOf_21 rfl rfl ?_
  refine s_getR (pc := 22) 3 dX10_partOf_22 (fi_X10_28 hG) kd_0 rfl ?_
  refine s_lload_n (pc := 25) 0 dX10_partOf_25 rfl rfl ?_
  refine s_aload_n (pc := 26) 1 dX10_partOf_26 rfl rfl ?_
  refine s_getR (pc := 27) 3 dX10_partOf_27 (fi_X10_28 hG) kd_0 rfl ?_
  refine s_iload_n (pc := 30) 2 dX10_partOf_30 rfl rfl ?_
  refine s_callV (k := 0) (n := 0) (pc := 31) [.int v1] (fun x31 => .int x31 :: [.long x17, .ref (gA G 3)]) (fun _ => P) dX10_partOf_31 (cV_X10_132 hG) (Nat.le_of_ble_eq_true rfl) rfl kd_3 (Dr_fromOf_ok hG 3 kd_3 v1 P) rfl (fun _ => rfl) (fun _ => rfl) (Nat.le_of_ble_eq_true rfl) rfl rfl (fun x31 => ?_)
  refine s_callV (k := 0) (n := 0) (pc := 34) [.long x17, .int x31] (fun x34 => .long x34 :: []) (fun _ => P) dX10_partOf_34 (cV_X10_182 hG) (Nat.le_of_ble_eq_true rfl) rfl kd_3 (Dr_together_ok hG 3 kd_3 x17 x31 P) rfl (fun _ => rfl) (fun _ => rfl) (Nat.le_of_ble_eq_true rfl) rfl rfl (fun x34 => ?_)
  refine s_callS (k := 0) (n := 0) (pc := 37) [.long x34] (fun x37 => .int x37 :: []) (fun _ => P) dX10_partOf_37 (cS_X10_186 hG) (Nat.le_of_ble_eq_true rfl) rfl (Bs_lowest_ok hG x34 P) rfl (fun _ => rfl) (fun _ => rfl) (Nat.le_of_ble_eq_true rfl) rfl rfl (fun x37 => ?_)
  exact s_iret (pc := 40) dX10_partOf_40 rfl rfl
def Bs_length  (v1 : Int32) (P : PH) : Option ((String ⊕ Int32)) :=
  (Bs_checkInkOrAll v1 P).bind fun (x1 : String ⊕ Unit) =>
  Sum.elim (fun E => some (Sum.inl E)) (fun (w1 : Unit) =>
    (Dr_threadFor 3 v1 P).bind fun (x9 : Int32) =>
    some (Sum.inr x9)) x1
set_option maxRecDepth 100000 in
set_option maxHeartbeats 4000000 in
theorem Bs_length_ok {G : GT} {l : Launch} (hG : GOK G l)  (v1 : Int32) (P : PH) : OkT G l yX10_length miX10_length 1 6 (xI P) [.ref (gA G 0), .int v1] P (Bs_length v1 P) := by
  refine okT_of hG _ [(0, .ref (gA G 0)), (1, .int v1)] rfl rfl rfl (Nat.le_of_ble_eq_true rfl) rfl ?_
  unfold Bs_length
  refine s_iload_n (pc := 0) 1 dX10_length_0 rfl rfl ?_
  refine s_callSTp (k := 0) (n := 0) (pc := 1) [.int v1] (fun w => []) (fun E => Sum.inl E) dX10_length_1 (cS_X10_157 hG) (Nat.le_of_ble_eq_true rfl) rfl (Bs_checkInkOrAll_ok hG v1 P) rfl rfl (fun _ => rfl) (Nat.le_of_ble_eq_true rfl) rfl rfl (fun _ => rfl) (fun w1 => ?_)
  refine s_aload_n (pc := 4) 0 dX10_length_4 rfl rfl ?_
  refine s_getR (pc := 5) 3 dX10_length_5 (fi_X10_28 hG) kd_0 rfl ?_
  refine s_iload_n (pc := 8) 1 dX10_length_8 rfl rfl ?_
  refine s_callV (k := 0) (n := 0) (pc := 9) [.int v1] (fun x9 => .int x9 :: []) (fun _ => P) dX10_length_9 (cV_X10_189 hG) (Nat.le_of_ble_eq_true rfl) rfl kd_3 (Dr_threadFor_ok hG 3 kd_3 v1 P) rfl (fun _ => rfl) (fun _ => rfl) (Nat.le_of_ble_eq_true rfl) rfl rfl (fun x9 => ?_)
  exact s_iret (pc := 12) dX10_length_12 rfl rfl
