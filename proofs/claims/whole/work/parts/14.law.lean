def miL_law : MI := (cL_law, 8, RL, some .boolean, 57, [])
theorem cW_131 {G : GT} {l : Launch} (hG : GOK G l) : CWK G RL 131 yL_drawing miL_drawing 3 := ⟨gwd hG _ (tm_3 (List.mem_of_getElem? (i := 17) rfl)) rfl, gwd hG _ (tm_3 (List.mem_of_getElem? (i := 18) rfl)) rfl, gwd hG (.codeWith yL_drawing cL_drawing 4 (some .int) [(0, 9, 12, 13)]) (tm_3 (List.mem_of_getElem? (i := 19) rfl)) rfl, gwd hG _ (tm_1 (List.mem_of_getElem? (i := 0) rfl)) rfl, ⟨by decide +kernel, by decide +kernel⟩, by decide +kernel, (Nat.le_of_ble_eq_true rfl)⟩
theorem cW_144 {G : GT} {l : Launch} (hG : GOK G l) : CWK G RL 144 yL_line miL_line 4 := ⟨gwd hG _ (tm_4 (List.mem_of_getElem? (i := 75) rfl)) rfl, gwd hG _ (tm_4 (List.mem_of_getElem? (i := 76) rfl)) rfl, gwd hG (.codeWith yL_line cL_line 5 (some .int) [(0, 10, 13, 19), (0, 10, 17, 13)]) (tm_4 (List.mem_of_getElem? (i := 77) rfl)) rfl, gwd hG _ (tm_1 (List.mem_of_getElem? (i := 0) rfl)) rfl, ⟨by decide +kernel, by decide +kernel⟩, by decide +kernel, (Nat.le_of_ble_eq_true rfl)⟩
theorem cW_148 {G : GT} {l : Launch} (hG : GOK G l) : CWK G RL 148 yL_lineAt miL_lineAt 4 := ⟨gwd hG _ (tm_4 (List.mem_of_getElem? (i := 117) rfl)) rfl, gwd hG _ (tm_4 (List.mem_of_getElem? (i := 118) rfl)) rfl, gwd hG (.codeWith yL_lineAt cL_lineAt 5 (some .int) [(0, 10, 13, 19)]) (tm_4 (List.mem_of_getElem? (i := 119) rfl)) rfl, gwd hG _ (tm_1 (List.mem_of_getElem? (i := 0) rfl)) rfl, ⟨by decide +kernel, by decide +kernel⟩, by decide +kernel, (Nat.le_of_ble_eq_true rfl)⟩
theorem cW_151 {G : GT} {l : Launch} (hG : GOK G l) : CWK G RL 151 yL_ends miL_ends 4 := ⟨gwd hG _ (tm_4 (List.mem_of_getElem? (i := 133) rfl)) rfl, gwd hG _ (tm_4 (List.mem_of_getElem? (i := 134) rfl)) rfl, gwd hG (.codeWith yL_ends cL_ends 5 (some .int) [(0, 10, 13, 19), (0, 10, 17, 13)]) (tm_4 (List.mem_of_getElem? (i := 135) rfl)) rfl, gwd hG _ (tm_1 (List.mem_of_getElem? (i := 0) rfl)) rfl, ⟨by decide +kernel, by decide +kernel⟩, by decide +kernel, (Nat.le_of_ble_eq_true rfl)⟩
theorem cW_158 {G : GT} {l : Launch} (hG : GOK G l) : CWK G RL 158 yL_parts miL_parts 3 := ⟨gwd hG _ (tm_4 (List.mem_of_getElem? (i := 155) rfl)) rfl, gwd hG _ (tm_4 (List.mem_of_getElem? (i := 156) rfl)) rfl, gwd hG (.codeWith yL_parts cL_parts 4 (some .int) [(0, 9, 12, 13)]) (tm_4 (List.mem_of_getElem? (i := 157) rfl)) rfl, gwd hG _ (tm_1 (List.mem_of_getElem? (i := 0) rfl)) rfl, ⟨by decide +kernel, by decide +kernel⟩, by decide +kernel, (Nat.le_of_ble_eq_true rfl)⟩
theorem cW_161 {G : GT} {l : Launch} (hG : GOK G l) : CWK G RL 161 yL_partOf miL_partOf 3 := ⟨gwd hG _ (tm_4 (List.mem_of_getElem? (i := 178) rfl)) rfl, gwd hG _ (tm_4 (List.mem_of_getElem? (i := 179) rfl)) rfl, gwd hG (.codeWith yL_partOf cL_partOf 4 (some .int) [(0, 9, 12, 19)]) (tm_4 (List.mem_of_getElem? (i := 180) rfl)) rfl, gwd hG _ (tm_1 (List.mem_of_getElem? (i := 0) rfl)) rfl, ⟨by decide +kernel, by decide +kernel⟩, by decide +kernel, (Nat.le_of_ble_eq_true rfl)⟩
theorem cW_164 {G : GT} {l : Launch} (hG : GOK G l) : CWK G RL 164 yL_length miL_length 3 := ⟨gwd hG _ (tm_4 (List.mem_of_getElem? (i := 187) rfl)) rfl, gwd hG _ (tm_4 (List.mem_of_getElem? (i := 188) rfl)) rfl, gwd hG (.codeWith yL_length cL_length 4 (some .int) [(0, 9, 12, 13)]) (tm_4 (List.mem_of_getElem? (i := 189) rfl)) rfl, gwd hG _ (tm_1 (List.mem_of_getElem? (i := 0) rfl)) rfl, ⟨by decide +kernel, by decide +kernel⟩, by decide +kernel, (Nat.le_of_ble_eq_true rfl)⟩
theorem cW_172 {G : GT} {l : Launch} (hG : GOK G l) : CWK G RL 172 yL_alike miL_alike 3 := ⟨gwd hG _ (tm_4 (List.mem_of_getElem? (i := 201) rfl)) rfl, gwd hG _ (tm_4 (List.mem_of_getElem? (i := 202) rfl)) rfl, gwd hG (.codeWith yL_alike cL_alike 4 (some .int) [(0, 16, 19, 13)]) (tm_4 (List.mem_of_getElem? (i := 203) rfl)) rfl, gwd hG _ (tm_1 (List.mem_of_getElem? (i := 0) rfl)) rfl, ⟨by decide +kernel, by decide +kernel⟩, by decide +kernel, (Nat.le_of_ble_eq_true rfl)⟩
theorem cW_175 {G : GT} {l : Launch} (hG : GOK G l) : CWK G RL 175 yL_begin miL_begin 4 := ⟨gwd hG _ (tm_4 (List.mem_of_getElem? (i := 225) rfl)) rfl, gwd hG _ (tm_4 (List.mem_of_getElem? (i := 226) rfl)) rfl, gwd hG (.codeWith yL_begin cL_begin 5 (some .int) [(0, 7, 10, 19), (0, 7, 14, 13)]) (tm_4 (List.mem_of_getElem? (i := 227) rfl)) rfl, gwd hG _ (tm_1 (List.mem_of_getElem? (i := 0) rfl)) rfl, ⟨by decide +kernel, by decide +kernel⟩, by decide +kernel, (Nat.le_of_ble_eq_true rfl)⟩
theorem cW_179 {G : GT} {l : Launch} (hG : GOK G l) : CWK G RL 179 yL_cut miL_cut 2 := ⟨gwd hG _ (tm_5 (List.mem_of_getElem? (i := 0) rfl)) rfl, gwd hG _ (tm_5 (List.mem_of_getElem? (i := 1) rfl)) rfl, gwd hG (.codeWith yL_cut cL_cut 3 (some .int) [(0, 8, 11, 48)]) (tm_5 (List.mem_of_getElem? (i := 2) rfl)) rfl, gwd hG _ (tm_1 (List.mem_of_getElem? (i := 0) rfl)) rfl, ⟨by decide +kernel, by decide +kernel⟩, by decide +kernel, (Nat.le_of_ble_eq_true rfl)⟩
theorem cW_183 {G : GT} {l : Launch} (hG : GOK G l) : CWK G RL 183 yL_may miL_may 3 := ⟨gwd hG _ (tm_5 (List.mem_of_getElem? (i := 29) rfl)) rfl, gwd hG _ (tm_5 (List.mem_of_getElem? (i := 30) rfl)) rfl, gwd hG (.codeWith yL_may cL_may 4 (some .int) [(0, 9, 12, 19)]) (tm_5 (List.mem_of_getElem? (i := 31) rfl)) rfl, gwd hG _ (tm_1 (List.mem_of_getElem? (i := 0) rfl)) rfl, ⟨by decide +kernel, by decide +kernel⟩, by decide +kernel, (Nat.le_of_ble_eq_true rfl)⟩
theorem cW_186 {G : GT} {l : Launch} (hG : GOK G l) : CWK G RL 186 yL_stitch miL_stitch 3 := ⟨gwd hG _ (tm_5 (List.mem_of_getElem? (i := 46) rfl)) rfl, gwd hG _ (tm_5 (List.mem_of_getElem? (i := 47) rfl)) rfl, gwd hG (.codeWith yL_stitch cL_stitch 4 (some .int) [(0, 9, 12, 19)]) (tm_5 (List.mem_of_getElem? (i := 48) rfl)) rfl, gwd hG _ (tm_1 (List.mem_of_getElem? (i := 0) rfl)) rfl, ⟨by decide +kernel, by decide +kernel⟩, by decide +kernel, (Nat.le_of_ble_eq_true rfl)⟩
theorem cW_189 {G : GT} {l : Launch} (hG : GOK G l) : CWK G RL 189 yL_unpick miL_unpick 3 := ⟨gwd hG _ (tm_5 (List.mem_of_getElem? (i := 66) rfl)) rfl, gwd hG _ (tm_5 (List.mem_of_getElem? (i := 67) rfl)) rfl, gwd hG (.codeWith yL_unpick cL_unpick 4 (some .int) [(0, 9, 12, 48), (0, 9, 15, 13)]) (tm_5 (List.mem_of_getElem? (i := 68) rfl)) rfl, gwd hG _ (tm_1 (List.mem_of_getElem? (i := 0) rfl)) rfl, ⟨by decide +kernel, by decide +kernel⟩, by decide +kernel, (Nat.le_of_ble_eq_true rfl)⟩
theorem cW_192 {G : GT} {l : Launch} (hG : GOK G l) : CWK G RL 192 yL_thread miL_thread 3 := ⟨gwd hG _ (tm_5 (List.mem_of_getElem? (i := 82) rfl)) rfl, gwd hG _ (tm_5 (List.mem_of_getElem? (i := 83) rfl)) rfl, gwd hG (.codeWith yL_thread cL_thread 4 (some .int) [(0, 9, 12, 48), (0, 9, 15, 13)]) (tm_5 (List.mem_of_getElem? (i := 84) rfl)) rfl, gwd hG _ (tm_1 (List.mem_of_getElem? (i := 0) rfl)) rfl, ⟨by decide +kernel, by decide +kernel⟩, by decide +kernel, (Nat.le_of_ble_eq_true rfl)⟩
theorem cW_195 {G : GT} {l : Launch} (hG : GOK G l) : CWK G RL 195 yL_done miL_done 3 := ⟨gwd hG _ (tm_5 (List.mem_of_getElem? (i := 91) rfl)) rfl, gwd hG _ (tm_5 (List.mem_of_getElem? (i := 92) rfl)) rfl, gwd hG (.codeWith yL_done cL_done 4 (some .int) [(0, 9, 12, 48)]) (tm_5 (List.mem_of_getElem? (i := 93) rfl)) rfl, gwd hG _ (tm_1 (List.mem_of_getElem? (i := 0) rfl)) rfl, ⟨by decide +kernel, by decide +kernel⟩, by decide +kernel, (Nat.le_of_ble_eq_true rfl)⟩
theorem cW_198 {G : GT} {l : Launch} (hG : GOK G l) : CWK G RL 198 yL_judge miL_judge 4 := ⟨gwd hG _ (tm_5 (List.mem_of_getElem? (i := 99) rfl)) rfl, gwd hG _ (tm_5 (List.mem_of_getElem? (i := 100) rfl)) rfl, gwd hG (.codeWith yL_judge cL_judge 5 (some .int) [(0, 10, 13, 19), (0, 10, 17, 48), (0, 10, 21, 13)]) (tm_5 (List.mem_of_getElem? (i := 101) rfl)) rfl, gwd hG _ (tm_1 (List.mem_of_getElem? (i := 0) rfl)) rfl, ⟨by decide +kernel, by decide +kernel⟩, by decide +kernel, (Nat.le_of_ble_eq_true rfl)⟩
theorem cW_201 {G : GT} {l : Launch} (hG : GOK G l) : CWK G RL 201 yL_perform miL_perform 3 := ⟨gwd hG _ (tm_5 (List.mem_of_getElem? (i := 144) rfl)) rfl, gwd hG _ (tm_5 (List.mem_of_getElem? (i := 145) rfl)) rfl, gwd hG (.codeWith yL_perform cL_perform 4 (some .int) [(0, 9, 12, 19), (0, 9, 15, 48)]) (tm_5 (List.mem_of_getElem? (i := 146) rfl)) rfl, gwd hG _ (tm_1 (List.mem_of_getElem? (i := 0) rfl)) rfl, ⟨by decide +kernel, by decide +kernel⟩, by decide +kernel, (Nat.le_of_ble_eq_true rfl)⟩
theorem cW_204 {G : GT} {l : Launch} (hG : GOK G l) : CWK G RL 204 yL_left miL_left 2 := ⟨gwd hG _ (tm_5 (List.mem_of_getElem? (i := 151) rfl)) rfl, gwd hG _ (tm_5 (List.mem_of_getElem? (i := 152) rfl)) rfl, gwd hG (.codeWith yL_left cL_left 3 (some .int) [(0, 8, 11, 48)]) (tm_5 (List.mem_of_getElem? (i := 153) rfl)) rfl, gwd hG _ (tm_1 (List.mem_of_getElem? (i := 0) rfl)) rfl, ⟨by decide +kernel, by decide +kernel⟩, by decide +kernel, (Nat.le_of_ble_eq_true rfl)⟩
theorem cW_207 {G : GT} {l : Launch} (hG : GOK G l) : CWK G RL 207 yL_barred miL_barred 3 := ⟨gwd hG _ (tm_5 (List.mem_of_getElem? (i := 158) rfl)) rfl, gwd hG _ (tm_5 (List.mem_of_getElem? (i := 159) rfl)) rfl, gwd hG (.codeWith yL_barred cL_barred 4 (some .int) [(0, 9, 12, 48), (0, 9, 15, 13)]) (tm_5 (List.mem_of_getElem? (i := 160) rfl)) rfl, gwd hG _ (tm_1 (List.mem_of_getElem? (i := 0) rfl)) rfl, ⟨by decide +kernel, by decide +kernel⟩, by decide +kernel, (Nat.le_of_ble_eq_true rfl)⟩
theorem cW_210 {G : GT} {l : Launch} (hG : GOK G l) : CWK G RL 210 yL_ending miL_ending 2 := ⟨gwd hG _ (tm_5 (List.mem_of_getElem? (i := 198) rfl)) rfl, gwd hG _ (tm_5 (List.mem_of_getElem? (i := 199) rfl)) rfl, gwd hG (.codeWith yL_ending cL_ending 3 (some .int) [(0, 8, 11, 48)]) (tm_5 (List.mem_of_getElem? (i := 200) rfl)) rfl, gwd hG _ (tm_1 (List.mem_of_getElem? (i := 0) rfl)) rfl, ⟨by decide +kernel, by decide +kernel⟩, by decide +kernel, (Nat.le_of_ble_eq_true rfl)⟩
theorem cW_213 {G : GT} {l : Launch} (hG : GOK G l) : CWK G RL 213 yL_working miL_working 3 := ⟨gwd hG _ (tm_5 (List.mem_of_getElem? (i := 205) rfl)) rfl, gwd hG _ (tm_5 (List.mem_of_getElem? (i := 206) rfl)) rfl, gwd hG (.codeWith yL_working cL_working 4 (some .int) [(0, 9, 12, 48)]) (tm_5 (List.mem_of_getElem? (i := 207) rfl)) rfl, gwd hG _ (tm_1 (List.mem_of_getElem? (i := 0) rfl)) rfl, ⟨by decide +kernel, by decide +kernel⟩, by decide +kernel, (Nat.le_of_ble_eq_true rfl)⟩
theorem cW_216 {G : GT} {l : Launch} (hG : GOK G l) : CWK G RL 216 yL_work miL_work 2 := ⟨gwd hG _ (tm_6 (List.mem_of_getElem? (i := 10) rfl)) rfl, gwd hG _ (tm_6 (List.mem_of_getElem? (i := 11) rfl)) rfl, gwd hG (.codeWith yL_work cL_work 3 (some .int) [(0, 8, 11, 48)]) (tm_6 (List.mem_of_getElem? (i := 12) rfl)) rfl, gwd hG _ (tm_1 (List.mem_of_getElem? (i := 0) rfl)) rfl, ⟨by decide +kernel, by decide +kernel⟩, by decide +kernel, (Nat.le_of_ble_eq_true rfl)⟩
theorem cW_219 {G : GT} {l : Launch} (hG : GOK G l) : CWK G RL 219 yL_ways miL_ways 2 := ⟨gwd hG _ (tm_6 (List.mem_of_getElem? (i := 17) rfl)) rfl, gwd hG _ (tm_6 (List.mem_of_getElem? (i := 18) rfl)) rfl, gwd hG (.codeWith yL_ways cL_ways 3 (some .int) [(0, 8, 11, 48)]) (tm_6 (List.mem_of_getElem? (i := 19) rfl)) rfl, gwd hG _ (tm_1 (List.mem_of_getElem? (i := 0) rfl)) rfl, ⟨by decide +kernel, by decide +kernel⟩, by decide +kernel, (Nat.le_of_ble_eq_true rfl)⟩
theorem cW_222 {G : GT} {l : Launch} (hG : GOK G l) : CWK G RL 222 yL_unpicked miL_unpicked 4 := ⟨gwd hG _ (tm_6 (List.mem_of_getElem? (i := 31) rfl)) rfl, gwd hG _ (tm_6 (List.mem_of_getElem? (i := 32) rfl)) rfl, gwd hG (.codeWith yL_unpicked cL_unpicked 5 (some .int) [(0, 10, 13, 48), (0, 10, 17, 13)]) (tm_6 (List.mem_of_getElem? (i := 33) rfl)) rfl, gwd hG _ (tm_1 (List.mem_of_getElem? (i := 0) rfl)) rfl, ⟨by decide +kernel, by decide +kernel⟩, by decide +kernel, (Nat.le_of_ble_eq_true rfl)⟩
theorem cW_226 {G : GT} {l : Launch} (hG : GOK G l) : CWK G RL 226 yL_places miL_places 3 := ⟨gwd hG _ (tm_6 (List.mem_of_getElem? (i := 69) rfl)) rfl, gwd hG _ (tm_6 (List.mem_of_getElem? (i := 70) rfl)) rfl, gwd hG (.codeWith yL_places cL_places 4 (some .int) [(0, 9, 12, 13)]) (tm_6 (List.mem_of_getElem? (i := 71) rfl)) rfl, gwd hG _ (tm_1 (List.mem_of_getElem? (i := 0) rfl)) rfl, ⟨by decide +kernel, by decide +kernel⟩, by decide +kernel, (Nat.le_of_ble_eq_true rfl)⟩
theorem cW_229 {G : GT} {l : Launch} (hG : GOK G l) : CWK G RL 229 yL_threads miL_threads 4 := ⟨gwd hG _ (tm_6 (List.mem_of_getElem? (i := 80) rfl)) rfl, gwd hG _ (tm_6 (List.mem_of_getElem? (i := 81) rfl)) rfl, gwd hG (.codeWith yL_threads cL_threads 5 (some .int) [(0, 10, 13, 13)]) (tm_6 (List.mem_of_getElem? (i := 82) rfl)) rfl, gwd hG _ (tm_1 (List.mem_of_getElem? (i := 0) rfl)) rfl, ⟨by decide +kernel, by decide +kernel⟩, by decide +kernel, (Nat.le_of_ble_eq_true rfl)⟩
theorem cW_241 {G : GT} {l : Launch} (hG : GOK G l) : CWK G RL 241 yL_sameAt miL_sameAt 3 := ⟨gwd hG _ (tm_6 (List.mem_of_getElem? (i := 144) rfl)) rfl, gwd hG _ (tm_6 (List.mem_of_getElem? (i := 145) rfl)) rfl, gwd hG (.codeWith yL_sameAt cL_sameAt 4 (some .int) [(0, 9, 12, 48)]) (tm_6 (List.mem_of_getElem? (i := 146) rfl)) rfl, gwd hG _ (tm_1 (List.mem_of_getElem? (i := 0) rfl)) rfl, ⟨by decide +kernel, by decide +kernel⟩, by decide +kernel, (Nat.le_of_ble_eq_true rfl)⟩
theorem cW_244 {G : GT} {l : Launch} (hG : GOK G l) : CWK G RL 244 yL_unlike miL_unlike 3 := ⟨gwd hG _ (tm_6 (List.mem_of_getElem? (i := 155) rfl)) rfl, gwd hG _ (tm_6 (List.mem_of_getElem? (i := 156) rfl)) rfl, gwd hG (.codeWith yL_unlike cL_unlike 4 (some .int) [(0, 9, 12, 19)]) (tm_6 (List.mem_of_getElem? (i := 157) rfl)) rfl, gwd hG _ (tm_1 (List.mem_of_getElem? (i := 0) rfl)) rfl, ⟨by decide +kernel, by decide +kernel⟩, by decide +kernel, (Nat.le_of_ble_eq_true rfl)⟩
theorem cW_247 {G : GT} {l : Launch} (hG : GOK G l) : CWK G RL 247 yL_tray miL_tray 4 := ⟨gwd hG _ (tm_6 (List.mem_of_getElem? (i := 162) rfl)) rfl, gwd hG _ (tm_6 (List.mem_of_getElem? (i := 163) rfl)) rfl, gwd hG (.codeWith yL_tray cL_tray 5 (some .int) [(0, 7, 10, 19), (0, 7, 14, 13)]) (tm_6 (List.mem_of_getElem? (i := 164) rfl)) rfl, gwd hG _ (tm_1 (List.mem_of_getElem? (i := 0) rfl)) rfl, ⟨by decide +kernel, by decide +kernel⟩, by decide +kernel, (Nat.le_of_ble_eq_true rfl)⟩
theorem cW_253 {G : GT} {l : Launch} (hG : GOK G l) : CWK G RL 253 yL_write miL_write 5 := ⟨gwd hG _ (tm_6 (List.mem_of_getElem? (i := 175) rfl)) rfl, gwd hG _ (tm_6 (List.mem_of_getElem? (i := 176) rfl)) rfl, gwd hG (.codeWith yL_write cL_write 7 (some .int) [(0, 11, 14, 19), (0, 11, 18, 48), (0, 11, 22, 113)]) (tm_6 (List.mem_of_getElem? (i := 177) rfl)) rfl, gwd hG _ (tm_1 (List.mem_of_getElem? (i := 0) rfl)) rfl, ⟨by decide +kernel, by decide +kernel⟩, by decide +kernel, (Nat.le_of_ble_eq_true rfl)⟩
theorem cW_257 {G : GT} {l : Launch} (hG : GOK G l) : CWK G RL 257 yL_image miL_image 2 := ⟨gwd hG _ (tm_6 (List.mem_of_getElem? (i := 207) rfl)) rfl, gwd hG _ (tm_6 (List.mem_of_getElem? (i := 208) rfl)) rfl, gwd hG (.codeWith yL_image cL_image 3 (some .int) [(0, 5, 8, 19)]) (tm_6 (List.mem_of_getElem? (i := 209) rfl)) rfl, gwd hG _ (tm_1 (List.mem_of_getElem? (i := 0) rfl)) rfl, ⟨by decide +kernel, by decide +kernel⟩, by decide +kernel, (Nat.le_of_ble_eq_true rfl)⟩
theorem cW_261 {G : GT} {l : Launch} (hG : GOK G l) : CWK G RL 261 yL_restore miL_restore 2 := ⟨gwd hG _ (tm_6 (List.mem_of_getElem? (i := 225) rfl)) rfl, gwd hG _ (tm_6 (List.mem_of_getElem? (i := 226) rfl)) rfl, gwd hG (.codeWith yL_restore cL_restore 3 (some .int) [(0, 5, 8, 19), (0, 5, 11, 48)]) (tm_6 (List.mem_of_getElem? (i := 227) rfl)) rfl, gwd hG _ (tm_1 (List.mem_of_getElem? (i := 0) rfl)) rfl, ⟨by decide +kernel, by decide +kernel⟩, by decide +kernel, (Nat.le_of_ble_eq_true rfl)⟩
theorem cV_L_126 {G : GT} {l : Launch} (hG : GOK G l) : CVK G RL 126 yX10_feed miX10_feed 5 10 := ⟨gwd hG _ (tm_2 (List.mem_of_getElem? (i := 193) rfl)) rfl, gwd hG _ (tm_2 (List.mem_of_getElem? (i := 194) rfl)) rfl, gwd hG _ (tm_2 (List.mem_of_getElem? (i := 195) rfl)) rfl, mo_X10_feed hG, (Nat.le_of_ble_eq_true rfl), _, rfl, rfl⟩
theorem cV_L_130 {G : GT} {l : Launch} (hG : GOK G l) : CVK G RL 130 yX11_feed miX11_feed 5 11 := ⟨gwd hG _ (tm_7 (List.mem_of_getElem? (i := 138) rfl)) rfl, gwd hG _ (tm_7 (List.mem_of_getElem? (i := 139) rfl)) rfl, gwd hG _ (tm_7 (List.mem_of_getElem? (i := 140) rfl)) rfl, mo_X11_feed hG, (Nat.le_of_ble_eq_true rfl), _, rfl, rfl⟩
theorem cV_L_136 {G : GT} {l : Launch} (hG : GOK G l) : CVK G RL 136 yX11_drawing miX11_drawing 1 11 := ⟨gwd hG _ (tm_7 (List.mem_of_getElem? (i := 142) rfl)) rfl, gwd hG _ (tm_7 (List.mem_of_getElem? (i := 143) rfl)) rfl, gwd hG _ (tm_7 (List.mem_of_getElem? (i := 144) rfl)) rfl, mo_X11_drawing hG, (Nat.le_of_ble_eq_true rfl), _, rfl, rfl⟩
theorem cV_L_137 {G : GT} {l : Launch} (hG : GOK G l) : CVK G RL 137 yX11_thrown miX11_thrown 0 11 := ⟨gwd hG _ (tm_7 (List.mem_of_getElem? (i := 134) rfl)) rfl, gwd hG _ (tm_7 (List.mem_of_getElem? (i := 135) rfl)) rfl, gwd hG _ (tm_7 (List.mem_of_getElem? (i := 136) rfl)) rfl, mo_X11_thrown hG, (Nat.le_of_ble_eq_true rfl), _, rfl, rfl⟩
theorem cV_L_140 {G : GT} {l : Launch} (hG : GOK G l) : CVK G RL 140 yX10_fault miX10_fault 1 10 := ⟨gwd hG _ (tm_2 (List.mem_of_getElem? (i := 201) rfl)) rfl, gwd hG _ (tm_2 (List.mem_of_getElem? (i := 202) rfl)) rfl, gwd hG _ (tm_2 (List.mem_of_getElem? (i := 203) rfl)) rfl, mo_X10_fault hG, (Nat.le_of_ble_eq_true rfl), _, rfl, rfl⟩
theorem cV_L_143 {G : GT} {l : Launch} (hG : GOK G l) : CVK G RL 143 yX11_fault miX11_fault 1 11 := ⟨gwd hG _ (tm_8 (List.mem_of_getElem? (i := 10) rfl)) rfl, gwd hG _ (tm_8 (List.mem_of_getElem? (i := 11) rfl)) rfl, gwd hG _ (tm_8 (List.mem_of_getElem? (i := 12) rfl)) rfl, mo_X11_fault hG, (Nat.le_of_ble_eq_true rfl), _, rfl, rfl⟩
theorem cV_L_147 {G : GT} {l : Launch} (hG : GOK G l) : CVK G RL 147 yX11_line miX11_line 2 11 := ⟨gwd hG _ (tm_8 (List.mem_of_getElem? (i := 14) rfl)) rfl, gwd hG _ (tm_8 (List.mem_of_getElem? (i := 15) rfl)) rfl, gwd hG _ (tm_8 (List.mem_of_getElem? (i := 16) rfl)) rfl, mo_X11_line hG, (Nat.le_of_ble_eq_true rfl), _, rfl, rfl⟩
theorem cV_L_150 {G : GT} {l : Launch} (hG : GOK G l) : CVK G RL 150 yX11_lineAt miX11_lineAt 2 11 := ⟨gwd hG _ (tm_8 (List.mem_of_getElem? (i := 39) rfl)) rfl, gwd hG _ (tm_8 (List.mem_of_getElem? (i := 40) rfl)) rfl, gwd hG _ (tm_8 (List.mem_of_getElem? (i := 41) rfl)) rfl, mo_X11_lineAt hG, (Nat.le_of_ble_eq_true rfl), _, rfl, rfl⟩
theorem cV_L_153 {G : GT} {l : Launch} (hG : GOK G l) : CVK G RL 153 yX11_ends miX11_ends 2 11 := ⟨gwd hG _ (tm_8 (List.mem_of_getElem? (i := 51) rfl)) rfl, gwd hG _ (tm_8 (List.mem_of_getElem? (i := 52) rfl)) rfl, gwd hG _ (tm_8 (List.mem_of_getElem? (i := 53) rfl)) rfl, mo_X11_ends hG, (Nat.le_of_ble_eq_true rfl), _, rfl, rfl⟩
theorem cV_L_154 {G : GT} {l : Launch} (hG : GOK G l) : CVK G RL 154 yX10_knot miX10_knot 1 10 := ⟨gwd hG _ (tm_2 (List.mem_of_getElem? (i := 205) rfl)) rfl, gwd hG _ (tm_2 (List.mem_of_getElem? (i := 206) rfl)) rfl, gwd hG _ (tm_2 (List.mem_of_getElem? (i := 207) rfl)) rfl, mo_X10_knot hG, (Nat.le_of_ble_eq_true rfl), _, rfl, rfl⟩
theorem cV_L_157 {G : GT} {l : Launch} (hG : GOK G l) : CVK G RL 157 yX11_knot miX11_knot 1 11 := ⟨gwd hG _ (tm_8 (List.mem_of_getElem? (i := 66) rfl)) rfl, gwd hG _ (tm_8 (List.mem_of_getElem? (i := 67) rfl)) rfl, gwd hG _ (tm_8 (List.mem_of_getElem? (i := 68) rfl)) rfl, mo_X11_knot hG, (Nat.le_of_ble_eq_true rfl), _, rfl, rfl⟩
theorem cV_L_160 {G : GT} {l : Launch} (hG : GOK G l) : CVK G RL 160 yX11_parts miX11_parts 1 11 := ⟨gwd hG _ (tm_8 (List.mem_of_getElem? (i := 70) rfl)) rfl, gwd hG _ (tm_8 (List.mem_of_getElem? (i := 71) rfl)) rfl, gwd hG _ (tm_8 (List.mem_of_getElem? (i := 72) rfl)) rfl, mo_X11_parts hG, (Nat.le_of_ble_eq_true rfl), _, rfl, rfl⟩
theorem cV_L_163 {G : GT} {l : Launch} (hG : GOK G l) : CVK G RL 163 yX11_partOf miX11_partOf 1 11 := ⟨gwd hG _ (tm_8 (List.mem_of_getElem? (i := 82) rfl)) rfl, gwd hG _ (tm_8 (List.mem_of_getElem? (i := 83) rfl)) rfl, gwd hG _ (tm_8 (List.mem_of_getElem? (i := 84) rfl)) rfl, mo_X11_partOf hG, (Nat.le_of_ble_eq_true rfl), _, rfl, rfl⟩
theorem cV_L_166 {G : GT} {l : Launch} (hG : GOK G l) : CVK G RL 166 yX11_length miX11_length 1 11 := ⟨gwd hG _ (tm_8 (List.mem_of_getElem? (i := 86) rfl)) rfl, gwd hG _ (tm_8 (List.mem_of_getElem? (i := 87) rfl)) rfl, gwd hG _ (tm_8 (List.mem_of_getElem? (i := 88) rfl)) rfl, mo_X11_length hG, (Nat.le_of_ble_eq_true rfl), _, rfl, rfl⟩
theorem cV_L_167 {G : GT} {l : Launch} (hG : GOK G l) : CVK G RL 167 yX10_crossings miX10_crossings 1 10 := ⟨gwd hG _ (tm_2 (List.mem_of_getElem? (i := 213) rfl)) rfl, gwd hG _ (tm_2 (List.mem_of_getElem? (i := 214) rfl)) rfl, gwd hG _ (tm_2 (List.mem_of_getElem? (i := 215) rfl)) rfl, mo_X10_crossings hG, (Nat.le_of_ble_eq_true rfl), _, rfl, rfl⟩
theorem cV_L_171 {G : GT} {l : Launch} (hG : GOK G l) : CVK G RL 171 yX11_crossings miX11_crossings 1 11 := ⟨gwd hG _ (tm_8 (List.mem_of_getElem? (i := 94) rfl)) rfl, gwd hG _ (tm_8 (List.mem_of_getElem? (i := 95) rfl)) rfl, gwd hG _ (tm_8 (List.mem_of_getElem? (i := 96) rfl)) rfl, mo_X11_crossings hG, (Nat.le_of_ble_eq_true rfl), _, rfl, rfl⟩
theorem cV_L_174 {G : GT} {l : Launch} (hG : GOK G l) : CVK G RL 174 yX11_alike miX11_alike 1 11 := ⟨gwd hG _ (tm_8 (List.mem_of_getElem? (i := 103) rfl)) rfl, gwd hG _ (tm_8 (List.mem_of_getElem? (i := 104) rfl)) rfl, gwd hG _ (tm_8 (List.mem_of_getElem? (i := 105) rfl)) rfl, mo_X11_alike hG, (Nat.le_of_ble_eq_true rfl), _, rfl, rfl⟩
theorem cV_L_178 {G : GT} {l : Launch} (hG : GOK G l) : CVK G RL 178 yX11_begin miX11_begin 3 11 := ⟨gwd hG _ (tm_8 (List.mem_of_getElem? (i := 121) rfl)) rfl, gwd hG _ (tm_8 (List.mem_of_getElem? (i := 122) rfl)) rfl, gwd hG _ (tm_8 (List.mem_of_getElem? (i := 123) rfl)) rfl, mo_X11_begin hG, (Nat.le_of_ble_eq_true rfl), _, rfl, rfl⟩
theorem cV_L_182 {G : GT} {l : Launch} (hG : GOK G l) : CVK G RL 182 yX11_cut miX11_cut 0 11 := ⟨gwd hG _ (tm_8 (List.mem_of_getElem? (i := 125) rfl)) rfl, gwd hG _ (tm_8 (List.mem_of_getElem? (i := 126) rfl)) rfl, gwd hG _ (tm_8 (List.mem_of_getElem? (i := 127) rfl)) rfl, mo_X11_cut hG, (Nat.le_of_ble_eq_true rfl), _, rfl, rfl⟩
theorem cV_L_185 {G : GT} {l : Launch} (hG : GOK G l) : CVK G RL 185 yX11_may miX11_may 1 11 := ⟨gwd hG _ (tm_8 (List.mem_of_getElem? (i := 133) rfl)) rfl, gwd hG _ (tm_8 (List.mem_of_getElem? (i := 134) rfl)) rfl, gwd hG _ (tm_8 (List.mem_of_getElem? (i := 135) rfl)) rfl, mo_X11_may hG, (Nat.le_of_ble_eq_true rfl), _, rfl, rfl⟩
theorem cV_L_188 {G : GT} {l : Launch} (hG : GOK G l) : CVK G RL 188 yX11_stitch miX11_stitch 1 11 := ⟨gwd hG _ (tm_8 (List.mem_of_getElem? (i := 156) rfl)) rfl, gwd hG _ (tm_8 (List.mem_of_getElem? (i := 157) rfl)) rfl, gwd hG _ (tm_8 (List.mem_of_getElem? (i := 158) rfl)) rfl, mo_X11_stitch hG, (Nat.le_of_ble_eq_true rfl), _, rfl, rfl⟩
theorem cV_L_191 {G : GT} {l : Launch} (hG : GOK G l) : CVK G RL 191 yX11_unpick miX11_unpick 1 11 := ⟨gwd hG _ (tm_8 (List.mem_of_getElem? (i := 168) rfl)) rfl, gwd hG _ (tm_8 (List.mem_of_getElem? (i := 169) rfl)) rfl, gwd hG _ (tm_8 (List.mem_of_getElem? (i := 170) rfl)) rfl, mo_X11_unpick hG, (Nat.le_of_ble_eq_true rfl), _, rfl, rfl⟩
theorem cV_L_194 {G : GT} {l : Launch} (hG : GOK G l) : CVK G RL 194 yX11_thread miX11_thread 1 11 := ⟨gwd hG _ (tm_8 (List.mem_of_getElem? (i := 176) rfl)) rfl, gwd hG _ (tm_8 (List.mem_of_getElem? (i := 177) rfl)) rfl, gwd hG _ (tm_8 (List.mem_of_getElem? (i := 178) rfl)) rfl, mo_X11_thread hG, (Nat.le_of_ble_eq_true rfl), _, rfl, rfl⟩
theorem cV_L_197 {G : GT} {l : Launch} (hG : GOK G l) : CVK G RL 197 yX11_done miX11_done 1 11 := ⟨gwd hG _ (tm_8 (List.mem_of_getElem? (i := 181) rfl)) rfl, gwd hG _ (tm_8 (List.mem_of_getElem? (i := 182) rfl)) rfl, gwd hG _ (tm_8 (List.mem_of_getElem? (i := 183) rfl)) rfl, mo_X11_done hG, (Nat.le_of_ble_eq_true rfl), _, rfl, rfl⟩
theorem cV_L_200 {G : GT} {l : Launch} (hG : GOK G l) : CVK G RL 200 yX11_judge miX11_judge 2 11 := ⟨gwd hG _ (tm_8 (List.mem_of_getElem? (i := 185) rfl)) rfl, gwd hG _ (tm_8 (List.mem_of_getElem? (i := 186) rfl)) rfl, gwd hG _ (tm_8 (List.mem_of_getElem? (i := 187) rfl)) rfl, mo_X11_judge hG, (Nat.le_of_ble_eq_true rfl), _, rfl, rfl⟩
theorem cV_L_203 {G : GT} {l : Launch} (hG : GOK G l) : CVK G RL 203 yX11_perform miX11_perform 1 11 := ⟨gwd hG _ (tm_8 (List.mem_of_getElem? (i := 204) rfl)) rfl, gwd hG _ (tm_8 (List.mem_of_getElem? (i := 205) rfl)) rfl, gwd hG _ (tm_8 (List.mem_of_getElem? (i := 206) rfl)) rfl, mo_X11_perform hG, (Nat.le_of_ble_eq_true rfl), _, rfl, rfl⟩
theorem cV_L_206 {G : GT} {l : Launch} (hG : GOK G l) : CVK G RL 206 yX11_left miX11_left 0 11 := ⟨gwd hG _ (tm_8 (List.mem_of_getElem? (i := 208) rfl)) rfl, gwd hG _ (tm_8 (List.mem_of_getElem? (i := 209) rfl)) rfl, gwd hG _ (tm_8 (List.mem_of_getElem? (i := 210) rfl)) rfl, mo_X11_left hG, (Nat.le_of_ble_eq_true rfl), _, rfl, rfl⟩
theorem cV_L_209 {G : GT} {l : Launch} (hG : GOK G l) : CVK G RL 209 yX11_barred miX11_barred 1 11 := ⟨gwd hG _ (tm_8 (List.mem_of_getElem? (i := 212) rfl)) rfl, gwd hG _ (tm_8 (List.mem_of_getElem? (i := 213) rfl)) rfl, gwd hG _ (tm_8 (List.mem_of_getElem? (i := 214) rfl)) rfl, mo_X11_barred hG, (Nat.le_of_ble_eq_true rfl), _, rfl, rfl⟩
theorem cV_L_212 {G : GT} {l : Launch} (hG : GOK G l) : CVK G RL 212 yX11_ending miX11_ending 0 11 := ⟨gwd hG _ (tm_8 (List.mem_of_getElem? (i := 225) rfl)) rfl, gwd hG _ (tm_8 (List.mem_of_getElem? (i := 226) rfl)) rfl, gwd hG _ (tm_8 (List.mem_of_getElem? (i := 227) rfl)) rfl, mo_X11_ending hG, (Nat.le_of_ble_eq_true rfl), _, rfl, rfl⟩
theorem cV_L_215 {G : GT} {l : Launch} (hG : GOK G l) : CVK G RL 215 yX11_working miX11_working 1 11 := ⟨gwd hG _ (tm_8 (List.mem_of_getElem? (i := 229) rfl)) rfl, gwd hG _ (tm_8 (List.mem_of_getElem? (i := 230) rfl)) rfl, gwd hG _ (tm_8 (List.mem_of_getElem? (i := 231) rfl)) rfl, mo_X11_working hG, (Nat.le_of_ble_eq_true rfl), _, rfl, rfl⟩
theorem cV_L_218 {G : GT} {l : Launch} (hG : GOK G l) : CVK G RL 218 yX11_work miX11_work 0 11 := ⟨gwd hG _ (tm_9 (List.mem_of_getElem? (i := 1) rfl)) rfl, gwd hG _ (tm_9 (List.mem_of_getElem? (i := 2) rfl)) rfl, gwd hG _ (tm_9 (List.mem_of_getElem? (i := 3) rfl)) rfl, mo_X11_work hG, (Nat.le_of_ble_eq_true rfl), _, rfl, rfl⟩
theorem cV_L_221 {G : GT} {l : Launch} (hG : GOK G l) : CVK G RL 221 yX11_ways miX11_ways 0 11 := ⟨gwd hG _ (tm_9 (List.mem_of_getElem? (i := 5) rfl)) rfl, gwd hG _ (tm_9 (List.mem_of_getElem? (i := 6) rfl)) rfl, gwd hG _ (tm_9 (List.mem_of_getElem? (i := 7) rfl)) rfl, mo_X11_ways hG, (Nat.le_of_ble_eq_true rfl), _, rfl, rfl⟩
theorem cV_L_225 {G : GT} {l : Launch} (hG : GOK G l) : CVK G RL 225 yX11_unpicked miX11_unpicked 2 11 := ⟨gwd hG _ (tm_9 (List.mem_of_getElem? (i := 13) rfl)) rfl, gwd hG _ (tm_9 (List.mem_of_getElem? (i := 14) rfl)) rfl, gwd hG _ (tm_9 (List.mem_of_getElem? (i := 15) rfl)) rfl, mo_X11_unpicked hG, (Nat.le_of_ble_eq_true rfl), _, rfl, rfl⟩
theorem cV_L_228 {G : GT} {l : Launch} (hG : GOK G l) : CVK G RL 228 yX11_places miX11_places 1 11 := ⟨gwd hG _ (tm_9 (List.mem_of_getElem? (i := 22) rfl)) rfl, gwd hG _ (tm_9 (List.mem_of_getElem? (i := 23) rfl)) rfl, gwd hG _ (tm_9 (List.mem_of_getElem? (i := 24) rfl)) rfl, mo_X11_places hG, (Nat.le_of_ble_eq_true rfl), _, rfl, rfl⟩
theorem cV_L_231 {G : GT} {l : Launch} (hG : GOK G l) : CVK G RL 231 yX11_threads miX11_threads 2 11 := ⟨gwd hG _ (tm_9 (List.mem_of_getElem? (i := 26) rfl)) rfl, gwd hG _ (tm_9 (List.mem_of_getElem? (i := 27) rfl)) rfl, gwd hG _ (tm_9 (List.mem_of_getElem? (i := 28) rfl)) rfl, mo_X11_threads hG, (Nat.le_of_ble_eq_true rfl), _, rfl, rfl⟩
theorem cV_L_232 {G : GT} {l : Launch} (hG : GOK G l) : CVK G RL 232 yX10_seen miX10_seen 1 10 := ⟨gwd hG _ (tm_2 (List.mem_of_getElem? (i := 239) rfl)) rfl, gwd hG _ (tm_3 (List.mem_of_getElem? (i := 0) rfl)) rfl, gwd hG _ (tm_3 (List.mem_of_getElem? (i := 1) rfl)) rfl, mo_X10_seen hG, (Nat.le_of_ble_eq_true rfl), _, rfl, rfl⟩
theorem cV_L_235 {G : GT} {l : Launch} (hG : GOK G l) : CVK G RL 235 yX11_seen miX11_seen 1 11 := ⟨gwd hG _ (tm_9 (List.mem_of_getElem? (i := 50) rfl)) rfl, gwd hG _ (tm_9 (List.mem_of_getElem? (i := 51) rfl)) rfl, gwd hG _ (tm_9 (List.mem_of_getElem? (i := 52) rfl)) rfl, mo_X11_seen hG, (Nat.le_of_ble_eq_true rfl), _, rfl, rfl⟩
theorem cV_L_236 {G : GT} {l : Launch} (hG : GOK G l) : CVK G RL 236 yX10_same miX10_same 0 10 := ⟨gwd hG _ (tm_3 (List.mem_of_getElem? (i := 9) rfl)) rfl, gwd hG _ (tm_3 (List.mem_of_getElem? (i := 10) rfl)) rfl, gwd hG _ (tm_3 (List.mem_of_getElem? (i := 11) rfl)) rfl, mo_X10_same hG, (Nat.le_of_ble_eq_true rfl), _, rfl, rfl⟩
theorem cV_L_240 {G : GT} {l : Launch} (hG : GOK G l) : CVK G RL 240 yX11_same miX11_same 0 11 := ⟨gwd hG _ (tm_9 (List.mem_of_getElem? (i := 54) rfl)) rfl, gwd hG _ (tm_9 (List.mem_of_getElem? (i := 55) rfl)) rfl, gwd hG _ (tm_9 (List.mem_of_getElem? (i := 56) rfl)) rfl, mo_X11_same hG, (Nat.le_of_ble_eq_true rfl), _, rfl, rfl⟩
theorem cV_L_243 {G : GT} {l : Launch} (hG : GOK G l) : CVK G RL 243 yX11_sameAt miX11_sameAt 1 11 := ⟨gwd hG _ (tm_9 (List.mem_of_getElem? (i := 62) rfl)) rfl, gwd hG _ (tm_9 (List.mem_of_getElem? (i := 63) rfl)) rfl, gwd hG _ (tm_9 (List.mem_of_getElem? (i := 64) rfl)) rfl, mo_X11_sameAt hG, (Nat.le_of_ble_eq_true rfl), _, rfl, rfl⟩
theorem cV_L_246 {G : GT} {l : Launch} (hG : GOK G l) : CVK G RL 246 yX11_unlike miX11_unlike 1 11 := ⟨gwd hG _ (tm_9 (List.mem_of_getElem? (i := 66) rfl)) rfl, gwd hG _ (tm_9 (List.mem_of_getElem? (i := 67) rfl)) rfl, gwd hG _ (tm_9 (List.mem_of_getElem? (i := 68) rfl)) rfl, mo_X11_unlike hG, (Nat.le_of_ble_eq_true rfl), _, rfl, rfl⟩
theorem cV_L_250 {G : GT} {l : Launch} (hG : GOK G l) : CVK G RL 250 yX11_tray miX11_tray 3 11 := ⟨gwd hG _ (tm_9 (List.mem_of_getElem? (i := 70) rfl)) rfl, gwd hG _ (tm_9 (List.mem_of_getElem? (i := 71) rfl)) rfl, gwd hG _ (tm_9 (List.mem_of_getElem? (i := 72) rfl)) rfl, mo_X11_tray hG, (Nat.le_of_ble_eq_true rfl), _, rfl, rfl⟩
theorem cV_L_256 {G : GT} {l : Launch} (hG : GOK G l) : CVK G RL 256 yX11_write miX11_write 3 11 := ⟨gwd hG _ (tm_9 (List.mem_of_getElem? (i := 75) rfl)) rfl, gwd hG _ (tm_9 (List.mem_of_getElem? (i := 76) rfl)) rfl, gwd hG _ (tm_9 (List.mem_of_getElem? (i := 77) rfl)) rfl, mo_X11_write hG, (Nat.le_of_ble_eq_true rfl), _, rfl, rfl⟩
theorem cV_L_260 {G : GT} {l : Launch} (hG : GOK G l) : CVK G RL 260 yX11_image miX11_image 1 11 := ⟨gwd hG _ (tm_9 (List.mem_of_getElem? (i := 79) rfl)) rfl, gwd hG _ (tm_9 (List.mem_of_getElem? (i := 80) rfl)) rfl, gwd hG _ (tm_9 (List.mem_of_getElem? (i := 81) rfl)) rfl, mo_X11_image hG, (Nat.le_of_ble_eq_true rfl), _, rfl, rfl⟩
theorem cV_L_263 {G : GT} {l : Launch} (hG : GOK G l) : CVK G RL 263 yX11_restore miX11_restore 1 11 := ⟨gwd hG _ (tm_9 (List.mem_of_getElem? (i := 83) rfl)) rfl, gwd hG _ (tm_9 (List.mem_of_getElem? (i := 84) rfl)) rfl, gwd hG _ (tm_9 (List.mem_of_getElem? (i := 85) rfl)) rfl, mo_X11_restore hG, (Nat.le_of_ble_eq_true rfl), _, rfl, rfl⟩
theorem cV_L_264 {G : GT} {l : Launch} (hG : GOK G l) : CVK G RL 264 yX10_count miX10_count 1 10 := ⟨gwd hG _ (tm_3 (List.mem_of_getElem? (i := 13) rfl)) rfl, gwd hG _ (tm_3 (List.mem_of_getElem? (i := 14) rfl)) rfl, gwd hG _ (tm_3 (List.mem_of_getElem? (i := 15) rfl)) rfl, mo_X10_count hG, (Nat.le_of_ble_eq_true rfl), _, rfl, rfl⟩
theorem cV_L_267 {G : GT} {l : Launch} (hG : GOK G l) : CVK G RL 267 yX11_count miX11_count 1 11 := ⟨gwd hG _ (tm_9 (List.mem_of_getElem? (i := 87) rfl)) rfl, gwd hG _ (tm_9 (List.mem_of_getElem? (i := 88) rfl)) rfl, gwd hG _ (tm_9 (List.mem_of_getElem? (i := 89) rfl)) rfl, mo_X11_count hG, (Nat.le_of_ble_eq_true rfl), _, rfl, rfl⟩
theorem gw_L_251 {G : GT} {l : Launch} (hG : GOK G l) : GW G (.constantLong RL 251 (4294967295)) := gwd hG _ (tm_9 (List.mem_of_getElem? (i := 91) rfl)) rfl
def Lw_law_2321 (L : Nat) (xs : Nat → Int32) (r23 : Int32 → PH → Option (Int32 × PH)) (v4 : Int32) (P : PH) : Option (Int32 × PH) :=
  r23 (v4 + 6) P
set_option maxRecDepth 100000 in
set_option maxHeartbeats 4000000 in
theorem Lw_law_2321_sem {G : GT} {l : Launch} (hG : GOK G l) (kr : Nat) (r23 : Int32 → PH → Option (Int32 × PH)) (hr23 : ∀ (v4 : Int32) (P : PH), Sem G l miL_law kr (6 * kr) (rn tIH) 23 [(0, .ref (gB G)), (1, .ref (gA G 0)), (2, .ref (gA G 1)), (3, .ref (gA G 2)), (4, .int v4)] [] P (r23 v4 P)) (v4 : Int32) (P : PH) : Sem G l miL_law (kr + 0) (6 * kr + 0) (rn tIH) 2321 [(0, .ref (gB G)), (1, .ref (gA G 0)), (2, .ref (gA G 1)), (3, .ref (gA G 2)), (4, .int v4)] [] P (Lw_law_2321 (gL G) (gX G) r23 v4 P) := by
  unfold Lw_law_2321
  refine s_iinc (pc := 2321) 4 6 [(4, .int (v4 + 6)), (0, .ref (gB G)), (1, .ref (gA G 0)), (2, .ref (gA G 1)), (3, .ref (gA G 2))] dL_law_2321 rfl rfl (Nat.le_of_ble_eq_true rfl) rfl ?_
  refine s_goto (pc := 2324) 23 dL_law_2324 rfl ?_
  refine s_sub [1, 2, 3, 4, 0] rfl ?_
  refine s_budget (k2 := kr) (n2 := 6 * kr) (by omega) (by omega) ?_
  exact hr23 (v4 + 6) P
def Lw_law_212 (L : Nat) (xs : Nat → Int32) (r23 : Int32 → PH → Option (Int32 × PH)) (v4 : Int32) (P : PH) : Option (Int32 × PH) :=
  gdI (v4 + (1 : Int32)) L <|
  gdI (v4 + (2 : Int32)) L <|
  gdI (v4 + (3 : Int32)) L <|
  gdI (v4 + (4 : Int32)) L <|
  gdI (v4 + (5 : Int32)) L <|
  (Bs_feed (xs (v4 + (1 : Int32)).toNatClampNeg) (xs (v4 + (2 : Int32)).toNatClampNeg) (xs (v4 + (3 : Int32)).toNatClampNeg) (xs (v4 + (4 : Int32)).toNatClampNeg) (xs (v4 + (5 : Int32)).toNatClampNeg) P).bind fun (x243 : Int32 × PH) =>
  gdI (v4 + (1 : Int32)) L <|
  gdI (v4 + (2 : Int32)) L <|
  gdI (v4 + (3 : Int32)) L <|
  gdI (v4 + (4 : Int32)) L <|
  gdI (v4 + (5 : Int32)) L <|
  (Mo_feed (xs (v4 + (1 : Int32)).toNatClampNeg) (xs (v4 + (2 : Int32)).toNatClampNeg) (xs (v4 + (3 : Int32)).toNatClampNeg) (xs (v4 + (4 : Int32)).toNatClampNeg) (xs (v4 + (5 : Int32)).toNatClampNeg) x243.2).bind fun (x277 : Int32 × PH) =>
  if x243.1 = x277.1 then
    Lw_law_2321 L xs r23 v4 x277.2
  else
    gdP ((0 : Int32) = 0 ∨ (0 : Int32) = 1) <|
    some ((0 : Int32), x277.2)
set_option maxRecDepth 100000 in
set_option maxHeartbeats 4000000 in
theorem Lw_law_212_sem {G : GT} {l : Launch} (hG : GOK G l) (kr : Nat) (r23 : Int32 → PH → Option (Int32 × PH)) (hr23 : ∀ (v4 : Int32) (P : PH), Sem G l miL_law kr (6 * kr) (rn tIH) 23 [(0, .ref (gB G)), (1, .ref (gA G 0)), (2, .ref (gA G 1)), (3, .ref (gA G 2)), (4, .int v4)] [] P (r23 v4 P)) (v4 : Int32) (P : PH) : Sem G l miL_law (kr + 4) (6 * kr + 24) (rn tIH) 212 [(0, .ref (gB G)), (1, .ref (gA G 0)), (2, .ref (gA G 1)), (3, .ref (gA G 2)), (4, .int v4)] [] P (Lw_law_212 (gL G) (gX G) r23 v4 P) := by
  unfold Lw_law_212
  refine s_aload_n (pc := 212) 1 dL_law_212 rfl rfl ?_
  refine s_aload_n (pc := 213) 0 dL_law_213 rfl rfl ?_
  refine s_iload (pc := 214) 4 dL_law_214 rfl ?_
  refine s_iconst (pc := 216) (v := 1) dL_law_216 rfl ?_
  refine s_iadd (pc := 217) dL_law_217 ?_
  refine s_sld (pc := 218) dL_law_218 ?_
  refine s_aload_n (pc := 219) 0 dL_law_219 rfl rfl ?_
  refine s_iload (pc := 220) 4 dL_law_220 rfl ?_
  refine s_iconst (pc := 222) (v := 2) dL_law_222 rfl ?_
  refine s_iadd (pc := 223) dL_law_223 ?_
  refine s_sld (pc := 224) dL_law_224 ?_
  refine s_aload_n (pc := 225) 0 dL_law_225 rfl rfl ?_
  refine s_iload (pc := 226) 4 dL_law_226 rfl ?_
  refine s_iconst (pc := 228) (v := 3) dL_law_228 rfl ?_
  refine s_iadd (pc := 229) dL_law_229 ?_
  refine s_sld (pc := 230) dL_law_230 ?_
  refine s_aload_n (pc := 231) 0 dL_law_231 rfl rfl ?_
  refine s_iload (pc := 232) 4 dL_law_232 rfl ?_
  refine s_iconst (pc := 234) (v := 4) dL_law_234 rfl ?_
  refine s_iadd (pc := 235) dL_law_235 ?_
  refine s_sld (pc := 236) dL_law_236 ?_
  refine s_aload_n (pc := 237) 0 dL_law_237 rfl rfl ?_
  refine s_iload (pc := 238) 4 dL_law_238 rfl ?_
  refine s_iconst (pc := 240) (v := 5) dL_law_240 rfl ?_
  refine s_iadd (pc := 241) dL_law_241 ?_
  refine s_sld (pc := 242) dL_law_242 ?_
  refine s_callV (k := (kr + 4)) (n := (6 * kr + 24)) (pc := 243) [.int ((gX G) (v4 + (1 : Int32)).toNatClampNeg), .int ((gX G) (v4 + (2 : Int32)).toNatClampNeg), .int ((gX G) (v4 + (3 : Int32)).toNatClampNeg), .int ((gX G) (v4 + (4 : Int32)).toNatClampNeg), .int ((gX G) (v4 + (5 : Int32)).toNatClampNeg)] (fun x243 => .int (x243.1) :: []) (fun x243 => x243.2) dL_law_243 (cV_L_126 hG) (Nat.le_of_ble_eq_true rfl) rfl kd_0 (Bs_feed_ok hG ((gX G) (v4 + (1 : Int32)).toNatClampNeg) ((gX G) (v4 + (2 : Int32)).toNatClampNeg) ((gX G) (v4 + (3 : Int32)).toNatClampNeg) ((gX G) (v4 + (4 : Int32)).toNatClampNeg) ((gX G) (v4 + (5 : Int32)).toNatClampNeg) P) rfl (fun _ => rfl) (fun _ => rfl) (Nat.le_of_ble_eq_true rfl) (by omega) (by omega) (fun x243 => ?_)
  refine s_aload_n (pc := 246) 2 dL_law_246 rfl rfl ?_
  refine s_aload_n (pc := 247) 0 dL_law_247 rfl rfl ?_
  refine s_iload (pc := 248) 4 dL_law_248 rfl ?_
  refine s_iconst (pc := 250) (v := 1) dL_law_250 rfl ?_
  refine s_iadd (pc := 251) dL_law_251 ?_
  refine s_sld (pc := 252) dL_law_252 ?_
  refine s_aload_n (pc := 253) 0 dL_law_253 rfl rfl ?_
  refine s_iload (pc := 254) 4 dL_law_254 rfl ?_
  refine s_iconst (pc := 256) (v := 2) dL_law_256 rfl ?_
  refine s_iadd (pc := 257) dL_law_257 ?_
  refine s_sld (pc := 258) dL_law_258 ?_
  refine s_aload_n (pc := 259) 0 dL_law_259 rfl rfl ?_
  refine s_iload (pc := 260) 4 dL_law_260 rfl ?_
  refine s_iconst (pc := 262) (v := 3) dL_law_262 rfl ?_
  refine s_iadd (pc := 263) dL_law_263 ?_
  refine s_sld (pc := 264) dL_law_264 ?_
  refine s_aload_n (pc := 265) 0 dL_law_265 rfl rfl ?_
  refine s_iload (pc := 266) 4 dL_law_266 rfl ?_
  refine s_iconst (pc := 268) (v := 4) dL_law_268 rfl ?_
  refine s_iadd (pc := 269) dL_law_269 ?_
  refine s_sld (pc := 270) dL_law_270 ?_
  refine s_aload_n (pc := 271) 0 dL_law_271 rfl rfl ?_
  refine s_iload (pc := 272) 4 dL_law_272 rfl ?_
  refine s_iconst (pc := 274) (v := 5) dL_law_274 rfl ?_
  refine s_iadd (pc := 275) dL_law_275 ?_
  refine s_sld (pc := 276) dL_law_276 ?_
  refine s_callV (k := (kr + 4)) (n := (6 * kr + 24)) (pc := 277) [.int ((gX G) (v4 + (1 : Int32)).toNatClampNeg), .int ((gX G) (v4 + (2 : Int32)).toNatClampNeg), .int ((gX G) (v4 + (3 : Int32)).toNatClampNeg), .int ((gX G) (v4 + (4 : Int32)).toNatClampNeg), .int ((gX G) (v4 + (5 : Int32)).toNatClampNeg)] (fun x277 => .int (x277.1) :: [.int (x243.1)]) (fun x277 => x277.2) dL_law_277 (cV_L_130 hG) (Nat.le_of_ble_eq_true rfl) rfl kd_1 (Mo_feed_ok hG ((gX G) (v4 + (1 : Int32)).toNatClampNeg) ((gX G) (v4 + (2 : Int32)).toNatClampNeg) ((gX G) (v4 + (3 : Int32)).toNatClampNeg) ((gX G) (v4 + (4 : Int32)).toNatClampNeg) ((gX G) (v4 + (5 : Int32)).toNatClampNeg) x243.2) rfl (fun _ => rfl) (fun _ => rfl) (Nat.le_of_ble_eq_true rfl) (by omega) (by omega) (fun x277 => ?_)
  refine s_icmp_eq (pc := 280) 2321 dL_law_280 rfl ?_ ?_
  · refine s_budget (k2 := (kr + 0)) (n2 := (6 * kr + 0)) (by omega) (by omega) ?_
    exact Lw_law_2321_sem hG kr r23 hr23 v4 x277.2
  · refine s_iconst (pc := 283) (v := 0) dL_law_283 rfl ?_
    exact s_zret (pc := 284) dL_law_284 rfl rfl
def Lw_law_285 (L : Nat) (xs : Nat → Int32) (r23 : Int32 → PH → Option (Int32 × PH)) (v4 : Int32) (P : PH) : Option (Int32 × PH) :=
  gdI (v4 + (1 : Int32)) L <|
  (Lw_drawing (xs (v4 + (1 : Int32)).toNatClampNeg) P).bind fun (x293 : Int32 × PH) =>
  gdI (v4 + (1 : Int32)) L <|
  (Mo_drawing (xs (v4 + (1 : Int32)).toNatClampNeg) x293.2).bind fun (x305 : Int32 × PH) =>
  (Mo_thrown x305.2).bind fun (x311 : Int32) =>
  if x311 = x293.1 then
    if x293.1 = 0 then
      gdI (0 : Int32) 1 <|
      if (lg_cmp (x305.2.2 2 (0 : Int32).toNatClampNeg) ((x305.1).toInt64)) = 0 then
        Lw_law_2321 L xs r23 v4 x305.2
      else
        gdP ((0 : Int32) = 0 ∨ (0 : Int32) = 1) <|
        some ((0 : Int32), x305.2)
    else
      Lw_law_2321 L xs r23 v4 x305.2
  else
    gdP ((0 : Int32) = 0 ∨ (0 : Int32) = 1) <|
    some ((0 : Int32), x305.2)
set_option maxRecDepth 100000 in
set_option maxHeartbeats 4000000 in
theorem Lw_law_285_sem {G : GT} {l : Launch} (hG : GOK G l) (kr : Nat) (r23 : Int32 → PH → Option (Int32 × PH)) (hr23 : ∀ (v4 : Int32) (P : PH), Sem G l miL_law kr (6 * kr) (rn tIH) 23 [(0, .ref (gB G)), (1, .ref (gA G 0)), (2, .ref (gA G 1)), (3, .ref (gA G 2)), (4, .int v4)] [] P (r23 v4 P)) (v4 : Int32) (P : PH) : Sem G l miL_law (kr + 4) (6 * kr + 24) (rn tIH) 285 [(0, .ref (gB G)), (1, .ref (gA G 0)), (2, .ref (gA G 1)), (3, .ref (gA G 2)), (4, .int v4)] [] P (Lw_law_285 (gL G) (gX G) r23 v4 P) := by
  unfold Lw_law_285
  refine s_aload_n (pc := 285) 1 dL_law_285 rfl rfl ?_
  refine s_aload_n (pc := 286) 0 dL_law_286 rfl rfl ?_
  refine s_iload (pc := 287) 4 dL_law_287 rfl ?_
  refine s_iconst (pc := 289) (v := 1) dL_law_289 rfl ?_
  refine s_iadd (pc := 290) dL_law_290 ?_
  refine s_sld (pc := 291) dL_law_291 ?_
  refine s_aload_n (pc := 292) 3 dL_law_292 rfl rfl ?_
  refine s_callSW (k := (kr + 3)) (n := (6 * kr + 18)) (pc := 293) [.ref (gA G 0), .int ((gX G) (v4 + (1 : Int32)).toNatClampNeg), .ref (gA G 2)] (fun x293 => .int x293.1 :: []) (fun x293 => x293.2) dL_law_293 (cW_131 hG) (Nat.le_of_ble_eq_true rfl) rfl (Lw_drawing_ok hG ((gX G) (v4 + (1 : Int32)).toNatClampNeg) P) rfl (fun _ => rfl) (fun _ => rfl) (Nat.le_of_ble_eq_true rfl) (by omega) (by omega) (fun x293 => ?_)
  refine s_istore (pc := 296) [(5, .int (x293.1)), (0, .ref (gB G)), (1, .ref (gA G 0)), (2, .ref (gA G 1)), (3, .ref (gA G 2)), (4, .int v4)] dL_law_296 (Nat.le_of_ble_eq_true rfl) rfl ?_
  refine s_aload_n (pc := 298) 3 dL_law_298 rfl rfl ?_
  refine s_aload_n (pc := 299) 1 dL_law_299 rfl rfl ?_
  refine s_iload (pc := 300) 5 dL_law_300 rfl ?_
  refine s_iconst (pc := 302) (v := 1) dL_law_302 rfl ?_
  refine s_iadd (pc := 303) dL_law_303 ?_
  refine s_sld (pc := 304) dL_law_304 ?_
  refine s_callV (k := (kr + 3)) (n := (6 * kr + 18)) (pc := 305) [.int ((gX G) (v4 + (1 : Int32)).toNatClampNeg)] (fun x305 => .int (x305.1) :: []) (fun x305 => x305.2) dL_law_305 (cV_L_136 hG) (Nat.le_of_ble_eq_true rfl) rfl kd_1 (Mo_drawing_ok hG ((gX G) (v4 + (1 : Int32)).toNatClampNeg) x293.2) rfl (fun _ => rfl) (fun _ => rfl) (Nat.le_of_ble_eq_true rfl) (by omega) (by omega) (fun x305 => ?_)
  refine s_istore (pc := 308) [(6, .int (x305.1)), (5, .int (x293.1)), (0, .ref (gB G)), (1, .ref (gA G 0)), (2, .ref (gA G 1)), (3, .ref (gA G 2)), (4, .int v4)] dL_law_308 (Nat.le_of_ble_eq_true rfl) rfl ?_
  refine s_aload_n (pc := 310) 4 dL_law_310 rfl rfl ?_
  refine s_callV (k := (kr + 3)) (n := (6 * kr + 18)) (pc := 311) [] (fun x311 => .int x311 :: []) (fun _ => x305.2) dL_law_311 (cV_L_137 hG) (Nat.le_of_ble_eq_true rfl) rfl kd_1 (Mo_thrown_ok hG x305.2) rfl (fun _ => rfl) (fun _ => rfl) (Nat.le_of_ble_eq_true rfl) (by omega) (by omega) (fun x311 => ?_)
  refine s_iload (pc := 314) 1 dL_law_314 rfl ?_
  refine s_icmp_eq (pc := 316) 321 dL_law_316 rfl ?_ ?_
  · refine s_iload (pc := 321) 1 dL_law_321 rfl ?_
    refine s_if_ne (pc := 323) 338 dL_law_323 rfl ?_ ?_
    · refine s_aload_n (pc := 326) 5 dL_law_326 rfl rfl ?_
      refine s_iconst (pc := 327) (v := 0) dL_law_327 rfl ?_
      refine s_lald (pc := 328) 1 dL_law_328 kd_2 ln_2 ?_
      refine s_iload (pc := 329) 0 dL_law_329 rfl ?_
      refine s_i2l (pc := 331) dL_law_331 ?_
      refine s_lcmp (pc := 332) dL_law_332 ?_
      refine s_if_eq (pc := 333) 338 dL_law_333 rfl ?_ ?_
      · refine s_goto (pc := 338) 2321 dL_law_338 rfl ?_
        refine s_sub [2, 3, 4, 5, 6] rfl ?_
        refine s_budget (k2 := (kr + 0)) (n2 := (6 * kr + 0)) (by omega) (by omega) ?_
        exact Lw_law_2321_sem hG kr r23 hr23 v4 x305.2
      · refine s_iconst (pc := 336) (v := 0) dL_law_336 rfl ?_
        exact s_zret (pc := 337) dL_law_337 rfl rfl
    · refine s_goto (pc := 338) 2321 dL_law_338 rfl ?_
      refine s_sub [2, 3, 4, 5, 6] rfl ?_
      refine s_budget (k2 := (kr + 0)) (n2 := (6 * kr + 0)) (by omega) (by omega) ?_
      exact Lw_law_2321_sem hG kr r23 hr23 v4 x305.2
  · refine s_iconst (pc := 319) (v := 0) dL_law_319 rfl ?_
    exact s_zret (pc := 320) dL_law_320 rfl rfl
def Lw_law_341 (L : Nat) (xs : Nat → Int32) (r23 : Int32 → PH → Option (Int32 × PH)) (v4 : Int32) (P : PH) : Option (Int32 × PH) :=
  gdI (v4 + (1 : Int32)) L <|
  (Bs_fault (xs (v4 + (1 : Int32)).toNatClampNeg) P).bind fun (x348 : Int32) =>
  gdI (v4 + (1 : Int32)) L <|
  (Mo_fault (xs (v4 + (1 : Int32)).toNatClampNeg) P).bind fun (x358 : Int32 × PH) =>
  if x348 = x358.1 then
    Lw_law_2321 L xs r23 v4 x358.2
  else
    gdP ((0 : Int32) = 0 ∨ (0 : Int32) = 1) <|
    some ((0 : Int32), x358.2)
set_option maxRecDepth 100000 in
set_option maxHeartbeats 4000000 in
theorem Lw_law_341_sem {G : GT} {l : Launch} (hG : GOK G l) (kr : Nat) (r23 : Int32 → PH → Option (Int32 × PH)) (hr23 : ∀ (v4 : Int32) (P : PH), Sem G l miL_law kr (6 * kr) (rn tIH) 23 [(0, .ref (gB G)), (1, .ref (gA G 0)), (2, .ref (gA G 1)), (3, .ref (gA G 2)), (4, .int v4)] [] P (r23 v4 P)) (v4 : Int32) (P : PH) : Sem G l miL_law (kr + 4) (6 * kr + 24) (rn tIH) 341 [(0, .ref (gB G)), (1, .ref (gA G 0)), (2, .ref (gA G 1)), (3, .ref (gA G 2)), (4, .int v4)] [] P (Lw_law_341 (gL G) (gX G) r23 v4 P) := by
  unfold Lw_law_341
  refine s_aload_n (pc := 341) 1 dL_law_341 rfl rfl ?_
  refine s_aload_n (pc := 342) 0 dL_law_342 rfl rfl ?_
  refine s_iload (pc := 343) 4 dL_law_343 rfl ?_
  refine s_iconst (pc := 345) (v := 1) dL_law_345 rfl ?_
  refine s_iadd (pc := 346) dL_law_346 ?_
  refine s_sld (pc := 347) dL_law_347 ?_
  refine s_callV (k := (kr + 4)) (n := (6 * kr + 24)) (pc := 348) [.int ((gX G) (v4 + (1 : Int32)).toNatClampNeg)] (fun x348 => .int x348 :: []) (fun _ => P) dL_law_348 (cV_L_140 hG) (Nat.le_of_ble_eq_true rfl) rfl kd_0 (Bs_fault_ok hG ((gX G) (v4 + (1 : Int32)).toNatClampNeg) P) rfl (fun _ => rfl) (fun _ => rfl) (Nat.le_of_ble_eq_true rfl) (by omega) (by omega) (fun x348 => ?_)
  refine s_aload_n (pc := 351) 2 dL_law_351 rfl rfl ?_
  refine s_aload_n (pc := 352) 0 dL_law_352 rfl rfl ?_
  refine s_iload (pc := 353) 4 dL_law_353 rfl ?_
  refine s_iconst (pc := 355) (v := 1) dL_law_355 rfl ?_
  refine s_iadd (pc := 356) dL_law_356 ?_
  refine s_sld (pc := 357) dL_law_357 ?_
  refine s_callV (k := (kr + 4)) (n := (6 * kr + 24)) (pc := 358) [.int ((gX G) (v4 + (1 : Int32)).toNatClampNeg)] (fun x358 => .int (x358.1) :: [.int x348]) (fun x358 => x358.2) dL_law_358 (cV_L_143 hG) (Nat.le_of_ble_eq_true rfl) rfl kd_1 (Mo_fault_ok hG ((gX G) (v4 + (1 : Int32)).toNatClampNeg) P) rfl (fun _ => rfl) (fun _ => rfl) (Nat.le_of_ble_eq_true rfl) (by omega) (by omega) (fun x358 => ?_)
  refine s_icmp_eq (pc := 361) 2321 dL_law_361 rfl ?_ ?_
  · refine s_budget (k2 := (kr + 0)) (n2 := (6 * kr + 0)) (by omega) (by omega) ?_
    exact Lw_law_2321_sem hG kr r23 hr23 v4 x358.2
  · refine s_iconst (pc := 364) (v := 0) dL_law_364 rfl ?_
    exact s_zret (pc := 365) dL_law_365 rfl rfl
def Lw_law_366 (L : Nat) (xs : Nat → Int32) (r23 : Int32 → PH → Option (Int32 × PH)) (v4 : Int32) (P : PH) : Option (Int32 × PH) :=
  gdI (v4 + (1 : Int32)) L <|
  gdI (v4 + (2 : Int32)) L <|
  (Lw_line (xs (v4 + (1 : Int32)).toNatClampNeg) (xs (v4 + (2 : Int32)).toNatClampNeg) P).bind fun (x380 : Int32 × PH) =>
  gdI (v4 + (1 : Int32)) L <|
  gdI (v4 + (2 : Int32)) L <|
  (Mo_line (xs (v4 + (1 : Int32)).toNatClampNeg) (xs (v4 + (2 : Int32)).toNatClampNeg) x380.2).bind fun (x398 : Int32 × PH) =>
  (Mo_thrown x398.2).bind fun (x404 : Int32) =>
  if x404 = x380.1 then
    if x380.1 = 0 then
      gdI (0 : Int32) 1 <|
      if (lg_cmp (x398.2.2 2 (0 : Int32).toNatClampNeg) ((x398.1).toInt64)) = 0 then
        Lw_law_2321 L xs r23 v4 x398.2
      else
        gdP ((0 : Int32) = 0 ∨ (0 : Int32) = 1) <|
        some ((0 : Int32), x398.2)
    else
      Lw_law_2321 L xs r23 v4 x398.2
  else
    gdP ((0 : Int32) = 0 ∨ (0 : Int32) = 1) <|
    some ((0 : Int32), x398.2)
set_option maxRecDepth 100000 in
set_option maxHeartbeats 4000000 in
theorem Lw_law_366_sem {G : GT} {l : Launch} (hG : GOK G l) (kr : Nat) (r23 : Int32 → PH → Option (Int32 × PH)) (hr23 : ∀ (v4 : Int32) (P : PH), Sem G l miL_law kr (6 * kr) (rn tIH) 23 [(0, .ref (gB G)), (1, .ref (gA G 0)), (2, .ref (gA G 1)), (3, .ref (gA G 2)), (4, .int v4)] [] P (r23 v4 P)) (v4 : Int32) (P : PH) : Sem G l miL_law (kr + 4) (6 * kr + 24) (rn tIH) 366 [(0, .ref (gB G)), (1, .ref (gA G 0)), (2, .ref (gA G 1)), (3, .ref (gA G 2)), (4, .int v4)] [] P (Lw_law_366 (gL G) (gX G) r23 v4 P) := by
  unfold Lw_law_366
  refine s_aload_n (pc := 366) 1 dL_law_366 rfl rfl ?_
  refine s_aload_n (pc := 367) 0 dL_law_367 rfl rfl ?_
  refine s_iload (pc := 368) 4 dL_law_368 rfl ?_
  refine s_iconst (pc := 370) (v := 1) dL_law_370 rfl ?_
  refine s_iadd (pc := 371) dL_law_371 ?_
  refine s_sld (pc := 372) dL_law_372 ?_
  refine s_aload_n (pc := 373) 0 dL_law_373 rfl rfl ?_
  refine s_iload (pc := 374) 4 dL_law_374 rfl ?_
  refine s_iconst (pc := 376) (v := 2) dL_law_376 rfl ?_
  refine s_iadd (pc := 377) dL_law_377 ?_
  refine s_sld (pc := 378) dL_law_378 ?_
  refine s_aload_n (pc := 379) 3 dL_law_379 rfl rfl ?_
  refine s_callSW (k := (kr + 2)) (n := (6 * kr + 12)) (pc := 380) [.ref (gA G 0), .int ((gX G) (v4 + (1 : Int32)).toNatClampNeg), .int ((gX G) (v4 + (2 : Int32)).toNatClampNeg), .ref (gA G 2)] (fun x380 => .int x380.1 :: []) (fun x380 => x380.2) dL_law_380 (cW_144 hG) (Nat.le_of_ble_eq_true rfl) rfl (Lw_line_ok hG ((gX G) (v4 + (1 : Int32)).toNatClampNeg) ((gX G) (v4 + (2 : Int32)).toNatClampNeg) P) rfl (fun _ => rfl) (fun _ => rfl) (Nat.le_of_ble_eq_true rfl) (by omega) (by omega) (fun x380 => ?_)
  refine s_istore (pc := 383) [(5, .int (x380.1)), (0, .ref (gB G)), (1, .ref (gA G 0)), (2, .ref (gA G 1)), (3, .ref (gA G 2)), (4, .int v4)] dL_law_383 (Nat.le_of_ble_eq_true rfl) rfl ?_
  refine s_aload_n (pc := 385) 3 dL_law_385 rfl rfl ?_
  refine s_aload_n (pc := 386) 1 dL_law_386 rfl rfl ?_
  refine s_iload (pc := 387) 5 dL_law_387 rfl ?_
  refine s_iconst (pc := 389) (v := 1) dL_law_389 rfl ?_
  refine s_iadd (pc := 390) dL_law_390 ?_
  refine s_sld (pc := 391) dL_law_391 ?_
  refine s_aload_n (pc := 392) 1 dL_law_392 rfl rfl ?_
  refine s_iload (pc := 393) 5 dL_law_393 rfl ?_
  refine s_iconst (pc := 395) (v := 2) dL_law_395 rfl ?_
  refine s_iadd (pc := 396) dL_law_396 ?_
  refine s_sld (pc := 397) dL_law_397 ?_
  refine s_callV (k := (kr + 2)) (n := (6 * kr + 12)) (pc := 398) [.int ((gX G) (v4 + (1 : Int32)).toNatClampNeg), .int ((gX G) (v4 + (2 : Int32)).toNatClampNeg)] (fun x398 => .int (x398.1) :: []) (fun x398 => x398.2) dL_law_398 (cV_L_147 hG) (Nat.le_of_ble_eq_true rfl) rfl kd_1 (Mo_line_ok hG ((gX G) (v4 + (1 : Int32)).toNatClampNeg) ((gX G) (v4 + (2 : Int32)).toNatClampNeg) x380.2) rfl (fun _ => rfl) (fun _ => rfl) (Nat.le_of_ble_eq_true rfl) (by omega) (by omega) (fun x398 => ?_)
  refine s_istore (pc := 401) [(6, .int (x398.1)), (5, .int (x380.1)), (0, .ref (gB G)), (1, .ref (gA G 0)), (2, .ref (gA G 1)), (3, .ref (gA G 2)), (4, .int v4)] dL_law_401 (Nat.le_of_ble_eq_true rfl) rfl ?_
  refine s_aload_n (pc := 403) 4 dL_law_403 rfl rfl ?_
  refine s_callV (k := (kr + 2)) (n := (6 * kr + 12)) (pc := 404) [] (fun x404 => .int x404 :: []) (fun _ => x398.2) dL_law_404 (cV_L_137 hG) (Nat.le_of_ble_eq_true rfl) rfl kd_1 (Mo_thrown_ok hG x398.2) rfl (fun _ => rfl) (fun _ => rfl) (Nat.le_of_ble_eq_true rfl) (by omega) (by omega) (fun x404 => ?_)
  refine s_iload (pc := 407) 1 dL_law_407 rfl ?_
  refine s_icmp_eq (pc := 409) 414 dL_law_409 rfl ?_ ?_
  · refine s_iload (pc := 414) 1 dL_law_414 rfl ?_
    refine s_if_ne (pc := 416) 431 dL_law_416 rfl ?_ ?_
    · refine s_aload_n (pc := 419) 5 dL_law_419 rfl rfl ?_
      refine s_iconst (pc := 420) (v := 0) dL_law_420 rfl ?_
      refine s_lald (pc := 421) 1 dL_law_421 kd_2 ln_2 ?_
      refine s_iload (pc := 422) 0 dL_law_422 rfl ?_
      refine s_i2l (pc := 424) dL_law_424 ?_
      refine s_lcmp (pc := 425) dL_law_425 ?_
      refine s_if_eq (pc := 426) 431 dL_law_426 rfl ?_ ?_
      · refine s_goto (pc := 431) 2321 dL_law_431 rfl ?_
        refine s_sub [2, 3, 4, 5, 6] rfl ?_
        refine s_budget (k2 := (kr + 0)) (n2 := (6 * kr + 0)) (by omega) (by omega) ?_
        exact Lw_law_2321_sem hG kr r23 hr23 v4 x398.2
      · refine s_iconst (pc := 429) (v := 0) dL_law_429 rfl ?_
        exact s_zret (pc := 430) dL_law_430 rfl rfl
    · refine s_goto (pc := 431) 2321 dL_law_431 rfl ?_
      refine s_sub [2, 3, 4, 5, 6] rfl ?_
      refine s_budget (k2 := (kr + 0)) (n2 := (6 * kr + 0)) (by omega) (by omega) ?_
      exact Lw_law_2321_sem hG kr r23 hr23 v4 x398.2
  · refine s_iconst (pc := 412) (v := 0) dL_law_412 rfl ?_
    exact s_zret (pc := 413) dL_law_413 rfl rfl
def Lw_law_434 (L : Nat) (xs : Nat → Int32) (r23 : Int32 → PH → Option (Int32 × PH)) (v4 : Int32) (P : PH) : Option (Int32 × PH) :=
  gdI (v4 + (1 : Int32)) L <|
  gdI (v4 + (2 : Int32)) L <|
  (Lw_lineAt (xs (v4 + (1 : Int32)).toNatClampNeg) (xs (v4 + (2 : Int32)).toNatClampNeg) P).bind fun (x448 : Int32 × PH) =>
  gdI (v4 + (1 : Int32)) L <|
  gdI (v4 + (2 : Int32)) L <|
  (Mo_lineAt (xs (v4 + (1 : Int32)).toNatClampNeg) (xs (v4 + (2 : Int32)).toNatClampNeg) x448.2).bind fun (x466 : Int32 × PH) =>
  (Mo_thrown x466.2).bind fun (x472 : Int32) =>
  if x472 = x448.1 then
    if x448.1 = 0 then
      gdI (0 : Int32) 1 <|
      if (lg_cmp (x466.2.2 2 (0 : Int32).toNatClampNeg) ((x466.1).toInt64)) = 0 then
        Lw_law_2321 L xs r23 v4 x466.2
      else
        gdP ((0 : Int32) = 0 ∨ (0 : Int32) = 1) <|
        some ((0 : Int32), x466.2)
    else
      Lw_law_2321 L xs r23 v4 x466.2
  else
    gdP ((0 : Int32) = 0 ∨ (0 : Int32) = 1) <|
    some ((0 : Int32), x466.2)
set_option maxRecDepth 100000 in
set_option maxHeartbeats 4000000 in
theorem Lw_law_434_sem {G : GT} {l : Launch} (hG : GOK G l) (kr : Nat) (r23 : Int32 → PH → Option (Int32 × PH)) (hr23 : ∀ (v4 : Int32) (P : PH), Sem G l miL_law kr (6 * kr) (rn tIH) 23 [(0, .ref (gB G)), (1, .ref (gA G 0)), (2, .ref (gA G 1)), (3, .ref (gA G 2)), (4, .int v4)] [] P (r23 v4 P)) (v4 : Int32) (P : PH) : Sem G l miL_law (kr + 4) (6 * kr + 24) (rn tIH) 434 [(0, .ref (gB G)), (1, .ref (gA G 0)), (2, .ref (gA G 1)), (3, .ref (gA G 2)), (4, .int v4)] [] P (Lw_law_434 (gL G) (gX G) r23 v4 P) := by
  unfold Lw_law_434
  refine s_aload_n (pc := 434) 1 dL_law_434 rfl rfl ?_
  refine s_aload_n (pc := 435) 0 dL_law_435 rfl rfl ?_
  refine s_iload (pc := 436) 4 dL_law_436 rfl ?_
  refine s_iconst (pc := 438) (v := 1) dL_law_438 rfl ?_
  refine s_iadd (pc := 439) dL_law_439 ?_
  refine s_sld (pc := 440) dL_law_440 ?_
  refine s_aload_n (pc := 441) 0 dL_law_441 rfl rfl ?_
  refine s_iload (pc := 442) 4 dL_law_442 rfl ?_
  refine s_iconst (pc := 444) (v := 2) dL_law_444 rfl ?_
  refine s_iadd (pc := 445) dL_law_445 ?_
  refine s_sld (pc := 446) dL_law_446 ?_
  refine s_aload_n (pc := 447) 3 dL_law_447 rfl rfl ?_
  refine s_callSW (k := (kr + 2)) (n := (6 * kr + 12)) (pc := 448) [.ref (gA G 0), .int ((gX G) (v4 + (1 : Int32)).toNatClampNeg), .int ((gX G) (v4 + (2 : Int32)).toNatClampNeg), .ref (gA G 2)] (fun x448 => .int x448.1 :: []) (fun x448 => x448.2) dL_law_448 (cW_148 hG) (Nat.le_of_ble_eq_true rfl) rfl (Lw_lineAt_ok hG ((gX G) (v4 + (1 : Int32)).toNatClampNeg) ((gX G) (v4 + (2 : Int32)).toNatClampNeg) P) rfl (fun _ => rfl) (fun _ => rfl) (Nat.le_of_ble_eq_true rfl) (by omega) (by omega) (fun x448 => ?_)
  refine s_istore (pc := 451) [(5, .int (x448.1)), (0, .ref (gB G)), (1, .ref (gA G 0)), (2, .ref (gA G 1)), (3, .ref (gA G 2)), (4, .int v4)] dL_law_451 (Nat.le_of_ble_eq_true rfl) rfl ?_
  refine s_aload_n (pc := 453) 3 dL_law_453 rfl rfl ?_
  refine s_aload_n (pc := 454) 1 dL_law_454 rfl rfl ?_
  refine s_iload (pc := 455) 5 dL_law_455 rfl ?_
  refine s_iconst (pc := 457) (v := 1) dL_law_457 rfl ?_
  refine s_iadd (pc := 458) dL_law_458 ?_
  refine s_sld (pc := 459) dL_law_459 ?_
  refine s_aload_n (pc := 460) 1 dL_law_460 rfl rfl ?_
  refine s_iload (pc := 461) 5 dL_law_461 rfl ?_
  refine s_iconst (pc := 463) (v := 2) dL_law_463 rfl ?_
  refine s_iadd (pc := 464) dL_law_464 ?_
  refine s_sld (pc := 465) dL_law_465 ?_
  refine s_callV (k := (kr + 2)) (n := (6 * kr + 12)) (pc := 466) [.int ((gX G) (v4 + (1 : Int32)).toNatClampNeg), .int ((gX G) (v4 + (2 : Int32)).toNatClampNeg)] (fun x466 => .int (x466.1) :: []) (fun x466 => x466.2) dL_law_466 (cV_L_150 hG) (Nat.le_of_ble_eq_true rfl) rfl kd_1 (Mo_lineAt_ok hG ((gX G) (v4 + (1 : Int32)).toNatClampNeg) ((gX G) (v4 + (2 : Int32)).toNatClampNeg) x448.2) rfl (fun _ => rfl) (fun _ => rfl) (Nat.le_of_ble_eq_true rfl) (by omega) (by omega) (fun x466 => ?_)
  refine s_istore (pc := 469) [(6, .int (x466.1)), (5, .int (x448.1)), (0, .ref (gB G)), (1, .ref (gA G 0)), (2, .ref (gA G 1)), (3, .ref (gA G 2)), (4, .int v4)] dL_law_469 (Nat.le_of_ble_eq_true rfl) rfl ?_
  refine s_aload_n (pc := 471) 4 dL_law_471 rfl rfl ?_
  refine s_callV (k := (kr + 2)) (n := (6 * kr + 12)) (pc := 472) [] (fun x472 => .int x472 :: []) (fun _ => x466.2) dL_law_472 (cV_L_137 hG) (Nat.le_of_ble_eq_true rfl) rfl kd_1 (Mo_thrown_ok hG x466.2) rfl (fun _ => rfl) (fun _ => rfl) (Nat.le_of_ble_eq_true rfl) (by omega) (by omega) (fun x472 => ?_)
  refine s_iload (pc := 475) 1 dL_law_475 rfl ?_
  refine s_icmp_eq (pc := 477) 482 dL_law_477 rfl ?_ ?_
  · refine s_iload (pc := 482) 1 dL_law_482 rfl ?_
    refine s_if_ne (pc := 484) 499 dL_law_484 rfl ?_ ?_
    · refine s_aload_n (pc := 487) 5 dL_law_487 rfl rfl ?_
      refine s_iconst (pc := 488) (v := 0) dL_law_488 rfl ?_
      refine s_lald (pc := 489) 1 dL_law_489 kd_2 ln_2 ?_
      refine s_iload (pc := 490) 0 dL_law_490 rfl ?_
      refine s_i2l (pc := 492) dL_law_492 ?_
      refine s_lcmp (pc := 493) dL_law_493 ?_
      refine s_if_eq (pc := 494) 499 dL_law_494 rfl ?_ ?_
      · refine s_goto (pc := 499) 2321 dL_law_499 rfl ?_
        refine s_sub [2, 3, 4, 5, 6] rfl ?_
        refine s_budget (k2 := (kr + 0)) (n2 := (6 * kr + 0)) (by omega) (by omega) ?_
        exact Lw_law_2321_sem hG kr r23 hr23 v4 x466.2
      · refine s_iconst (pc := 497) (v := 0) dL_law_497 rfl ?_
        exact s_zret (pc := 498) dL_law_498 rfl rfl
    · refine s_goto (pc := 499) 2321 dL_law_499 rfl ?_
      refine s_sub [2, 3, 4, 5, 6] rfl ?_
      refine s_budget (k2 := (kr + 0)) (n2 := (6 * kr + 0)) (by omega) (by omega) ?_
      exact Lw_law_2321_sem hG kr r23 hr23 v4 x466.2
  · refine s_iconst (pc := 480) (v := 0) dL_law_480 rfl ?_
    exact s_zret (pc := 481) dL_law_481 rfl rfl
def Lw_law_502 (L : Nat) (xs : Nat → Int32) (r23 : Int32 → PH → Option (Int32 × PH)) (v4 : Int32) (P : PH) : Option (Int32 × PH) :=
  gdI (v4 + (1 : Int32)) L <|
  gdI (v4 + (2 : Int32)) L <|
  (Lw_ends (xs (v4 + (1 : Int32)).toNatClampNeg) (xs (v4 + (2 : Int32)).toNatClampNeg) P).bind fun (x516 : Int32 × PH) =>
  gdI (v4 + (1 : Int32)) L <|
  gdI (v4 + (2 : Int32)) L <|
  (Mo_ends (xs (v4 + (1 : Int32)).toNatClampNeg) (xs (v4 + (2 : Int32)).toNatClampNeg) x516.2).bind fun (x534 : Int32 × PH) =>
  (Mo_thrown x534.2).bind fun (x540 : Int32) =>
  if x540 = x516.1 then
    if x516.1 = 0 then
      gdI (0 : Int32) 1 <|
      if (lg_cmp (x534.2.2 2 (0 : Int32).toNatClampNeg) ((x534.1).toInt64)) = 0 then
        Lw_law_2321 L xs r23 v4 x534.2
      else
        gdP ((0 : Int32) = 0 ∨ (0 : Int32) = 1) <|
        some ((0 : Int32), x534.2)
    else
      Lw_law_2321 L xs r23 v4 x534.2
  else
    gdP ((0 : Int32) = 0 ∨ (0 : Int32) = 1) <|
    some ((0 : Int32), x534.2)
set_option maxRecDepth 100000 in
set_option maxHeartbeats 4000000 in
theorem Lw_law_502_sem {G : GT} {l : Launch} (hG : GOK G l) (kr : Nat) (r23 : Int32 → PH → Option (Int32 × PH)) (hr23 : ∀ (v4 : Int32) (P : PH), Sem G l miL_law kr (6 * kr) (rn tIH) 23 [(0, .ref (gB G)), (1, .ref (gA G 0)), (2, .ref (gA G 1)), (3, .ref (gA G 2)), (4, .int v4)] [] P (r23 v4 P)) (v4 : Int32) (P : PH) : Sem G l miL_law (kr + 4) (6 * kr + 24) (rn tIH) 502 [(0, .ref (gB G)), (1, .ref (gA G 0)), (2, .ref (gA G 1)), (3, .ref (gA G 2)), (4, .int v4)] [] P (Lw_law_502 (gL G) (gX G) r23 v4 P) := by
  unfold Lw_law_502
  refine s_aload_n (pc := 502) 1 dL_law_502 rfl rfl ?_
  refine s_aload_n (pc := 503) 0 dL_law_503 rfl rfl ?_
  refine s_iload (pc := 504) 4 dL_law_504 rfl ?_
  refine s_iconst (pc := 506) (v := 1) dL_law_506 rfl ?_
  refine s_iadd (pc := 507) dL_law_507 ?_
  refine s_sld (pc := 508) dL_law_508 ?_
  refine s_aload_n (pc := 509) 0 dL_law_509 rfl rfl ?_
  refine s_iload (pc := 510) 4 dL_law_510 rfl ?_
  refine s_iconst (pc := 512) (v := 2) dL_law_512 rfl ?_
  refine s_iadd (pc := 513) dL_law_513 ?_
  refine s_sld (pc := 514) dL_law_514 ?_
  refine s_aload_n (pc := 515) 3 dL_law_515 rfl rfl ?_
  refine s_callSW (k := (kr + 2)) (n := (6 * kr + 12)) (pc := 516) [.ref (gA G 0), .int ((gX G) (v4 + (1 : Int32)).toNatClampNeg), .int ((gX G) (v4 + (2 : Int32)).toNatClampNeg), .ref (gA G 2)] (fun x516 => .int x516.1 :: []) (fun x516 => x516.2) dL_law_516 (cW_151 hG) (Nat.le_of_ble_eq_true rfl) rfl (Lw_ends_ok hG ((gX G) (v4 + (1 : Int32)).toNatClampNeg) ((gX G) (v4 + (2 : Int32)).toNatClampNeg) P) rfl (fun _ => rfl) (fun _ => rfl) (Nat.le_of_ble_eq_true rfl) (by omega) (by omega) (fun x516 => ?_)
  refine s_istore (pc := 519) [(5, .int (x516.1)), (0, .ref (gB G)), (1, .ref (gA G 0)), (2, .ref (gA G 1)), (3, .ref (gA G 2)), (4, .int v4)] dL_law_519 (Nat.le_of_ble_eq_true rfl) rfl ?_
  refine s_aload_n (pc := 521) 3 dL_law_521 rfl rfl ?_
  refine s_aload_n (pc := 522) 1 dL_law_522 rfl rfl ?_
  refine s_iload (pc := 523) 5 dL_law_523 rfl ?_
  refine s_iconst (pc := 525) (v := 1) dL_law_525 rfl ?_
  refine s_iadd (pc := 526) dL_law_526 ?_
  refine s_sld (pc := 527) dL_law_527 ?_
  refine s_aload_n (pc := 528) 1 dL_law_528 rfl rfl ?_
  refine s_iload (pc := 529) 5 dL_law_529 rfl ?_
  refine s_iconst (pc := 531) (v := 2) dL_law_531 rfl ?_
  refine s_iadd (pc := 532) dL_law_532 ?_
  refine s_sld (pc := 533) dL_law_533 ?_
  refine s_callV (k := (kr + 2)) (n := (6 * kr + 12)) (pc := 534) [.int ((gX G) (v4 + (1 : Int32)).toNatClampNeg), .int ((gX G) (v4 + (2 : Int32)).toNatClampNeg)] (fun x534 => .int (x534.1) :: []) (fun x534 => x534.2) dL_law_534 (cV_L_153 hG) (Nat.le_of_ble_eq_true rfl) rfl kd_1 (Mo_ends_ok hG ((gX G) (v4 + (1 : Int32)).toNatClampNeg) ((gX G) (v4 + (2 : Int32)).toNatClampNeg) x516.2) rfl (fun _ => rfl) (fun _ => rfl) (Nat.le_of_ble_eq_true rfl) (by omega) (by omega) (fun x534 => ?_)
  refine s_istore (pc := 537) [(6, .int (x534.1)), (5, .int (x516.1)), (0, .ref (gB G)), (1, .ref (gA G 0)), (2, .ref (gA G 1)), (3, .ref (gA G 2)), (4, .int v4)] dL_law_537 (Nat.le_of_ble_eq_true rfl) rfl ?_
  refine s_aload_n (pc := 539) 4 dL_law_539 rfl rfl ?_
  refine s_callV (k := (kr + 2)) (n := (6 * kr + 12)) (pc := 540) [] (fun x540 => .int x540 :: []) (fun _ => x534.2) dL_law_540 (cV_L_137 hG) (Nat.le_of_ble_eq_true rfl) rfl kd_1 (Mo_thrown_ok hG x534.2) rfl (fun _ => rfl) (fun _ => rfl) (Nat.le_of_ble_eq_true rfl) (by omega) (by omega) (fun x540 => ?_)
  refine s_iload (pc := 543) 1 dL_law_543 rfl ?_
  refine s_icmp_eq (pc := 545) 550 dL_law_545 rfl ?_ ?_
  · refine s_iload (pc := 550) 1 dL_law_550 rfl ?_
    refine s_if_ne (pc := 552) 567 dL_law_552 rfl ?_ ?_
    · refine s_aload_n (pc := 555) 5 dL_law_555 rfl rfl ?_
      refine s_iconst (pc := 556) (v := 0) dL_law_556 rfl ?_
      refine s_lald (pc := 557) 1 dL_law_557 kd_2 ln_2 ?_
      refine s_iload (pc := 558) 0 dL_law_558 rfl ?_
      refine s_i2l (pc := 560) dL_law_560 ?_
      refine s_lcmp (pc := 561) dL_law_561 ?_
      refine s_if_eq (pc := 562) 567 dL_law_562 rfl ?_ ?_
      · refine s_goto (pc := 567) 2321 dL_law_567 rfl ?_
        refine s_sub [2, 3, 4, 5, 6] rfl ?_
        refine s_budget (k2 := (kr + 0)) (n2 := (6 * kr + 0)) (by omega) (by omega) ?_
        exact Lw_law_2321_sem hG kr r23 hr23 v4 x534.2
      · refine s_iconst (pc := 565) (v := 0) dL_law_565 rfl ?_
        exact s_zret (pc := 566) dL_law_566 rfl rfl
    · refine s_goto (pc := 567) 2321 dL_law_567 rfl ?_
      refine s_sub [2, 3, 4, 5, 6] rfl ?_
      refine s_budget (k2 := (kr + 0)) (n2 := (6 * kr + 0)) (by omega) (by omega) ?_
      exact Lw_law_2321_sem hG kr r23 hr23 v4 x534.2
  · refine s_iconst (pc := 548) (v := 0) dL_law_548 rfl ?_
    exact s_zret (pc := 549) dL_law_549 rfl rfl
def Lw_law_570 (L : Nat) (xs : Nat → Int32) (r23 : Int32 → PH → Option (Int32 × PH)) (v4 : Int32) (P : PH) : Option (Int32 × PH) :=
  gdI (v4 + (1 : Int32)) L <|
  (Bs_knot (xs (v4 + (1 : Int32)).toNatClampNeg) P).bind fun (x577 : Int32) =>
  gdI (v4 + (1 : Int32)) L <|
  (Mo_knot (xs (v4 + (1 : Int32)).toNatClampNeg) P).bind fun (x587 : Int32 × PH) =>
  if x577 = x587.1 then
    Lw_law_2321 L xs r23 v4 x587.2
  else
    gdP ((0 : Int32) = 0 ∨ (0 : Int32) = 1) <|
    some ((0 : Int32), x587.2)
set_option maxRecDepth 100000 in
set_option maxHeartbeats 4000000 in
theorem Lw_law_570_sem {G : GT} {l : Launch} (hG : GOK G l) (kr : Nat) (r23 : Int32 → PH → Option (Int32 × PH)) (hr23 : ∀ (v4 : Int32) (P : PH), Sem G l miL_law kr (6 * kr) (rn tIH) 23 [(0, .ref (gB G)), (1, .ref (gA G 0)), (2, .ref (gA G 1)), (3, .ref (gA G 2)), (4, .int v4)] [] P (r23 v4 P)) (v4 : Int32) (P : PH) : Sem G l miL_law (kr + 4) (6 * kr + 24) (rn tIH) 570 [(0, .ref (gB G)), (1, .ref (gA G 0)), (2, .ref (gA G 1)), (3, .ref (gA G 2)), (4, .int v4)] [] P (Lw_law_570 (gL G) (gX G) r23 v4 P) := by
  unfold Lw_law_570
  refine s_aload_n (pc := 570) 1 dL_law_570 rfl rfl ?_
  refine s_aload_n (pc := 571) 0 dL_law_571 rfl rfl ?_
  refine s_iload (pc := 572) 4 dL_law_572 rfl ?_
  refine s_iconst (pc := 574) (v := 1) dL_law_574 rfl ?_
  refine s_iadd (pc := 575) dL_law_575 ?_
  refine s_sld (pc := 576) dL_law_576 ?_
  refine s_callV (k := (kr + 4)) (n := (6 * kr + 24)) (pc := 577) [.int ((gX G) (v4 + (1 : Int32)).toNatClampNeg)] (fun x577 => .int x577 :: []) (fun _ => P) dL_law_577 (cV_L_154 hG) (Nat.le_of_ble_eq_true rfl) rfl kd_0 (Bs_knot_ok hG ((gX G) (v4 + (1 : Int32)).toNatClampNeg) P) rfl (fun _ => rfl) (fun _ => rfl) (Nat.le_of_ble_eq_true rfl) (by omega) (by omega) (fun x577 => ?_)
  refine s_aload_n (pc := 580) 2 dL_law_580 rfl rfl ?_
  refine s_aload_n (pc := 581) 0 dL_law_581 rfl rfl ?_
  refine s_iload (pc := 582) 4 dL_law_582 rfl ?_
  refine s_iconst (pc := 584) (v := 1) dL_law_584 rfl ?_
  refine s_iadd (pc := 585) dL_law_585 ?_
  refine s_sld (pc := 586) dL_law_586 ?_
  refine s_callV (k := (kr + 4)) (n := (6 * kr + 24)) (pc := 587) [.int ((gX G) (v4 + (1 : Int32)).toNatClampNeg)] (fun x587 => .int (x587.1) :: [.int x577]) (fun x587 => x587.2) dL_law_587 (cV_L_157 hG) (Nat.le_of_ble_eq_true rfl) rfl kd_1 (Mo_knot_ok hG ((gX G) (v4 + (1 : Int32)).toNatClampNeg) P) rfl (fun _ => rfl) (fun _ => rfl) (Nat.le_of_ble_eq_true rfl) (by omega) (by omega) (fun x587 => ?_)
  refine s_icmp_eq (pc := 590) 2321 dL_law_590 rfl ?_ ?_
  · refine s_budget (k2 := (kr + 0)) (n2 := (6 * kr + 0)) (by omega) (by omega) ?_
    exact Lw_law_2321_sem hG kr r23 hr23 v4 x587.2
  · refine s_iconst (pc := 593) (v := 0) dL_law_593 rfl ?_
    exact s_zret (pc := 594) dL_law_594 rfl rfl
def Lw_law_595 (L : Nat) (xs : Nat → Int32) (r23 : Int32 → PH → Option (Int32 × PH)) (v4 : Int32) (P : PH) : Option (Int32 × PH) :=
  gdI (v4 + (1 : Int32)) L <|
  (Lw_parts (xs (v4 + (1 : Int32)).toNatClampNeg) P).bind fun (x603 : Int32 × PH) =>
  gdI (v4 + (1 : Int32)) L <|
  (Mo_parts (xs (v4 + (1 : Int32)).toNatClampNeg) x603.2).bind fun (x615 : Int32 × PH) =>
  (Mo_thrown x615.2).bind fun (x621 : Int32) =>
  if x621 = x603.1 then
    if x603.1 = 0 then
      gdI (0 : Int32) 1 <|
      if (lg_cmp (x615.2.2 2 (0 : Int32).toNatClampNeg) ((x615.1).toInt64)) = 0 then
        Lw_law_2321 L xs r23 v4 x615.2
      else
        gdP ((0 : Int32) = 0 ∨ (0 : Int32) = 1) <|
        some ((0 : Int32), x615.2)
    else
      Lw_law_2321 L xs r23 v4 x615.2
  else
    gdP ((0 : Int32) = 0 ∨ (0 : Int32) = 1) <|
    some ((0 : Int32), x615.2)
set_option maxRecDepth 100000 in
set_option maxHeartbeats 4000000 in
theorem Lw_law_595_sem {G : GT} {l : Launch} (hG : GOK G l) (kr : Nat) (r23 : Int32 → PH → Option (Int32 × PH)) (hr23 : ∀ (v4 : Int32) (P : PH), Sem G l miL_law kr (6 * kr) (rn tIH) 23 [(0, .ref (gB G)), (1, .ref (gA G 0)), (2, .ref (gA G 1)), (3, .ref (gA G 2)), (4, .int v4)] [] P (r23 v4 P)) (v4 : Int32) (P : PH) : Sem G l miL_law (kr + 4) (6 * kr + 24) (rn tIH) 595 [(0, .ref (gB G)), (1, .ref (gA G 0)), (2, .ref (gA G 1)), (3, .ref (gA G 2)), (4, .int v4)] [] P (Lw_law_595 (gL G) (gX G) r23 v4 P) := by
  unfold Lw_law_595
  refine s_aload_n (pc := 595) 1 dL_law_595 rfl rfl ?_
  refine s_aload_n (pc := 596) 0 dL_law_596 rfl rfl ?_
  refine s_iload (pc := 597) 4 dL_law_597 rfl ?_
  refine s_iconst (pc := 599) (v := 1) dL_law_599 rfl ?_
  refine s_iadd (pc := 600) dL_law_600 ?_
  refine s_sld (pc := 601) dL_law_601 ?_
  refine s_aload_n (pc := 602) 3 dL_law_602 rfl rfl ?_
  refine s_callSW (k := (kr + 3)) (n := (6 * kr + 18)) (pc := 603) [.ref (gA G 0), .int ((gX G) (v4 + (1 : Int32)).toNatClampNeg), .ref (gA G 2)] (fun x603 => .int x603.1 :: []) (fun x603 => x603.2) dL_law_603 (cW_158 hG) (Nat.le_of_ble_eq_true rfl) rfl (Lw_parts_ok hG ((gX G) (v4 + (1 : Int32)).toNatClampNeg) P) rfl (fun _ => rfl) (fun _ => rfl) (Nat.le_of_ble_eq_true rfl) (by omega) (by omega) (fun x603 => ?_)
  refine s_istore (pc := 606) [(5, .int (x603.1)), (0, .ref (gB G)), (1, .ref (gA G 0)), (2, .ref (gA G 1)), (3, .ref (gA G 2)), (4, .int v4)] dL_law_606 (Nat.le_of_ble_eq_true rfl) rfl ?_
  refine s_aload_n (pc := 608) 3 dL_law_608 rfl rfl ?_
  refine s_aload_n (pc := 609) 1 dL_law_609 rfl rfl ?_
  refine s_iload (pc := 610) 5 dL_law_610 rfl ?_
  refine s_iconst (pc := 612) (v := 1) dL_law_612 rfl ?_
  refine s_iadd (pc := 613) dL_law_613 ?_
  refine s_sld (pc := 614) dL_law_614 ?_
  refine s_callV (k := (kr + 3)) (n := (6 * kr + 18)) (pc := 615) [.int ((gX G) (v4 + (1 : Int32)).toNatClampNeg)] (fun x615 => .int (x615.1) :: []) (fun x615 => x615.2) dL_law_615 (cV_L_160 hG) (Nat.le_of_ble_eq_true rfl) rfl kd_1 (Mo_parts_ok hG ((gX G) (v4 + (1 : Int32)).toNatClampNeg) x603.2) rfl (fun _ => rfl) (fun _ => rfl) (Nat.le_of_ble_eq_true rfl) (by omega) (by omega) (fun x615 => ?_)
  refine s_istore (pc := 618) [(6, .int (x615.1)), (5, .int (x603.1)), (0, .ref (gB G)), (1, .ref (gA G 0)), (2, .ref (gA G 1)), (3, .ref (gA G 2)), (4, .int v4)] dL_law_618 (Nat.le_of_ble_eq_true rfl) rfl ?_
  refine s_aload_n (pc := 620) 4 dL_law_620 rfl rfl ?_
  refine s_callV (k := (kr + 3)) (n := (6 * kr + 18)) (pc := 621) [] (fun x621 => .int x621 :: []) (fun _ => x615.2) dL_law_621 (cV_L_137 hG) (Nat.le_of_ble_eq_true rfl) rfl kd_1 (Mo_thrown_ok hG x615.2) rfl (fun _ => rfl) (fun _ => rfl) (Nat.le_of_ble_eq_true rfl) (by omega) (by omega) (fun x621 => ?_)
  refine s_iload (pc := 624) 1 dL_law_624 rfl ?_
  refine s_icmp_eq (pc := 626) 631 dL_law_626 rfl ?_ ?_
  · refine s_iload (pc := 631) 1 dL_law_631 rfl ?_
    refine s_if_ne (pc := 633) 648 dL_law_633 rfl ?_ ?_
    · refine s_aload_n (pc := 636) 5 dL_law_636 rfl rfl ?_
      refine s_iconst (pc := 637) (v := 0) dL_law_637 rfl ?_
      refine s_lald (pc := 638) 1 dL_law_638 kd_2 ln_2 ?_
      refine s_iload (pc := 639) 0 dL_law_639 rfl ?_
      refine s_i2l (pc := 641) dL_law_641 ?_
      refine s_lcmp (pc := 642) dL_law_642 ?_
      refine s_if_eq (pc := 643) 648 dL_law_643 rfl ?_ ?_
      · refine s_goto (pc := 648) 2321 dL_law_648 rfl ?_
        refine s_sub [2, 3, 4, 5, 6] rfl ?_
        refine s_budget (k2 := (kr + 0)) (n2 := (6 * kr + 0)) (by omega) (by omega) ?_
        exact Lw_law_2321_sem hG kr r23 hr23 v4 x615.2
      · refine s_iconst (pc := 646) (v := 0) dL_law_646 rfl ?_
        exact s_zret (pc := 647) dL_law_647 rfl rfl
    · refine s_goto (pc := 648) 2321 dL_law_648 rfl ?_
      refine s_sub [2, 3, 4, 5, 6] rfl ?_
      refine s_budget (k2 := (kr + 0)) (n2 := (6 * kr + 0)) (by omega) (by omega) ?_
      exact Lw_law_2321_sem hG kr r23 hr23 v4 x615.2
  · refine s_iconst (pc := 629) (v := 0) dL_law_629 rfl ?_
    exact s_zret (pc := 630) dL_law_630 rfl rfl
def Lw_law_651 (L : Nat) (xs : Nat → Int32) (r23 : Int32 → PH → Option (Int32 × PH)) (v4 : Int32) (P : PH) : Option (Int32 × PH) :=
  gdI (v4 + (1 : Int32)) L <|
  (Lw_partOf (xs (v4 + (1 : Int32)).toNatClampNeg) P).bind fun (x659 : Int32 × PH) =>
  gdI (v4 + (1 : Int32)) L <|
  (Mo_partOf (xs (v4 + (1 : Int32)).toNatClampNeg) x659.2).bind fun (x671 : Int32 × PH) =>
  (Mo_thrown x671.2).bind fun (x677 : Int32) =>
  if x677 = x659.1 then
    if x659.1 = 0 then
      gdI (0 : Int32) 1 <|
      if (lg_cmp (x671.2.2 2 (0 : Int32).toNatClampNeg) ((x671.1).toInt64)) = 0 then
        Lw_law_2321 L xs r23 v4 x671.2
      else
        gdP ((0 : Int32) = 0 ∨ (0 : Int32) = 1) <|
        some ((0 : Int32), x671.2)
    else
      Lw_law_2321 L xs r23 v4 x671.2
  else
    gdP ((0 : Int32) = 0 ∨ (0 : Int32) = 1) <|
    some ((0 : Int32), x671.2)
set_option maxRecDepth 100000 in
set_option maxHeartbeats 4000000 in
theorem Lw_law_651_sem {G : GT} {l : Launch} (hG : GOK G l) (kr : Nat) (r23 : Int32 → PH → Option (Int32 × PH)) (hr23 : ∀ (v4 : Int32) (P : PH), Sem G l miL_law kr (6 * kr) (rn tIH) 23 [(0, .ref (gB G)), (1, .ref (gA G 0)), (2, .ref (gA G 1)), (3, .ref (gA G 2)), (4, .int v4)] [] P (r23 v4 P)) (v4 : Int32) (P : PH) : Sem G l miL_law (kr + 4) (6 * kr + 24) (rn tIH) 651 [(0, .ref (gB G)), (1, .ref (gA G 0)), (2, .ref (gA G 1)), (3, .ref (gA G 2)), (4, .int v4)] [] P (Lw_law_651 (gL G) (gX G) r23 v4 P) := by
  unfold Lw_law_651
  refine s_aload_n (pc := 651) 1 dL_law_651 rfl rfl ?_
  refine s_aload_n (pc := 652) 0 dL_law_652 rfl rfl ?_
  refine s_iload (pc := 653) 4 dL_law_653 rfl ?_
  refine s_iconst (pc := 655) (v := 1) dL_law_655 rfl ?_
  refine s_iadd (pc := 656) dL_law_656 ?_
  refine s_sld (pc := 657) dL_law_657 ?_
  refine s_aload_n (pc := 658) 3 dL_law_658 rfl rfl ?_
  refine s_callSW (k := (kr + 3)) (n := (6 * kr + 18)) (pc := 659) [.ref (gA G 0), .int ((gX G) (v4 + (1 : Int32)).toNatClampNeg), .ref (gA G 2)] (fun x659 => .int x659.1 :: []) (fun x659 => x659.2) dL_law_659 (cW_161 hG) (Nat.le_of_ble_eq_true rfl) rfl (Lw_partOf_ok hG ((gX G) (v4 + (1 : Int32)).toNatClampNeg) P) rfl (fun _ => rfl) (fun _ => rfl) (Nat.le_of_ble_eq_true rfl) (by omega) (by omega) (fun x659 => ?_)
  refine s_istore (pc := 662) [(5, .int (x659.1)), (0, .ref (gB G)), (1, .ref (gA G 0)), (2, .ref (gA G 1)), (3, .ref (gA G 2)), (4, .int v4)] dL_law_662 (Nat.le_of_ble_eq_true rfl) rfl ?_
  refine s_aload_n (pc := 664) 3 dL_law_664 rfl rfl ?_
  refine s_aload_n (pc := 665) 1 dL_law_665 rfl rfl ?_
  refine s_iload (pc := 666) 5 dL_law_666 rfl ?_
  refine s_iconst (pc := 668) (v := 1) dL_law_668 rfl ?_
  refine s_iadd (pc := 669) dL_law_669 ?_
  refine s_sld (pc := 670) dL_law_670 ?_
  refine s_callV (k := (kr + 3)) (n := (6 * kr + 18)) (pc := 671) [.int ((gX G) (v4 + (1 : Int32)).toNatClampNeg)] (fun x671 => .int (x671.1) :: []) (fun x671 => x671.2) dL_law_671 (cV_L_163 hG) (Nat.le_of_ble_eq_true rfl) rfl kd_1 (Mo_partOf_ok hG ((gX G) (v4 + (1 : Int32)).toNatClampNeg) x659.2) rfl (fun _ => rfl) (fun _ => rfl) (Nat.le_of_ble_eq_true rfl) (by omega) (by omega) (fun x671 => ?_)
  refine s_istore (pc := 674) [(6, .int (x671.1)), (5, .int (x659.1)), (0, .ref (gB G)), (1, .ref (gA G 0)), (2, .ref (gA G 1)), (3, .ref (gA G 2)), (4, .int v4)] dL_law_674 (Nat.le_of_ble_eq_true rfl) rfl ?_
  refine s_aload_n (pc := 676) 4 dL_law_676 rfl rfl ?_
  refine s_callV (k := (kr + 3)) (n := (6 * kr + 18)) (pc := 677) [] (fun x677 => .int x677 :: []) (fun _ => x671.2) dL_law_677 (cV_L_137 hG) (Nat.le_of_ble_eq_true rfl) rfl kd_1 (Mo_thrown_ok hG x671.2) rfl (fun _ => rfl) (fun _ => rfl) (Nat.le_of_ble_eq_true rfl) (by omega) (by omega) (fun x677 => ?_)
  refine s_iload (pc := 680) 1 dL_law_680 rfl ?_
  refine s_icmp_eq (pc := 682) 687 dL_law_682 rfl ?_ ?_
  · refine s_iload (pc := 687) 1 dL_law_687 rfl ?_
    refine s_if_ne (pc := 689) 704 dL_law_689 rfl ?_ ?_
    · refine s_aload_n (pc := 692) 5 dL_law_692 rfl rfl ?_
      refine s_iconst (pc := 693) (v := 0) dL_law_693 rfl ?_
      refine s_lald (pc := 694) 1 dL_law_694 kd_2 ln_2 ?_
      refine s_iload (pc := 695) 0 dL_law_695 rfl ?_
      refine s_i2l (pc := 697) dL_law_697 ?_
      refine s_lcmp (pc := 698) dL_law_698 ?_
      refine s_if_eq (pc := 699) 704 dL_law_699 rfl ?_ ?_
      · refine s_goto (pc := 704) 2321 dL_law_704 rfl ?_
        refine s_sub [2, 3, 4, 5, 6] rfl ?_
        refine s_budget (k2 := (kr + 0)) (n2 := (6 * kr + 0)) (by omega) (by omega) ?_
        exact Lw_law_2321_sem hG kr r23 hr23 v4 x671.2
      · refine s_iconst (pc := 702) (v := 0) dL_law_702 rfl ?_
        exact s_zret (pc := 703) dL_law_703 rfl rfl
    · refine s_goto (pc := 704) 2321 dL_law_704 rfl ?_
      refine s_sub [2, 3, 4, 5, 6] rfl ?_
      refine s_budget (k2 := (kr + 0)) (n2 := (6 * kr + 0)) (by omega) (by omega) ?_
      exact Lw_law_2321_sem hG kr r23 hr23 v4 x671.2
  · refine s_iconst (pc := 685) (v := 0) dL_law_685 rfl ?_
    exact s_zret (pc := 686) dL_law_686 rfl rfl
def Lw_law_707 (L : Nat) (xs : Nat → Int32) (r23 : Int32 → PH → Option (Int32 × PH)) (v4 : Int32) (P : PH) : Option (Int32 × PH) :=
  gdI (v4 + (1 : Int32)) L <|
  (Lw_length (xs (v4 + (1 : Int32)).toNatClampNeg) P).bind fun (x715 : Int32 × PH) =>
  gdI (v4 + (1 : Int32)) L <|
  (Mo_length (xs (v4 + (1 : Int32)).toNatClampNeg) x715.2).bind fun (x727 : Int32 × PH) =>
  (Mo_thrown x727.2).bind fun (x733 : Int32) =>
  if x733 = x715.1 then
    if x715.1 = 0 then
      gdI (0 : Int32) 1 <|
      if (lg_cmp (x727.2.2 2 (0 : Int32).toNatClampNeg) ((x727.1).toInt64)) = 0 then
        Lw_law_2321 L xs r23 v4 x727.2
      else
        gdP ((0 : Int32) = 0 ∨ (0 : Int32) = 1) <|
        some ((0 : Int32), x727.2)
    else
      Lw_law_2321 L xs r23 v4 x727.2
  else
    gdP ((0 : Int32) = 0 ∨ (0 : Int32) = 1) <|
    some ((0 : Int32), x727.2)
set_option maxRecDepth 100000 in
set_option maxHeartbeats 4000000 in
theorem Lw_law_707_sem {G : GT} {l : Launch} (hG : GOK G l) (kr : Nat) (r23 : Int32 → PH → Option (Int32 × PH)) (hr23 : ∀ (v4 : Int32) (P : PH), Sem G l miL_law kr (6 * kr) (rn tIH) 23 [(0, .ref (gB G)), (1, .ref (gA G 0)), (2, .ref (gA G 1)), (3, .ref (gA G 2)), (4, .int v4)] [] P (r23 v4 P)) (v4 : Int32) (P : PH) : Sem G l miL_law (kr + 4) (6 * kr + 24) (rn tIH) 707 [(0, .ref (gB G)), (1, .ref (gA G 0)), (2, .ref (gA G 1)), (3, .ref (gA G 2)), (4, .int v4)] [] P (Lw_law_707 (gL G) (gX G) r23 v4 P) := by
  unfold Lw_law_707
  refine s_aload_n (pc := 707) 1 dL_law_707 rfl rfl ?_
  refine s_aload_n (pc := 708) 0 dL_law_708 rfl rfl ?_
  refine s_iload (pc := 709) 4 dL_law_709 rfl ?_
  refine s_iconst (pc := 711) (v := 1) dL_law_711 rfl ?_
  refine s_iadd (pc := 712) dL_law_712 ?_
  refine s_sld (pc := 713) dL_law_713 ?_
  refine s_aload_n (pc := 714) 3 dL_law_714 rfl rfl ?_
  refine s_callSW (k := (kr + 3)) (n := (6 * kr + 18)) (pc := 715) [.ref (gA G 0), .int ((gX G) (v4 + (1 : Int32)).toNatClampNeg), .ref (gA G 2)] (fun x715 => .int x715.1 :: []) (fun x715 => x715.2) dL_law_715 (cW_164 hG) (Nat.le_of_ble_eq_true rfl) rfl (Lw_length_ok hG ((gX G) (v4 + (1 : Int32)).toNatClampNeg) P) rfl (fun _ => rfl) (fun _ => rfl) (Nat.le_of_ble_eq_true rfl) (by omega) (by omega) (fun x715 => ?_)
  refine s_istore (pc := 718) [(5, .int (x715.1)), (0, .ref (gB G)), (1, .ref (gA G 0)), (2, .ref (gA G 1)), (3, .ref (gA G 2)), (4, .int v4)] dL_law_718 (Nat.le_of_ble_eq_true rfl) rfl ?_
  refine s_aload_n (pc := 720) 3 dL_law_720 rfl rfl ?_
  refine s_aload_n (pc := 721) 1 dL_law_721 rfl rfl ?_
  refine s_iload (pc := 722) 5 dL_law_722 rfl ?_
  refine s_iconst (pc := 724) (v := 1) dL_law_724 rfl ?_
  refine s_iadd (pc := 725) dL_law_725 ?_
  refine s_sld (pc := 726) dL_law_726 ?_
  refine s_callV (k := (kr + 3)) (n := (6 * kr + 18)) (pc := 727) [.int ((gX G) (v4 + (1 : Int32)).toNatClampNeg)] (fun x727 => .int (x727.1) :: []) (fun x727 => x727.2) dL_law_727 (cV_L_166 hG) (Nat.le_of_ble_eq_true rfl) rfl kd_1 (Mo_length_ok hG ((gX G) (v4 + (1 : Int32)).toNatClampNeg) x715.2) rfl (fun _ => rfl) (fun _ => rfl) (Nat.le_of_ble_eq_true rfl) (by omega) (by omega) (fun x727 => ?_)
  refine s_istore (pc := 730) [(6, .int (x727.1)), (5, .int (x715.1)), (0, .ref (gB G)), (1, .ref (gA G 0)), (2, .ref (gA G 1)), (3, .ref (gA G 2)), (4, .int v4)] dL_law_730 (Nat.le_of_ble_eq_true rfl) rfl ?_
  refine s_aload_n (pc := 732) 4 dL_law_732 rfl rfl ?_
  refine s_callV (k := (kr + 3)) (n := (6 * kr + 18)) (pc := 733) [] (fun x733 => .int x733 :: []) (fun _ => x727.2) dL_law_733 (cV_L_137 hG) (Nat.le_of_ble_eq_true rfl) rfl kd_1 (Mo_thrown_ok hG x727.2) rfl (fun _ => rfl) (fun _ => rfl) (Nat.le_of_ble_eq_true rfl) (by omega) (by omega) (fun x733 => ?_)
  refine s_iload (pc := 736) 1 dL_law_736 rfl ?_
  refine s_icmp_eq (pc := 738) 743 dL_law_738 rfl ?_ ?_
  · refine s_iload (pc := 743) 1 dL_law_743 rfl ?_
    refine s_if_ne (pc := 745) 760 dL_law_745 rfl ?_ ?_
    · refine s_aload_n (pc := 748) 5 dL_law_748 rfl rfl ?_
      refine s_iconst (pc := 749) (v := 0) dL_law_749 rfl ?_
      refine s_lald (pc := 750) 1 dL_law_750 kd_2 ln_2 ?_
      refine s_iload (pc := 751) 0 dL_law_751 rfl ?_
      refine s_i2l (pc := 753) dL_law_753 ?_
      refine s_lcmp (pc := 754) dL_law_754 ?_
      refine s_if_eq (pc := 755) 760 dL_law_755 rfl ?_ ?_
      · refine s_goto (pc := 760) 2321 dL_law_760 rfl ?_
        refine s_sub [2, 3, 4, 5, 6] rfl ?_
        refine s_budget (k2 := (kr + 0)) (n2 := (6 * kr + 0)) (by omega) (by omega) ?_
        exact Lw_law_2321_sem hG kr r23 hr23 v4 x727.2
      · refine s_iconst (pc := 758) (v := 0) dL_law_758 rfl ?_
        exact s_zret (pc := 759) dL_law_759 rfl rfl
    · refine s_goto (pc := 760) 2321 dL_law_760 rfl ?_
      refine s_sub [2, 3, 4, 5, 6] rfl ?_
      refine s_budget (k2 := (kr + 0)) (n2 := (6 * kr + 0)) (by omega) (by omega) ?_
      exact Lw_law_2321_sem hG kr r23 hr23 v4 x727.2
  · refine s_iconst (pc := 741) (v := 0) dL_law_741 rfl ?_
    exact s_zret (pc := 742) dL_law_742 rfl rfl
def Lw_law_796 (L : Nat) (xs : Nat → Int32) (r23 : Int32 → PH → Option (Int32 × PH)) (v4 : Int32) (s0 : Int32) (s2 : Int32) (P : PH) : Option (Int32 × PH) :=
  (Mo_crossings s0 P).bind fun (x796 : Int32 × PH) =>
  if s2 = x796.1 then
    Lw_law_2321 L xs r23 v4 x796.2
  else
    gdP ((0 : Int32) = 0 ∨ (0 : Int32) = 1) <|
    some ((0 : Int32), x796.2)
set_option maxRecDepth 100000 in
set_option maxHeartbeats 4000000 in
theorem Lw_law_796_sem {G : GT} {l : Launch} (hG : GOK G l) (kr : Nat) (r23 : Int32 → PH → Option (Int32 × PH)) (hr23 : ∀ (v4 : Int32) (P : PH), Sem G l miL_law kr (6 * kr) (rn tIH) 23 [(0, .ref (gB G)), (1, .ref (gA G 0)), (2, .ref (gA G 1)), (3, .ref (gA G 2)), (4, .int v4)] [] P (r23 v4 P)) (v4 : Int32) (s0 : Int32) (s2 : Int32) (P : PH) : Sem G l miL_law (kr + 4) (6 * kr + 24) (rn tIH) 796 [(0, .ref (gB G)), (1, .ref (gA G 0)), (2, .ref (gA G 1)), (3, .ref (gA G 2)), (4, .int v4)] [.int s0, .ref (gA G 1), .int s2] P (Lw_law_796 (gL G) (gX G) r23 v4 s0 s2 P) := by
  unfold Lw_law_796
  refine s_callV (k := (kr + 4)) (n := (6 * kr + 24)) (pc := 796) [.int s0] (fun x796 => .int (x796.1) :: [.int s2]) (fun x796 => x796.2) dL_law_796 (cV_L_171 hG) (Nat.le_of_ble_eq_true rfl) rfl kd_1 (Mo_crossings_ok hG s0 P) rfl (fun _ => rfl) (fun _ => rfl) (Nat.le_of_ble_eq_true rfl) (by omega) (by omega) (fun x796 => ?_)
  refine s_icmp_eq (pc := 799) 2321 dL_law_799 rfl ?_ ?_
  · refine s_budget (k2 := (kr + 0)) (n2 := (6 * kr + 0)) (by omega) (by omega) ?_
    exact Lw_law_2321_sem hG kr r23 hr23 v4 x796.2
  · refine s_iconst (pc := 802) (v := 0) dL_law_802 rfl ?_
    exact s_zret (pc := 803) dL_law_803 rfl rfl
def Lw_law_778 (L : Nat) (xs : Nat → Int32) (r23 : Int32 → PH → Option (Int32 × PH)) (v4 : Int32) (s0 : Int32) (P : PH) : Option (Int32 × PH) :=
  (Bs_crossings s0 P).bind fun (x778 : Int32) =>
  gdI (v4 + (1 : Int32)) L <|
  if (xs (v4 + (1 : Int32)).toNatClampNeg) = 0 then
    Lw_law_796 L xs r23 v4 (0 : Int32) x778 P
  else
    Lw_law_796 L xs r23 v4 (1 : Int32) x778 P
set_option maxRecDepth 100000 in
set_option maxHeartbeats 4000000 in
theorem Lw_law_778_sem {G : GT} {l : Launch} (hG : GOK G l) (kr : Nat) (r23 : Int32 → PH → Option (Int32 × PH)) (hr23 : ∀ (v4 : Int32) (P : PH), Sem G l miL_law kr (6 * kr) (rn tIH) 23 [(0, .ref (gB G)), (1, .ref (gA G 0)), (2, .ref (gA G 1)), (3, .ref (gA G 2)), (4, .int v4)] [] P (r23 v4 P)) (v4 : Int32) (s0 : Int32) (P : PH) : Sem G l miL_law (kr + 4) (6 * kr + 24) (rn tIH) 778 [(0, .ref (gB G)), (1, .ref (gA G 0)), (2, .ref (gA G 1)), (3, .ref (gA G 2)), (4, .int v4)] [.int s0, .ref (gA G 0)] P (Lw_law_778 (gL G) (gX G) r23 v4 s0 P) := by
  unfold Lw_law_778
  refine s_callV (k := (kr + 4)) (n := (6 * kr + 24)) (pc := 778) [.int s0] (fun x778 => .int x778 :: []) (fun _ => P) dL_law_778 (cV_L_167 hG) (Nat.le_of_ble_eq_true rfl) rfl kd_0 (Bs_crossings_ok hG s0 P) rfl (fun _ => rfl) (fun _ => rfl) (Nat.le_of_ble_eq_true rfl) (by omega) (by omega) (fun x778 => ?_)
  refine s_aload_n (pc := 781) 2 dL_law_781 rfl rfl ?_
  refine s_aload_n (pc := 782) 0 dL_law_782 rfl rfl ?_
  refine s_iload (pc := 783) 4 dL_law_783 rfl ?_
  refine s_iconst (pc := 785) (v := 1) dL_law_785 rfl ?_
  refine s_iadd (pc := 786) dL_law_786 ?_
  refine s_sld (pc := 787) dL_law_787 ?_
  refine s_if_eq (pc := 788) 795 dL_law_788 rfl ?_ ?_
  · refine s_iconst (pc := 795) (v := 0) dL_law_795 rfl ?_
    exact Lw_law_796_sem hG kr r23 hr23 v4 (0 : Int32) x778 P
  · refine s_iconst (pc := 791) (v := 1) dL_law_791 rfl ?_
    refine s_goto (pc := 792) 796 dL_law_792 rfl ?_
    exact Lw_law_796_sem hG kr r23 hr23 v4 (1 : Int32) x778 P
def Lw_law_763 (L : Nat) (xs : Nat → Int32) (r23 : Int32 → PH → Option (Int32 × PH)) (v4 : Int32) (P : PH) : Option (Int32 × PH) :=
  gdI (v4 + (1 : Int32)) L <|
  if (xs (v4 + (1 : Int32)).toNatClampNeg) = 0 then
    Lw_law_778 L xs r23 v4 (0 : Int32) P
  else
    Lw_law_778 L xs r23 v4 (1 : Int32) P
set_option maxRecDepth 100000 in
set_option maxHeartbeats 4000000 in
theorem Lw_law_763_sem {G : GT} {l : Launch} (hG : GOK G l) (kr : Nat) (r23 : Int32 → PH → Option (Int32 × PH)) (hr23 : ∀ (v4 : Int32) (P : PH), Sem G l miL_law kr (6 * kr) (rn tIH) 23 [(0, .ref (gB G)), (1, .ref (gA G 0)), (2, .ref (gA G 1)), (3, .ref (gA G 2)), (4, .int v4)] [] P (r23 v4 P)) (v4 : Int32) (P : PH) : Sem G l miL_law (kr + 4) (6 * kr + 24) (rn tIH) 763 [(0, .ref (gB G)), (1, .ref (gA G 0)), (2, .ref (gA G 1)), (3, .ref (gA G 2)), (4, .int v4)] [] P (Lw_law_763 (gL G) (gX G) r23 v4 P) := by
  unfold Lw_law_763
  refine s_aload_n (pc := 763) 1 dL_law_763 rfl rfl ?_
  refine s_aload_n (pc := 764) 0 dL_law_764 rfl rfl ?_
  refine s_iload (pc := 765) 4 dL_law_765 rfl ?_
  refine s_iconst (pc := 767) (v := 1) dL_law_767 rfl ?_
  refine s_iadd (pc := 768) dL_law_768 ?_
  refine s_sld (pc := 769) dL_law_769 ?_
  refine s_if_eq (pc := 770) 777 dL_law_770 rfl ?_ ?_
  · refine s_iconst (pc := 777) (v := 0) dL_law_777 rfl ?_
    exact Lw_law_778_sem hG kr r23 hr23 v4 (0 : Int32) P
  · refine s_iconst (pc := 773) (v := 1) dL_law_773 rfl ?_
    refine s_goto (pc := 774) 778 dL_law_774 rfl ?_
    exact Lw_law_778_sem hG kr r23 hr23 v4 (1 : Int32) P
def Lw_law_804 (L : Nat) (xs : Nat → Int32) (r23 : Int32 → PH → Option (Int32 × PH)) (v4 : Int32) (P : PH) : Option (Int32 × PH) :=
  gdI (v4 + (1 : Int32)) L <|
  (Lw_alike (xs (v4 + (1 : Int32)).toNatClampNeg) P).bind fun (x812 : Int32 × PH) =>
  gdI (v4 + (1 : Int32)) L <|
  (Mo_alike (xs (v4 + (1 : Int32)).toNatClampNeg) x812.2).bind fun (x824 : Int32 × PH) =>
  (Mo_thrown x824.2).bind fun (x830 : Int32) =>
  if x830 = x812.1 then
    if x812.1 = 0 then
      gdI (0 : Int32) 1 <|
      if x824.1 = 0 then
        if (lg_cmp (x824.2.2 2 (0 : Int32).toNatClampNeg) (0 : Int64)) = 0 then
          Lw_law_2321 L xs r23 v4 x824.2
        else
          gdP ((0 : Int32) = 0 ∨ (0 : Int32) = 1) <|
          some ((0 : Int32), x824.2)
      else
        if (lg_cmp (x824.2.2 2 (0 : Int32).toNatClampNeg) (1 : Int64)) = 0 then
          Lw_law_2321 L xs r23 v4 x824.2
        else
          gdP ((0 : Int32) = 0 ∨ (0 : Int32) = 1) <|
          some ((0 : Int32), x824.2)
    else
      Lw_law_2321 L xs r23 v4 x824.2
  else
    gdP ((0 : Int32) = 0 ∨ (0 : Int32) = 1) <|
    some ((0 : Int32), x824.2)
set_option maxRecDepth 100000 in
set_option maxHeartbeats 4000000 in
theorem Lw_law_804_sem {G : GT} {l : Launch} (hG : GOK G l) (kr : Nat) (r23 : Int32 → PH → Option (Int32 × PH)) (hr23 : ∀ (v4 : Int32) (P : PH), Sem G l miL_law kr (6 * kr) (rn tIH) 23 [(0, .ref (gB G)), (1, .ref (gA G 0)), (2, .ref (gA G 1)), (3, .ref (gA G 2)), (4, .int v4)] [] P (r23 v4 P)) (v4 : Int32) (P : PH) : Sem G l miL_law (kr + 4) (6 * kr + 24) (rn tIH) 804 [(0, .ref (gB G)), (1, .ref (gA G 0)), (2, .ref (gA G 1)), (3, .ref (gA G 2)), (4, .int v4)] [] P (Lw_law_804 (gL G) (gX G) r23 v4 P) := by
  unfold Lw_law_804
  refine s_aload_n (pc := 804) 1 dL_law_804 rfl rfl ?_
  refine s_aload_n (pc := 805) 0 dL_law_805 rfl rfl ?_
  refine s_iload (pc := 806) 4 dL_law_806 rfl ?_
  refine s_iconst (pc := 808) (v := 1) dL_law_808 rfl ?_
  refine s_iadd (pc := 809) dL_law_809 ?_
  refine s_sld (pc := 810) dL_law_810 ?_
  refine s_aload_n (pc := 811) 3 dL_law_811 rfl rfl ?_
  refine s_callSW (k := (kr + 3)) (n := (6 * kr + 18)) (pc := 812) [.ref (gA G 0), .int ((gX G) (v4 + (1 : Int32)).toNatClampNeg), .ref (gA G 2)] (fun x812 => .int x812.1 :: []) (fun x812 => x812.2) dL_law_812 (cW_172 hG) (Nat.le_of_ble_eq_true rfl) rfl (Lw_alike_ok hG ((gX G) (v4 + (1 : Int32)).toNatClampNeg) P) rfl (fun _ => rfl) (fun _ => rfl) (Nat.le_of_ble_eq_true rfl) (by omega) (by omega) (fun x812 => ?_)
  refine s_istore (pc := 815) [(5, .int (x812.1)), (0, .ref (gB G)), (1, .ref (gA G 0)), (2, .ref (gA G 1)), (3, .ref (gA G 2)), (4, .int v4)] dL_law_815 (Nat.le_of_ble_eq_true rfl) rfl ?_
  refine s_aload_n (pc := 817) 3 dL_law_817 rfl rfl ?_
  refine s_aload_n (pc := 818) 1 dL_law_818 rfl rfl ?_
  refine s_iload (pc := 819) 5 dL_law_819 rfl ?_
  refine s_iconst (pc := 821) (v := 1) dL_law_821 rfl ?_
  refine s_iadd (pc := 822) dL_law_822 ?_
  refine s_sld (pc := 823) dL_law_823 ?_
  refine s_callV (k := (kr + 3)) (n := (6 * kr + 18)) (pc := 824) [.int ((gX G) (v4 + (1 : Int32)).toNatClampNeg)] (fun x824 => .int (x824.1) :: []) (fun x824 => x824.2) dL_law_824 (cV_L_174 hG) (Nat.le_of_ble_eq_true rfl) rfl kd_1 (Mo_alike_ok hG ((gX G) (v4 + (1 : Int32)).toNatClampNeg) x812.2) rfl (fun _ => rfl) (fun _ => rfl) (Nat.le_of_ble_eq_true rfl) (by omega) (by omega) (fun x824 => ?_)
  refine s_istore (pc := 827) [(6, .int (x824.1)), (5, .int (x812.1)), (0, .ref (gB G)), (1, .ref (gA G 0)), (2, .ref (gA G 1)), (3, .ref (gA G 2)), (4, .int v4)] dL_law_827 (Nat.le_of_ble_eq_true rfl) rfl ?_
  refine s_aload_n (pc := 829) 4 dL_law_829 rfl rfl ?_
  refine s_callV (k := (kr + 3)) (n := (6 * kr + 18)) (pc := 830) [] (fun x830 => .int x830 :: []) (fun _ => x824.2) dL_law_830 (cV_L_137 hG) (Nat.le_of_ble_eq_true rfl) rfl kd_1 (Mo_thrown_ok hG x824.2) rfl (fun _ => rfl) (fun _ => rfl) (Nat.le_of_ble_eq_true rfl) (by omega) (by omega) (fun x830 => ?_)
  refine s_iload (pc := 833) 1 dL_law_833 rfl ?_
  refine s_icmp_eq (pc := 835) 840 dL_law_835 rfl ?_ ?_
  · refine s_iload (pc := 840) 1 dL_law_840 rfl ?_
    refine s_if_ne (pc := 842) 864 dL_law_842 rfl ?_ ?_
    · refine s_aload_n (pc := 845) 5 dL_law_845 rfl rfl ?_
      refine s_iconst (pc := 846) (v := 0) dL_law_846 rfl ?_
      refine s_lald (pc := 847) 1 dL_law_847 kd_2 ln_2 ?_
      refine s_iload (pc := 848) 0 dL_law_848 rfl ?_
      refine s_if_eq (pc := 850) 857 dL_law_850 rfl ?_ ?_
      · refine s_lconst (pc := 857) (v := 0) dL_law_857 rfl ?_
        refine s_lcmp (pc := 858) dL_law_858 ?_
        refine s_if_eq (pc := 859) 864 dL_law_859 rfl ?_ ?_
        · refine s_goto (pc := 864) 2321 dL_law_864 rfl ?_
          refine s_sub [2, 3, 4, 5, 6] rfl ?_
          refine s_budget (k2 := (kr + 0)) (n2 := (6 * kr + 0)) (by omega) (by omega) ?_
          exact Lw_law_2321_sem hG kr r23 hr23 v4 x824.2
        · refine s_iconst (pc := 862) (v := 0) dL_law_862 rfl ?_
          exact s_zret (pc := 863) dL_law_863 rfl rfl
      · refine s_lconst (pc := 853) (v := 1) dL_law_853 rfl ?_
        refine s_goto (pc := 854) 858 dL_law_854 rfl ?_
        refine s_lcmp (pc := 858) dL_law_858 ?_
        refine s_if_eq (pc := 859) 864 dL_law_859 rfl ?_ ?_
        · refine s_goto (pc := 864) 2321 dL_law_864 rfl ?_
          refine s_sub [2, 3, 4, 5, 6] rfl ?_
          refine s_budget (k2 := (kr + 0)) (n2 := (6 * kr + 0)) (by omega) (by omega) ?_
          exact Lw_law_2321_sem hG kr r23 hr23 v4 x824.2
        · refine s_iconst (pc := 862) (v := 0) dL_law_862 rfl ?_
          exact s_zret (pc := 863) dL_law_863 rfl rfl
    · refine s_goto (pc := 864) 2321 dL_law_864 rfl ?_
      refine s_sub [2, 3, 4, 5, 6] rfl ?_
      refine s_budget (k2 := (kr + 0)) (n2 := (6 * kr + 0)) (by omega) (by omega) ?_
      exact Lw_law_2321_sem hG kr r23 hr23 v4 x824.2
  · refine s_iconst (pc := 838) (v := 0) dL_law_838 rfl ?_
    exact s_zret (pc := 839) dL_law_839 rfl rfl
def Lw_law_926 (L : Nat) (xs : Nat → Int32) (r23 : Int32 → PH → Option (Int32 × PH)) (v4 : Int32) (v5 : Int32) (s0 : Int32) (s1 : Int32) (s2 : Int32) (P : PH) : Option (Int32 × PH) :=
  (Mo_begin s2 s1 s0 P).bind fun (x926 : PH) =>
  (Mo_thrown x926).bind fun (x930 : Int32) =>
  if x930 = v5 then
    Lw_law_2321 L xs r23 v4 x926
  else
    gdP ((0 : Int32) = 0 ∨ (0 : Int32) = 1) <|
    some ((0 : Int32), x926)
set_option maxRecDepth 100000 in
set_option maxHeartbeats 4000000 in
theorem Lw_law_926_sem {G : GT} {l : Launch} (hG : GOK G l) (kr : Nat) (r23 : Int32 → PH → Option (Int32 × PH)) (hr23 : ∀ (v4 : Int32) (P : PH), Sem G l miL_law kr (6 * kr) (rn tIH) 23 [(0, .ref (gB G)), (1, .ref (gA G 0)), (2, .ref (gA G 1)), (3, .ref (gA G 2)), (4, .int v4)] [] P (r23 v4 P)) (v4 : Int32) (v5 : Int32) (s0 : Int32) (s1 : Int32) (s2 : Int32) (P : PH) : Sem G l miL_law (kr + 2) (6 * kr + 12) (rn tIH) 926 [(0, .ref (gB G)), (1, .ref (gA G 0)), (2, .ref (gA G 1)), (3, .ref (gA G 2)), (4, .int v4), (5, .int v5)] [.int s0, .int s1, .int s2, .ref (gA G 1)] P (Lw_law_926 (gL G) (gX G) r23 v4 v5 s0 s1 s2 P) := by
  unfold Lw_law_926
  refine s_callV (k := (kr + 2)) (n := (6 * kr + 12)) (pc := 926) [.int s2, .int s1, .int s0] (fun _ => []) (fun x926 => x926) dL_law_926 (cV_L_178 hG) (Nat.le_of_ble_eq_true rfl) rfl kd_1 (Mo_begin_ok hG s2 s1 s0 P) rfl (fun _ => rfl) (fun _ => rfl) (Nat.le_of_ble_eq_true rfl) (by omega) (by omega) (fun x926 => ?_)
  refine s_aload_n (pc := 929) 2 dL_law_929 rfl rfl ?_
  refine s_callV (k := (kr + 2)) (n := (6 * kr + 12)) (pc := 930) [] (fun x930 => .int x930 :: []) (fun _ => x926) dL_law_930 (cV_L_137 hG) (Nat.le_of_ble_eq_true rfl) rfl kd_1 (Mo_thrown_ok hG x926) rfl (fun _ => rfl) (fun _ => rfl) (Nat.le_of_ble_eq_true rfl) (by omega) (by omega) (fun x930 => ?_)
  refine s_iload (pc := 933) 5 dL_law_933 rfl ?_
  refine s_icmp_eq (pc := 935) 940 dL_law_935 rfl ?_ ?_
  · refine s_goto (pc := 940) 2321 dL_law_940 rfl ?_
    refine s_sub [0, 1, 2, 3, 4] rfl ?_
    refine s_budget (k2 := (kr + 0)) (n2 := (6 * kr + 0)) (by omega) (by omega) ?_
    exact Lw_law_2321_sem hG kr r23 hr23 v4 x926
  · refine s_iconst (pc := 938) (v := 0) dL_law_938 rfl ?_
    exact s_zret (pc := 939) dL_law_939 rfl rfl
def Lw_law_894 (L : Nat) (xs : Nat → Int32) (r23 : Int32 → PH → Option (Int32 × PH)) (v4 : Int32) (s0 : Int32) (s1 : Int32) (s2 : Int32) (P : PH) : Option (Int32 × PH) :=
  (Lw_begin s2 s1 s0 P).bind fun (x894 : Int32 × PH) =>
  gdI (v4 + (1 : Int32)) L <|
  gdI (v4 + (2 : Int32)) L <|
  gdI (v4 + (3 : Int32)) L <|
  if (xs (v4 + (3 : Int32)).toNatClampNeg) = 0 then
    Lw_law_926 L xs r23 v4 (x894.1) (0 : Int32) (xs (v4 + (2 : Int32)).toNatClampNeg) (xs (v4 + (1 : Int32)).toNatClampNeg) x894.2
  else
    Lw_law_926 L xs r23 v4 (x894.1) (1 : Int32) (xs (v4 + (2 : Int32)).toNatClampNeg) (xs (v4 + (1 : Int32)).toNatClampNeg) x894.2
set_option maxRecDepth 100000 in
set_option maxHeartbeats 4000000 in
theorem Lw_law_894_sem {G : GT} {l : Launch} (hG : GOK G l) (kr : Nat) (r23 : Int32 → PH → Option (Int32 × PH)) (hr23 : ∀ (v4 : Int32) (P : PH), Sem G l miL_law kr (6 * kr) (rn tIH) 23 [(0, .ref (gB G)), (1, .ref (gA G 0)), (2, .ref (gA G 1)), (3, .ref (gA G 2)), (4, .int v4)] [] P (r23 v4 P)) (v4 : Int32) (s0 : Int32) (s1 : Int32) (s2 : Int32) (P : PH) : Sem G l miL_law (kr + 4) (6 * kr + 24) (rn tIH) 894 [(0, .ref (gB G)), (1, .ref (gA G 0)), (2, .ref (gA G 1)), (3, .ref (gA G 2)), (4, .int v4)] [.int s0, .int s1, .int s2, .ref (gA G 0)] P (Lw_law_894 (gL G) (gX G) r23 v4 s0 s1 s2 P) := by
  unfold Lw_law_894
  refine s_callSW (k := (kr + 2)) (n := (6 * kr + 12)) (pc := 894) [.ref (gA G 0), .int s2, .int s1, .int s0] (fun x894 => .int x894.1 :: []) (fun x894 => x894.2) dL_law_894 (cW_175 hG) (Nat.le_of_ble_eq_true rfl) rfl (Lw_begin_ok hG s2 s1 s0 P) rfl (fun _ => rfl) (fun _ => rfl) (Nat.le_of_ble_eq_true rfl) (by omega) (by omega) (fun x894 => ?_)
  refine s_istore (pc := 897) [(5, .int (x894.1)), (0, .ref (gB G)), (1, .ref (gA G 0)), (2, .ref (gA G 1)), (3, .ref (gA G 2)), (4, .int v4)] dL_law_897 (Nat.le_of_ble_eq_true rfl) rfl ?_
  refine s_aload_n (pc := 899) 3 dL_law_899 rfl rfl ?_
  refine s_aload_n (pc := 900) 1 dL_law_900 rfl rfl ?_
  refine s_iload (pc := 901) 5 dL_law_901 rfl ?_
  refine s_iconst (pc := 903) (v := 1) dL_law_903 rfl ?_
  refine s_iadd (pc := 904) dL_law_904 ?_
  refine s_sld (pc := 905) dL_law_905 ?_
  refine s_aload_n (pc := 906) 1 dL_law_906 rfl rfl ?_
  refine s_iload (pc := 907) 5 dL_law_907 rfl ?_
  refine s_iconst (pc := 909) (v := 2) dL_law_909 rfl ?_
  refine s_iadd (pc := 910) dL_law_910 ?_
  refine s_sld (pc := 911) dL_law_911 ?_
  refine s_aload_n (pc := 912) 1 dL_law_912 rfl rfl ?_
  refine s_iload (pc := 913) 5 dL_law_913 rfl ?_
  refine s_iconst (pc := 915) (v := 3) dL_law_915 rfl ?_
  refine s_iadd (pc := 916) dL_law_916 ?_
  refine s_sld (pc := 917) dL_law_917 ?_
  refine s_if_eq (pc := 918) 925 dL_law_918 rfl ?_ ?_
  · refine s_iconst (pc := 925) (v := 0) dL_law_925 rfl ?_
    refine s_sub [1, 2, 3, 4, 5, 0] rfl ?_
    exact Lw_law_926_sem hG kr r23 hr23 v4 (x894.1) (0 : Int32) ((gX G) (v4 + (2 : Int32)).toNatClampNeg) ((gX G) (v4 + (1 : Int32)).toNatClampNeg) x894.2
  · refine s_iconst (pc := 921) (v := 1) dL_law_921 rfl ?_
    refine s_goto (pc := 922) 926 dL_law_922 rfl ?_
    refine s_sub [1, 2, 3, 4, 5, 0] rfl ?_
    exact Lw_law_926_sem hG kr r23 hr23 v4 (x894.1) (1 : Int32) ((gX G) (v4 + (2 : Int32)).toNatClampNeg) ((gX G) (v4 + (1 : Int32)).toNatClampNeg) x894.2
def Lw_law_867 (L : Nat) (xs : Nat → Int32) (r23 : Int32 → PH → Option (Int32 × PH)) (v4 : Int32) (P : PH) : Option (Int32 × PH) :=
  gdI (v4 + (1 : Int32)) L <|
  gdI (v4 + (2 : Int32)) L <|
  gdI (v4 + (3 : Int32)) L <|
  if (xs (v4 + (3 : Int32)).toNatClampNeg) = 0 then
    Lw_law_894 L xs r23 v4 (0 : Int32) (xs (v4 + (2 : Int32)).toNatClampNeg) (xs (v4 + (1 : Int32)).toNatClampNeg) P
  else
    Lw_law_894 L xs r23 v4 (1 : Int32) (xs (v4 + (2 : Int32)).toNatClampNeg) (xs (v4 + (1 : Int32)).toNatClampNeg) P
set_option maxRecDepth 100000 in
set_option maxHeartbeats 4000000 in
theorem Lw_law_867_sem {G : GT} {l : Launch} (hG : GOK G l) (kr : Nat) (r23 : Int32 → PH → Option (Int32 × PH)) (hr23 : ∀ (v4 : Int32) (P : PH), Sem G l miL_law kr (6 * kr) (rn tIH) 23 [(0, .ref (gB G)), (1, .ref (gA G 0)), (2, .ref (gA G 1)), (3, .ref (gA G 2)), (4, .int v4)] [] P (r23 v4 P)) (v4 : Int32) (P : PH) : Sem G l miL_law (kr + 4) (6 * kr + 24) (rn tIH) 867 [(0, .ref (gB G)), (1, .ref (gA G 0)), (2, .ref (gA G 1)), (3, .ref (gA G 2)), (4, .int v4)] [] P (Lw_law_867 (gL G) (gX G) r23 v4 P) := by
  unfold Lw_law_867
  refine s_aload_n (pc := 867) 1 dL_law_867 rfl rfl ?_
  refine s_aload_n (pc := 868) 0 dL_law_868 rfl rfl ?_
  refine s_iload (pc := 869) 4 dL_law_869 rfl ?_
  refine s_iconst (pc := 871) (v := 1) dL_law_871 rfl ?_
  refine s_iadd (pc := 872) dL_law_872 ?_
  refine s_sld (pc := 873) dL_law_873 ?_
  refine s_aload_n (pc := 874) 0 dL_law_874 rfl rfl ?_
  refine s_iload (pc := 875) 4 dL_law_875 rfl ?_
  refine s_iconst (pc := 877) (v := 2) dL_law_877 rfl ?_
  refine s_iadd (pc := 878) dL_law_878 ?_
  refine s_sld (pc := 879) dL_law_879 ?_
  refine s_aload_n (pc := 880) 0 dL_law_880 rfl rfl ?_
  refine s_iload (pc := 881) 4 dL_law_881 rfl ?_
  refine s_iconst (pc := 883) (v := 3) dL_law_883 rfl ?_
  refine s_iadd (pc := 884) dL_law_884 ?_
  refine s_sld (pc := 885) dL_law_885 ?_
  refine s_if_eq (pc := 886) 893 dL_law_886 rfl ?_ ?_
  · refine s_iconst (pc := 893) (v := 0) dL_law_893 rfl ?_
    exact Lw_law_894_sem hG kr r23 hr23 v4 (0 : Int32) ((gX G) (v4 + (2 : Int32)).toNatClampNeg) ((gX G) (v4 + (1 : Int32)).toNatClampNeg) P
  · refine s_iconst (pc := 889) (v := 1) dL_law_889 rfl ?_
    refine s_goto (pc := 890) 894 dL_law_890 rfl ?_
    exact Lw_law_894_sem hG kr r23 hr23 v4 (1 : Int32) ((gX G) (v4 + (2 : Int32)).toNatClampNeg) ((gX G) (v4 + (1 : Int32)).toNatClampNeg) P
def Lw_law_943 (L : Nat) (xs : Nat → Int32) (r23 : Int32 → PH → Option (Int32 × PH)) (v4 : Int32) (P : PH) : Option (Int32 × PH) :=
  (Lw_cut P).bind fun (x945 : Int32 × PH) =>
  (Mo_cut x945.2).bind fun (x951 : Int32 × PH) =>
  (Mo_thrown x951.2).bind fun (x957 : Int32) =>
  if x957 = x945.1 then
    if x945.1 = 0 then
      gdI (0 : Int32) 1 <|
      if (lg_cmp (x951.2.2 2 (0 : Int32).toNatClampNeg) ((x951.1).toInt64)) = 0 then
        Lw_law_2321 L xs r23 v4 x951.2
      else
        gdP ((0 : Int32) = 0 ∨ (0 : Int32) = 1) <|
        some ((0 : Int32), x951.2)
    else
      Lw_law_2321 L xs r23 v4 x951.2
  else
    gdP ((0 : Int32) = 0 ∨ (0 : Int32) = 1) <|
    some ((0 : Int32), x951.2)
set_option maxRecDepth 100000 in
set_option maxHeartbeats 4000000 in
theorem Lw_law_943_sem {G : GT} {l : Launch} (hG : GOK G l) (kr : Nat) (r23 : Int32 → PH → Option (Int32 × PH)) (hr23 : ∀ (v4 : Int32) (P : PH), Sem G l miL_law kr (6 * kr) (rn tIH) 23 [(0, .ref (gB G)), (1, .ref (gA G 0)), (2, .ref (gA G 1)), (3, .ref (gA G 2)), (4, .int v4)] [] P (r23 v4 P)) (v4 : Int32) (P : PH) : Sem G l miL_law (kr + 4) (6 * kr + 24) (rn tIH) 943 [(0, .ref (gB G)), (1, .ref (gA G 0)), (2, .ref (gA G 1)), (3, .ref (gA G 2)), (4, .int v4)] [] P (Lw_law_943 (gL G) (gX G) r23 v4 P) := by
  unfold Lw_law_943
  refine s_aload_n (pc := 943) 1 dL_law_943 rfl rfl ?_
  refine s_aload_n (pc := 944) 3 dL_law_944 rfl rfl ?_
  refine s_callSW (k := (kr + 3)) (n := (6 * kr + 18)) (pc := 945) [.ref (gA G 0), .ref (gA G 2)] (fun x945 => .int x945.1 :: []) (fun x945 => x945.2) dL_law_945 (cW_179 hG) (Nat.le_of_ble_eq_true rfl) rfl (Lw_cut_ok hG P) rfl (fun _ => rfl) (fun _ => rfl) (Nat.le_of_ble_eq_true rfl) (by omega) (by omega) (fun x945 => ?_)
  refine s_istore (pc := 948) [(5, .int (x945.1)), (0, .ref (gB G)), (1, .ref (gA G 0)), (2, .ref (gA G 1)), (3, .ref (gA G 2)), (4, .int v4)] dL_law_948 (Nat.le_of_ble_eq_true rfl) rfl ?_
  refine s_aload_n (pc := 950) 3 dL_law_950 rfl rfl ?_
  refine s_callV (k := (kr + 3)) (n := (6 * kr + 18)) (pc := 951) [] (fun x951 => .int (x951.1) :: []) (fun x951 => x951.2) dL_law_951 (cV_L_182 hG) (Nat.le_of_ble_eq_true rfl) rfl kd_1 (Mo_cut_ok hG x945.2) rfl (fun _ => rfl) (fun _ => rfl) (Nat.le_of_ble_eq_true rfl) (by omega) (by omega) (fun x951 => ?_)
  refine s_istore (pc := 954) [(6, .int (x951.1)), (5, .int (x945.1)), (0, .ref (gB G)), (1, .ref (gA G 0)), (2, .ref (gA G 1)), (3, .ref (gA G 2)), (4, .int v4)] dL_law_954 (Nat.le_of_ble_eq_true rfl) rfl ?_
  refine s_aload_n (pc := 956) 4 dL_law_956 rfl rfl ?_
  refine s_callV (k := (kr + 3)) (n := (6 * kr + 18)) (pc := 957) [] (fun x957 => .int x957 :: []) (fun _ => x951.2) dL_law_957 (cV_L_137 hG) (Nat.le_of_ble_eq_true rfl) rfl kd_1 (Mo_thrown_ok hG x951.2) rfl (fun _ => rfl) (fun _ => rfl) (Nat.le_of_ble_eq_true rfl) (by omega) (by omega) (fun x957 => ?_)
  refine s_iload (pc := 960) 1 dL_law_960 rfl ?_
  refine s_icmp_eq (pc := 962) 967 dL_law_962 rfl ?_ ?_
  · refine s_iload (pc := 967) 1 dL_law_967 rfl ?_
    refine s_if_ne (pc := 969) 984 dL_law_969 rfl ?_ ?_
    · refine s_aload_n (pc := 972) 5 dL_law_972 rfl rfl ?_
      refine s_iconst (pc := 973) (v := 0) dL_law_973 rfl ?_
      refine s_lald (pc := 974) 1 dL_law_974 kd_2 ln_2 ?_
      refine s_iload (pc := 975) 0 dL_law_975 rfl ?_
      refine s_i2l (pc := 977) dL_law_977 ?_
      refine s_lcmp (pc := 978) dL_law_978 ?_
      refine s_if_eq (pc := 979) 984 dL_law_979 rfl ?_ ?_
      · refine s_goto (pc := 984) 2321 dL_law_984 rfl ?_
        refine s_sub [2, 3, 4, 5, 6] rfl ?_
        refine s_budget (k2 := (kr + 0)) (n2 := (6 * kr + 0)) (by omega) (by omega) ?_
        exact Lw_law_2321_sem hG kr r23 hr23 v4 x951.2
      · refine s_iconst (pc := 982) (v := 0) dL_law_982 rfl ?_
        exact s_zret (pc := 983) dL_law_983 rfl rfl
    · refine s_goto (pc := 984) 2321 dL_law_984 rfl ?_
      refine s_sub [2, 3, 4, 5, 6] rfl ?_
      refine s_budget (k2 := (kr + 0)) (n2 := (6 * kr + 0)) (by omega) (by omega) ?_
      exact Lw_law_2321_sem hG kr r23 hr23 v4 x951.2
  · refine s_iconst (pc := 965) (v := 0) dL_law_965 rfl ?_
    exact s_zret (pc := 966) dL_law_966 rfl rfl
def Lw_law_987 (L : Nat) (xs : Nat → Int32) (r23 : Int32 → PH → Option (Int32 × PH)) (v4 : Int32) (P : PH) : Option (Int32 × PH) :=
  gdI (v4 + (1 : Int32)) L <|
  (Lw_may (xs (v4 + (1 : Int32)).toNatClampNeg) P).bind fun (x995 : Int32 × PH) =>
  gdI (v4 + (1 : Int32)) L <|
  (Mo_may (xs (v4 + (1 : Int32)).toNatClampNeg) x995.2).bind fun (x1007 : Int32 × PH) =>
  (Mo_thrown x1007.2).bind fun (x1013 : Int32) =>
  if x1013 = x995.1 then
    if x995.1 = 0 then
      gdI (0 : Int32) 1 <|
      if (lg_cmp (x1007.2.2 2 (0 : Int32).toNatClampNeg) ((x1007.1).toInt64)) = 0 then
        Lw_law_2321 L xs r23 v4 x1007.2
      else
        gdP ((0 : Int32) = 0 ∨ (0 : Int32) = 1) <|
        some ((0 : Int32), x1007.2)
    else
      Lw_law_2321 L xs r23 v4 x1007.2
  else
    gdP ((0 : Int32) = 0 ∨ (0 : Int32) = 1) <|
    some ((0 : Int32), x1007.2)
set_option maxRecDepth 100000 in
set_option maxHeartbeats 4000000 in
theorem Lw_law_987_sem {G : GT} {l : Launch} (hG : GOK G l) (kr : Nat) (r23 : Int32 → PH → Option (Int32 × PH)) (hr23 : ∀ (v4 : Int32) (P : PH), Sem G l miL_law kr (6 * kr) (rn tIH) 23 [(0, .ref (gB G)), (1, .ref (gA G 0)), (2, .ref (gA G 1)), (3, .ref (gA G 2)), (4, .int v4)] [] P (r23 v4 P)) (v4 : Int32) (P : PH) : Sem G l miL_law (kr + 4) (6 * kr + 24) (rn tIH) 987 [(0, .ref (gB G)), (1, .ref (gA G 0)), (2, .ref (gA G 1)), (3, .ref (gA G 2)), (4, .int v4)] [] P (Lw_law_987 (gL G) (gX G) r23 v4 P) := by
  unfold Lw_law_987
  refine s_aload_n (pc := 987) 1 dL_law_987 rfl rfl ?_
  refine s_aload_n (pc := 988) 0 dL_law_988 rfl rfl ?_
  refine s_iload (pc := 989) 4 dL_law_989 rfl ?_
  refine s_iconst (pc := 991) (v := 1) dL_law_991 rfl ?_
  refine s_iadd (pc := 992) dL_law_992 ?_
  refine s_sld (pc := 993) dL_law_993 ?_
  refine s_aload_n (pc := 994) 3 dL_law_994 rfl rfl ?_
  refine s_callSW (k := (kr + 3)) (n := (6 * kr + 18)) (pc := 995) [.ref (gA G 0), .int ((gX G) (v4 + (1 : Int32)).toNatClampNeg), .ref (gA G 2)] (fun x995 => .int x995.1 :: []) (fun x995 => x995.2) dL_law_995 (cW_183 hG) (Nat.le_of_ble_eq_true rfl) rfl (Lw_may_ok hG ((gX G) (v4 + (1 : Int32)).toNatClampNeg) P) rfl (fun _ => rfl) (fun _ => rfl) (Nat.le_of_ble_eq_true rfl) (by omega) (by omega) (fun x995 => ?_)
  refine s_istore (pc := 998) [(5, .int (x995.1)), (0, .ref (gB G)), (1, .ref (gA G 0)), (2, .ref (gA G 1)), (3, .ref (gA G 2)), (4, .int v4)] dL_law_998 (Nat.le_of_ble_eq_true rfl) rfl ?_
  refine s_aload_n (pc := 1000) 3 dL_law_1000 rfl rfl ?_
  refine s_aload_n (pc := 1001) 1 dL_law_1001 rfl rfl ?_
  refine s_iload (pc := 1002) 5 dL_law_1002 rfl ?_
  refine s_iconst (pc := 1004) (v := 1) dL_law_1004 rfl ?_
  refine s_iadd (pc := 1005) dL_law_1005 ?_
  refine s_sld (pc := 1006) dL_law_1006 ?_
  refine s_callV (k := (kr + 3)) (n := (6 * kr + 18)) (pc := 1007) [.int ((gX G) (v4 + (1 : Int32)).toNatClampNeg)] (fun x1007 => .int (x1007.1) :: []) (fun x1007 => x1007.2) dL_law_1007 (cV_L_185 hG) (Nat.le_of_ble_eq_true rfl) rfl kd_1 (Mo_may_ok hG ((gX G) (v4 + (1 : Int32)).toNatClampNeg) x995.2) rfl (fun _ => rfl) (fun _ => rfl) (Nat.le_of_ble_eq_true rfl) (by omega) (by omega) (fun x1007 => ?_)
  refine s_istore (pc := 1010) [(6, .int (x1007.1)), (5, .int (x995.1)), (0, .ref (gB G)), (1, .ref (gA G 0)), (2, .ref (gA G 1)), (3, .ref (gA G 2)), (4, .int v4)] dL_law_1010 (Nat.le_of_ble_eq_true rfl) rfl ?_
  refine s_aload_n (pc := 1012) 4 dL_law_1012 rfl rfl ?_
  refine s_callV (k := (kr + 3)) (n := (6 * kr + 18)) (pc := 1013) [] (fun x1013 => .int x1013 :: []) (fun _ => x1007.2) dL_law_1013 (cV_L_137 hG) (Nat.le_of_ble_eq_true rfl) rfl kd_1 (Mo_thrown_ok hG x1007.2) rfl (fun _ => rfl) (fun _ => rfl) (Nat.le_of_ble_eq_true rfl) (by omega) (by omega) (fun x1013 => ?_)
  refine s_iload (pc := 1016) 1 dL_law_1016 rfl ?_
  refine s_icmp_eq (pc := 1018) 1023 dL_law_1018 rfl ?_ ?_
  · refine s_iload (pc := 1023) 1 dL_law_1023 rfl ?_
    refine s_if_ne (pc := 1025) 1040 dL_law_1025 rfl ?_ ?_
    · refine s_aload_n (pc := 1028) 5 dL_law_1028 rfl rfl ?_
      refine s_iconst (pc := 1029) (v := 0) dL_law_1029 rfl ?_
      refine s_lald (pc := 1030) 1 dL_law_1030 kd_2 ln_2 ?_
      refine s_iload (pc := 1031) 0 dL_law_1031 rfl ?_
      refine s_i2l (pc := 1033) dL_law_1033 ?_
      refine s_lcmp (pc := 1034) dL_law_1034 ?_
      refine s_if_eq (pc := 1035) 1040 dL_law_1035 rfl ?_ ?_
      · refine s_goto (pc := 1040) 2321 dL_law_1040 rfl ?_
        refine s_sub [2, 3, 4, 5, 6] rfl ?_
        refine s_budget (k2 := (kr + 0)) (n2 := (6 * kr + 0)) (by omega) (by omega) ?_
        exact Lw_law_2321_sem hG kr r23 hr23 v4 x1007.2
      · refine s_iconst (pc := 1038) (v := 0) dL_law_1038 rfl ?_
        exact s_zret (pc := 1039) dL_law_1039 rfl rfl
    · refine s_goto (pc := 1040) 2321 dL_law_1040 rfl ?_
      refine s_sub [2, 3, 4, 5, 6] rfl ?_
      refine s_budget (k2 := (kr + 0)) (n2 := (6 * kr + 0)) (by omega) (by omega) ?_
      exact Lw_law_2321_sem hG kr r23 hr23 v4 x1007.2
  · refine s_iconst (pc := 1021) (v := 0) dL_law_1021 rfl ?_
    exact s_zret (pc := 1022) dL_law_1022 rfl rfl
def Lw_law_1043 (L : Nat) (xs : Nat → Int32) (r23 : Int32 → PH → Option (Int32 × PH)) (v4 : Int32) (P : PH) : Option (Int32 × PH) :=
  gdI (v4 + (1 : Int32)) L <|
  (Lw_stitch (xs (v4 + (1 : Int32)).toNatClampNeg) P).bind fun (x1051 : Int32 × PH) =>
  gdI (v4 + (1 : Int32)) L <|
  (Mo_stitch (xs (v4 + (1 : Int32)).toNatClampNeg) x1051.2).bind fun (x1063 : Int32 × PH) =>
  (Mo_thrown x1063.2).bind fun (x1069 : Int32) =>
  if x1069 = x1051.1 then
    if x1051.1 = 0 then
      gdI (0 : Int32) 1 <|
      if (lg_cmp (x1063.2.2 2 (0 : Int32).toNatClampNeg) ((x1063.1).toInt64)) = 0 then
        Lw_law_2321 L xs r23 v4 x1063.2
      else
        gdP ((0 : Int32) = 0 ∨ (0 : Int32) = 1) <|
        some ((0 : Int32), x1063.2)
    else
      Lw_law_2321 L xs r23 v4 x1063.2
  else
    gdP ((0 : Int32) = 0 ∨ (0 : Int32) = 1) <|
    some ((0 : Int32), x1063.2)
set_option maxRecDepth 100000 in
set_option maxHeartbeats 4000000 in
theorem Lw_law_1043_sem {G : GT} {l : Launch} (hG : GOK G l) (kr : Nat) (r23 : Int32 → PH → Option (Int32 × PH)) (hr23 : ∀ (v4 : Int32) (P : PH), Sem G l miL_law kr (6 * kr) (rn tIH) 23 [(0, .ref (gB G)), (1, .ref (gA G 0)), (2, .ref (gA G 1)), (3, .ref (gA G 2)), (4, .int v4)] [] P (r23 v4 P)) (v4 : Int32) (P : PH) : Sem G l miL_law (kr + 4) (6 * kr + 24) (rn tIH) 1043 [(0, .ref (gB G)), (1, .ref (gA G 0)), (2, .ref (gA G 1)), (3, .ref (gA G 2)), (4, .int v4)] [] P (Lw_law_1043 (gL G) (gX G) r23 v4 P) := by
  unfold Lw_law_1043
  refine s_aload_n (pc := 1043) 1 dL_law_1043 rfl rfl ?_
  refine s_aload_n (pc := 1044) 0 dL_law_1044 rfl rfl ?_
  refine s_iload (pc := 1045) 4 dL_law_1045 rfl ?_
  refine s_iconst (pc := 1047) (v := 1) dL_law_1047 rfl ?_
  refine s_iadd (pc := 1048) dL_law_1048 ?_
  refine s_sld (pc := 1049) dL_law_1049 ?_
  refine s_aload_n (pc := 1050) 3 dL_law_1050 rfl rfl ?_
  refine s_callSW (k := (kr + 3)) (n := (6 * kr + 18)) (pc := 1051) [.ref (gA G 0), .int ((gX G) (v4 + (1 : Int32)).toNatClampNeg), .ref (gA G 2)] (fun x1051 => .int x1051.1 :: []) (fun x1051 => x1051.2) dL_law_1051 (cW_186 hG) (Nat.le_of_ble_eq_true rfl) rfl (Lw_stitch_ok hG ((gX G) (v4 + (1 : Int32)).toNatClampNeg) P) rfl (fun _ => rfl) (fun _ => rfl) (Nat.le_of_ble_eq_true rfl) (by omega) (by omega) (fun x1051 => ?_)
  refine s_istore (pc := 1054) [(5, .int (x1051.1)), (0, .ref (gB G)), (1, .ref (gA G 0)), (2, .ref (gA G 1)), (3, .ref (gA G 2)), (4, .int v4)] dL_law_1054 (Nat.le_of_ble_eq_true rfl) rfl ?_
  refine s_aload_n (pc := 1056) 3 dL_law_1056 rfl rfl ?_
  refine s_aload_n (pc := 1057) 1 dL_law_1057 rfl rfl ?_
  refine s_iload (pc := 1058) 5 dL_law_1058 rfl ?_
  refine s_iconst (pc := 1060) (v := 1) dL_law_1060 rfl ?_
  refine s_iadd (pc := 1061) dL_law_1061 ?_
  refine s_sld (pc := 1062) dL_law_1062 ?_
  refine s_callV (k := (kr + 3)) (n := (6 * kr + 18)) (pc := 1063) [.int ((gX G) (v4 + (1 : Int32)).toNatClampNeg)] (fun x1063 => .int (x1063.1) :: []) (fun x1063 => x1063.2) dL_law_1063 (cV_L_188 hG) (Nat.le_of_ble_eq_true rfl) rfl kd_1 (Mo_stitch_ok hG ((gX G) (v4 + (1 : Int32)).toNatClampNeg) x1051.2) rfl (fun _ => rfl) (fun _ => rfl) (Nat.le_of_ble_eq_true rfl) (by omega) (by omega) (fun x1063 => ?_)
  refine s_istore (pc := 1066) [(6, .int (x1063.1)), (5, .int (x1051.1)), (0, .ref (gB G)), (1, .ref (gA G 0)), (2, .ref (gA G 1)), (3, .ref (gA G 2)), (4, .int v4)] dL_law_1066 (Nat.le_of_ble_eq_true rfl) rfl ?_
  refine s_aload_n (pc := 1068) 4 dL_law_1068 rfl rfl ?_
  refine s_callV (k := (kr + 3)) (n := (6 * kr + 18)) (pc := 1069) [] (fun x1069 => .int x1069 :: []) (fun _ => x1063.2) dL_law_1069 (cV_L_137 hG) (Nat.le_of_ble_eq_true rfl) rfl kd_1 (Mo_thrown_ok hG x1063.2) rfl (fun _ => rfl) (fun _ => rfl) (Nat.le_of_ble_eq_true rfl) (by omega) (by omega) (fun x1069 => ?_)
  refine s_iload (pc := 1072) 1 dL_law_1072 rfl ?_
  refine s_icmp_eq (pc := 1074) 1079 dL_law_1074 rfl ?_ ?_
  · refine s_iload (pc := 1079) 1 dL_law_1079 rfl ?_
    refine s_if_ne (pc := 1081) 1096 dL_law_1081 rfl ?_ ?_
    · refine s_aload_n (pc := 1084) 5 dL_law_1084 rfl rfl ?_
      refine s_iconst (pc := 1085) (v := 0) dL_law_1085 rfl ?_
      refine s_lald (pc := 1086) 1 dL_law_1086 kd_2 ln_2 ?_
      refine s_iload (pc := 1087) 0 dL_law_1087 rfl ?_
      refine s_i2l (pc := 1089) dL_law_1089 ?_
      refine s_lcmp (pc := 1090) dL_law_1090 ?_
      refine s_if_eq (pc := 1091) 1096 dL_law_1091 rfl ?_ ?_
      · refine s_goto (pc := 1096) 2321 dL_law_1096 rfl ?_
        refine s_sub [2, 3, 4, 5, 6] rfl ?_
        refine s_budget (k2 := (kr + 0)) (n2 := (6 * kr + 0)) (by omega) (by omega) ?_
        exact Lw_law_2321_sem hG kr r23 hr23 v4 x1063.2
      · refine s_iconst (pc := 1094) (v := 0) dL_law_1094 rfl ?_
        exact s_zret (pc := 1095) dL_law_1095 rfl rfl
    · refine s_goto (pc := 1096) 2321 dL_law_1096 rfl ?_
      refine s_sub [2, 3, 4, 5, 6] rfl ?_
      refine s_budget (k2 := (kr + 0)) (n2 := (6 * kr + 0)) (by omega) (by omega) ?_
      exact Lw_law_2321_sem hG kr r23 hr23 v4 x1063.2
  · refine s_iconst (pc := 1077) (v := 0) dL_law_1077 rfl ?_
    exact s_zret (pc := 1078) dL_law_1078 rfl rfl
def Lw_law_1099 (L : Nat) (xs : Nat → Int32) (r23 : Int32 → PH → Option (Int32 × PH)) (v4 : Int32) (P : PH) : Option (Int32 × PH) :=
  gdI (v4 + (1 : Int32)) L <|
  (Lw_unpick (xs (v4 + (1 : Int32)).toNatClampNeg) P).bind fun (x1107 : Int32 × PH) =>
  gdI (v4 + (1 : Int32)) L <|
  (Mo_unpick (xs (v4 + (1 : Int32)).toNatClampNeg) x1107.2).bind fun (x1119 : Int32 × PH) =>
  (Mo_thrown x1119.2).bind fun (x1125 : Int32) =>
  if x1125 = x1107.1 then
    if x1107.1 = 0 then
      gdI (0 : Int32) 1 <|
      if (lg_cmp (x1119.2.2 2 (0 : Int32).toNatClampNeg) ((x1119.1).toInt64)) = 0 then
        Lw_law_2321 L xs r23 v4 x1119.2
      else
        gdP ((0 : Int32) = 0 ∨ (0 : Int32) = 1) <|
        some ((0 : Int32), x1119.2)
    else
      Lw_law_2321 L xs r23 v4 x1119.2
  else
    gdP ((0 : Int32) = 0 ∨ (0 : Int32) = 1) <|
    some ((0 : Int32), x1119.2)
set_option maxRecDepth 100000 in
set_option maxHeartbeats 4000000 in
theorem Lw_law_1099_sem {G : GT} {l : Launch} (hG : GOK G l) (kr : Nat) (r23 : Int32 → PH → Option (Int32 × PH)) (hr23 : ∀ (v4 : Int32) (P : PH), Sem G l miL_law kr (6 * kr) (rn tIH) 23 [(0, .ref (gB G)), (1, .ref (gA G 0)), (2, .ref (gA G 1)), (3, .ref (gA G 2)), (4, .int v4)] [] P (r23 v4 P)) (v4 : Int32) (P : PH) : Sem G l miL_law (kr + 4) (6 * kr + 24) (rn tIH) 1099 [(0, .ref (gB G)), (1, .ref (gA G 0)), (2, .ref (gA G 1)), (3, .ref (gA G 2)), (4, .int v4)] [] P (Lw_law_1099 (gL G) (gX G) r23 v4 P) := by
  unfold Lw_law_1099
  refine s_aload_n (pc := 1099) 1 dL_law_1099 rfl rfl ?_
  refine s_aload_n (pc := 1100) 0 dL_law_1100 rfl rfl ?_
  refine s_iload (pc := 1101) 4 dL_law_1101 rfl ?_
  refine s_iconst (pc := 1103) (v := 1) dL_law_1103 rfl ?_
  refine s_iadd (pc := 1104) dL_law_1104 ?_
  refine s_sld (pc := 1105) dL_law_1105 ?_
  refine s_aload_n (pc := 1106) 3 dL_law_1106 rfl rfl ?_
  refine s_callSW (k := (kr + 2)) (n := (6 * kr + 12)) (pc := 1107) [.ref (gA G 0), .int ((gX G) (v4 + (1 : Int32)).toNatClampNeg), .ref (gA G 2)] (fun x1107 => .int x1107.1 :: []) (fun x1107 => x1107.2) dL_law_1107 (cW_189 hG) (Nat.le_of_ble_eq_true rfl) rfl (Lw_unpick_ok hG ((gX G) (v4 + (1 : Int32)).toNatClampNeg) P) rfl (fun _ => rfl) (fun _ => rfl) (Nat.le_of_ble_eq_true rfl) (by omega) (by omega) (fun x1107 => ?_)
  refine s_istore (pc := 1110) [(5, .int (x1107.1)), (0, .ref (gB G)), (1, .ref (gA G 0)), (2, .ref (gA G 1)), (3, .ref (gA G 2)), (4, .int v4)] dL_law_1110 (Nat.le_of_ble_eq_true rfl) rfl ?_
  refine s_aload_n (pc := 1112) 3 dL_law_1112 rfl rfl ?_
  refine s_aload_n (pc := 1113) 1 dL_law_1113 rfl rfl ?_
  refine s_iload (pc := 1114) 5 dL_law_1114 rfl ?_
  refine s_iconst (pc := 1116) (v := 1) dL_law_1116 rfl ?_
  refine s_iadd (pc := 1117) dL_law_1117 ?_
  refine s_sld (pc := 1118) dL_law_1118 ?_
  refine s_callV (k := (kr + 2)) (n := (6 * kr + 12)) (pc := 1119) [.int ((gX G) (v4 + (1 : Int32)).toNatClampNeg)] (fun x1119 => .int (x1119.1) :: []) (fun x1119 => x1119.2) dL_law_1119 (cV_L_191 hG) (Nat.le_of_ble_eq_true rfl) rfl kd_1 (Mo_unpick_ok hG ((gX G) (v4 + (1 : Int32)).toNatClampNeg) x1107.2) rfl (fun _ => rfl) (fun _ => rfl) (Nat.le_of_ble_eq_true rfl) (by omega) (by omega) (fun x1119 => ?_)
  refine s_istore (pc := 1122) [(6, .int (x1119.1)), (5, .int (x1107.1)), (0, .ref (gB G)), (1, .ref (gA G 0)), (2, .ref (gA G 1)), (3, .ref (gA G 2)), (4, .int v4)] dL_law_1122 (Nat.le_of_ble_eq_true rfl) rfl ?_
  refine s_aload_n (pc := 1124) 4 dL_law_1124 rfl rfl ?_
  refine s_callV (k := (kr + 2)) (n := (6 * kr + 12)) (pc := 1125) [] (fun x1125 => .int x1125 :: []) (fun _ => x1119.2) dL_law_1125 (cV_L_137 hG) (Nat.le_of_ble_eq_true rfl) rfl kd_1 (Mo_thrown_ok hG x1119.2) rfl (fun _ => rfl) (fun _ => rfl) (Nat.le_of_ble_eq_true rfl) (by omega) (by omega) (fun x1125 => ?_)
  refine s_iload (pc := 1128) 1 dL_law_1128 rfl ?_
  refine s_icmp_eq (pc := 1130) 1135 dL_law_1130 rfl ?_ ?_
  · refine s_iload (pc := 1135) 1 dL_law_1135 rfl ?_
    refine s_if_ne (pc := 1137) 1152 dL_law_1137 rfl ?_ ?_
    · refine s_aload_n (pc := 1140) 5 dL_law_1140 rfl rfl ?_
      refine s_iconst (pc := 1141) (v := 0) dL_law_1141 rfl ?_
      refine s_lald (pc := 1142) 1 dL_law_1142 kd_2 ln_2 ?_
      refine s_iload (pc := 1143) 0 dL_law_1143 rfl ?_
      refine s_i2l (pc := 1145) dL_law_1145 ?_
      refine s_lcmp (pc := 1146) dL_law_1146 ?_
      refine s_if_eq (pc := 1147) 1152 dL_law_1147 rfl ?_ ?_
      · refine s_goto (pc := 1152) 2321 dL_law_1152 rfl ?_
        refine s_sub [2, 3, 4, 5, 6] rfl ?_
        refine s_budget (k2 := (kr + 0)) (n2 := (6 * kr + 0)) (by omega) (by omega) ?_
        exact Lw_law_2321_sem hG kr r23 hr23 v4 x1119.2
      · refine s_iconst (pc := 1150) (v := 0) dL_law_1150 rfl ?_
        exact s_zret (pc := 1151) dL_law_1151 rfl rfl
    · refine s_goto (pc := 1152) 2321 dL_law_1152 rfl ?_
      refine s_sub [2, 3, 4, 5, 6] rfl ?_
      refine s_budget (k2 := (kr + 0)) (n2 := (6 * kr + 0)) (by omega) (by omega) ?_
      exact Lw_law_2321_sem hG kr r23 hr23 v4 x1119.2
  · refine s_iconst (pc := 1133) (v := 0) dL_law_1133 rfl ?_
    exact s_zret (pc := 1134) dL_law_1134 rfl rfl
def Lw_law_1155 (L : Nat) (xs : Nat → Int32) (r23 : Int32 → PH → Option (Int32 × PH)) (v4 : Int32) (P : PH) : Option (Int32 × PH) :=
  gdI (v4 + (1 : Int32)) L <|
  (Lw_thread (xs (v4 + (1 : Int32)).toNatClampNeg) P).bind fun (x1163 : Int32 × PH) =>
  gdI (v4 + (1 : Int32)) L <|
  (Mo_thread (xs (v4 + (1 : Int32)).toNatClampNeg) x1163.2).bind fun (x1175 : Int32 × PH) =>
  (Mo_thrown x1175.2).bind fun (x1181 : Int32) =>
  if x1181 = x1163.1 then
    if x1163.1 = 0 then
      gdI (0 : Int32) 1 <|
      if (lg_cmp (x1175.2.2 2 (0 : Int32).toNatClampNeg) ((x1175.1).toInt64)) = 0 then
        Lw_law_2321 L xs r23 v4 x1175.2
      else
        gdP ((0 : Int32) = 0 ∨ (0 : Int32) = 1) <|
        some ((0 : Int32), x1175.2)
    else
      Lw_law_2321 L xs r23 v4 x1175.2
  else
    gdP ((0 : Int32) = 0 ∨ (0 : Int32) = 1) <|
    some ((0 : Int32), x1175.2)
set_option maxRecDepth 100000 in
set_option maxHeartbeats 4000000 in
theorem Lw_law_1155_sem {G : GT} {l : Launch} (hG : GOK G l) (kr : Nat) (r23 : Int32 → PH → Option (Int32 × PH)) (hr23 : ∀ (v4 : Int32) (P : PH), Sem G l miL_law kr (6 * kr) (rn tIH) 23 [(0, .ref (gB G)), (1, .ref (gA G 0)), (2, .ref (gA G 1)), (3, .ref (gA G 2)), (4, .int v4)] [] P (r23 v4 P)) (v4 : Int32) (P : PH) : Sem G l miL_law (kr + 4) (6 * kr + 24) (rn tIH) 1155 [(0, .ref (gB G)), (1, .ref (gA G 0)), (2, .ref (gA G 1)), (3, .ref (gA G 2)), (4, .int v4)] [] P (Lw_law_1155 (gL G) (gX G) r23 v4 P) := by
  unfold Lw_law_1155
  refine s_aload_n (pc := 1155) 1 dL_law_1155 rfl rfl ?_
  refine s_aload_n (pc := 1156) 0 dL_law_1156 rfl rfl ?_
  refine s_iload (pc := 1157) 4 dL_law_1157 rfl ?_
  refine s_iconst (pc := 1159) (v := 1) dL_law_1159 rfl ?_
  refine s_iadd (pc := 1160) dL_law_1160 ?_
  refine s_sld (pc := 1161) dL_law_1161 ?_
  refine s_aload_n (pc := 1162) 3 dL_law_1162 rfl rfl ?_
  refine s_callSW (k := (kr + 2)) (n := (6 * kr + 12)) (pc := 1163) [.ref (gA G 0), .int ((gX G) (v4 + (1 : Int32)).toNatClampNeg), .ref (gA G 2)] (fun x1163 => .int x1163.1 :: []) (fun x1163 => x1163.2) dL_law_1163 (cW_192 hG) (Nat.le_of_ble_eq_true rfl) rfl (Lw_thread_ok hG ((gX G) (v4 + (1 : Int32)).toNatClampNeg) P) rfl (fun _ => rfl) (fun _ => rfl) (Nat.le_of_ble_eq_true rfl) (by omega) (by omega) (fun x1163 => ?_)
  refine s_istore (pc := 1166) [(5, .int (x1163.1)), (0, .ref (gB G)), (1, .ref (gA G 0)), (2, .ref (gA G 1)), (3, .ref (gA G 2)), (4, .int v4)] dL_law_1166 (Nat.le_of_ble_eq_true rfl) rfl ?_
  refine s_aload_n (pc := 1168) 3 dL_law_1168 rfl rfl ?_
  refine s_aload_n (pc := 1169) 1 dL_law_1169 rfl rfl ?_
  refine s_iload (pc := 1170) 5 dL_law_1170 rfl ?_
  refine s_iconst (pc := 1172) (v := 1) dL_law_1172 rfl ?_
  refine s_iadd (pc := 1173) dL_law_1173 ?_
  refine s_sld (pc := 1174) dL_law_1174 ?_
  refine s_callV (k := (kr + 2)) (n := (6 * kr + 12)) (pc := 1175) [.int ((gX G) (v4 + (1 : Int32)).toNatClampNeg)] (fun x1175 => .int (x1175.1) :: []) (fun x1175 => x1175.2) dL_law_1175 (cV_L_194 hG) (Nat.le_of_ble_eq_true rfl) rfl kd_1 (Mo_thread_ok hG ((gX G) (v4 + (1 : Int32)).toNatClampNeg) x1163.2) rfl (fun _ => rfl) (fun _ => rfl) (Nat.le_of_ble_eq_true rfl) (by omega) (by omega) (fun x1175 => ?_)
  refine s_istore (pc := 1178) [(6, .int (x1175.1)), (5, .int (x1163.1)), (0, .ref (gB G)), (1, .ref (gA G 0)), (2, .ref (gA G 1)), (3, .ref (gA G 2)), (4, .int v4)] dL_law_1178 (Nat.le_of_ble_eq_true rfl) rfl ?_
  refine s_aload_n (pc := 1180) 4 dL_law_1180 rfl rfl ?_
  refine s_callV (k := (kr + 2)) (n := (6 * kr + 12)) (pc := 1181) [] (fun x1181 => .int x1181 :: []) (fun _ => x1175.2) dL_law_1181 (cV_L_137 hG) (Nat.le_of_ble_eq_true rfl) rfl kd_1 (Mo_thrown_ok hG x1175.2) rfl (fun _ => rfl) (fun _ => rfl) (Nat.le_of_ble_eq_true rfl) (by omega) (by omega) (fun x1181 => ?_)
  refine s_iload (pc := 1184) 1 dL_law_1184 rfl ?_
  refine s_icmp_eq (pc := 1186) 1191 dL_law_1186 rfl ?_ ?_
  · refine s_iload (pc := 1191) 1 dL_law_1191 rfl ?_
    refine s_if_ne (pc := 1193) 1208 dL_law_1193 rfl ?_ ?_
    · refine s_aload_n (pc := 1196) 5 dL_law_1196 rfl rfl ?_
      refine s_iconst (pc := 1197) (v := 0) dL_law_1197 rfl ?_
      refine s_lald (pc := 1198) 1 dL_law_1198 kd_2 ln_2 ?_
      refine s_iload (pc := 1199) 0 dL_law_1199 rfl ?_
      refine s_i2l (pc := 1201) dL_law_1201 ?_
      refine s_lcmp (pc := 1202) dL_law_1202 ?_
      refine s_if_eq (pc := 1203) 1208 dL_law_1203 rfl ?_ ?_
      · refine s_goto (pc := 1208) 2321 dL_law_1208 rfl ?_
        refine s_sub [2, 3, 4, 5, 6] rfl ?_
        refine s_budget (k2 := (kr + 0)) (n2 := (6 * kr + 0)) (by omega) (by omega) ?_
        exact Lw_law_2321_sem hG kr r23 hr23 v4 x1175.2
      · refine s_iconst (pc := 1206) (v := 0) dL_law_1206 rfl ?_
        exact s_zret (pc := 1207) dL_law_1207 rfl rfl
    · refine s_goto (pc := 1208) 2321 dL_law_1208 rfl ?_
      refine s_sub [2, 3, 4, 5, 6] rfl ?_
      refine s_budget (k2 := (kr + 0)) (n2 := (6 * kr + 0)) (by omega) (by omega) ?_
      exact Lw_law_2321_sem hG kr r23 hr23 v4 x1175.2
  · refine s_iconst (pc := 1189) (v := 0) dL_law_1189 rfl ?_
    exact s_zret (pc := 1190) dL_law_1190 rfl rfl
def Lw_law_1211 (L : Nat) (xs : Nat → Int32) (r23 : Int32 → PH → Option (Int32 × PH)) (v4 : Int32) (P : PH) : Option (Int32 × PH) :=
  gdI (v4 + (1 : Int32)) L <|
  (Lw_done (xs (v4 + (1 : Int32)).toNatClampNeg) P).bind fun (x1219 : Int32 × PH) =>
  gdI (v4 + (1 : Int32)) L <|
  (Mo_done (xs (v4 + (1 : Int32)).toNatClampNeg) x1219.2).bind fun (x1231 : Int32 × PH) =>
  (Mo_thrown x1231.2).bind fun (x1237 : Int32) =>
  if x1237 = x1219.1 then
    if x1219.1 = 0 then
      gdI (0 : Int32) 1 <|
      if (lg_cmp (x1231.2.2 2 (0 : Int32).toNatClampNeg) ((x1231.1).toInt64)) = 0 then
        Lw_law_2321 L xs r23 v4 x1231.2
      else
        gdP ((0 : Int32) = 0 ∨ (0 : Int32) = 1) <|
        some ((0 : Int32), x1231.2)
    else
      Lw_law_2321 L xs r23 v4 x1231.2
  else
    gdP ((0 : Int32) = 0 ∨ (0 : Int32) = 1) <|
    some ((0 : Int32), x1231.2)
set_option maxRecDepth 100000 in
set_option maxHeartbeats 4000000 in
theorem Lw_law_1211_sem {G : GT} {l : Launch} (hG : GOK G l) (kr : Nat) (r23 : Int32 → PH → Option (Int32 × PH)) (hr23 : ∀ (v4 : Int32) (P : PH), Sem G l miL_law kr (6 * kr) (rn tIH) 23 [(0, .ref (gB G)), (1, .ref (gA G 0)), (2, .ref (gA G 1)), (3, .ref (gA G 2)), (4, .int v4)] [] P (r23 v4 P)) (v4 : Int32) (P : PH) : Sem G l miL_law (kr + 4) (6 * kr + 24) (rn tIH) 1211 [(0, .ref (gB G)), (1, .ref (gA G 0)), (2, .ref (gA G 1)), (3, .ref (gA G 2)), (4, .int v4)] [] P (Lw_law_1211 (gL G) (gX G) r23 v4 P) := by
  unfold Lw_law_1211
  refine s_aload_n (pc := 1211) 1 dL_law_1211 rfl rfl ?_
  refine s_aload_n (pc := 1212) 0 dL_law_1212 rfl rfl ?_
  refine s_iload (pc := 1213) 4 dL_law_1213 rfl ?_
  refine s_iconst (pc := 1215) (v := 1) dL_law_1215 rfl ?_
  refine s_iadd (pc := 1216) dL_law_1216 ?_
  refine s_sld (pc := 1217) dL_law_1217 ?_
  refine s_aload_n (pc := 1218) 3 dL_law_1218 rfl rfl ?_
  refine s_callSW (k := (kr + 3)) (n := (6 * kr + 18)) (pc := 1219) [.ref (gA G 0), .int ((gX G) (v4 + (1 : Int32)).toNatClampNeg), .ref (gA G 2)] (fun x1219 => .int x1219.1 :: []) (fun x1219 => x1219.2) dL_law_1219 (cW_195 hG) (Nat.le_of_ble_eq_true rfl) rfl (Lw_done_ok hG ((gX G) (v4 + (1 : Int32)).toNatClampNeg) P) rfl (fun _ => rfl) (fun _ => rfl) (Nat.le_of_ble_eq_true rfl) (by omega) (by omega) (fun x1219 => ?_)
  refine s_istore (pc := 1222) [(5, .int (x1219.1)), (0, .ref (gB G)), (1, .ref (gA G 0)), (2, .ref (gA G 1)), (3, .ref (gA G 2)), (4, .int v4)] dL_law_1222 (Nat.le_of_ble_eq_true rfl) rfl ?_
  refine s_aload_n (pc := 1224) 3 dL_law_1224 rfl rfl ?_
  refine s_aload_n (pc := 1225) 1 dL_law_1225 rfl rfl ?_
  refine s_iload (pc := 1226) 5 dL_law_1226 rfl ?_
  refine s_iconst (pc := 1228) (v := 1) dL_law_1228 rfl ?_
  refine s_iadd (pc := 1229) dL_law_1229 ?_
  refine s_sld (pc := 1230) dL_law_1230 ?_
  refine s_callV (k := (kr + 3)) (n := (6 * kr + 18)) (pc := 1231) [.int ((gX G) (v4 + (1 : Int32)).toNatClampNeg)] (fun x1231 => .int (x1231.1) :: []) (fun x1231 => x1231.2) dL_law_1231 (cV_L_197 hG) (Nat.le_of_ble_eq_true rfl) rfl kd_1 (Mo_done_ok hG ((gX G) (v4 + (1 : Int32)).toNatClampNeg) x1219.2) rfl (fun _ => rfl) (fun _ => rfl) (Nat.le_of_ble_eq_true rfl) (by omega) (by omega) (fun x1231 => ?_)
  refine s_istore (pc := 1234) [(6, .int (x1231.1)), (5, .int (x1219.1)), (0, .ref (gB G)), (1, .ref (gA G 0)), (2, .ref (gA G 1)), (3, .ref (gA G 2)), (4, .int v4)] dL_law_1234 (Nat.le_of_ble_eq_true rfl) rfl ?_
  refine s_aload_n (pc := 1236) 4 dL_law_1236 rfl rfl ?_
  refine s_callV (k := (kr + 3)) (n := (6 * kr + 18)) (pc := 1237) [] (fun x1237 => .int x1237 :: []) (fun _ => x1231.2) dL_law_1237 (cV_L_137 hG) (Nat.le_of_ble_eq_true rfl) rfl kd_1 (Mo_thrown_ok hG x1231.2) rfl (fun _ => rfl) (fun _ => rfl) (Nat.le_of_ble_eq_true rfl) (by omega) (by omega) (fun x1237 => ?_)
  refine s_iload (pc := 1240) 1 dL_law_1240 rfl ?_
  refine s_icmp_eq (pc := 1242) 1247 dL_law_1242 rfl ?_ ?_
  · refine s_iload (pc := 1247) 1 dL_law_1247 rfl ?_
    refine s_if_ne (pc := 1249) 1264 dL_law_1249 rfl ?_ ?_
    · refine s_aload_n (pc := 1252) 5 dL_law_1252 rfl rfl ?_
      refine s_iconst (pc := 1253) (v := 0) dL_law_1253 rfl ?_
      refine s_lald (pc := 1254) 1 dL_law_1254 kd_2 ln_2 ?_
      refine s_iload (pc := 1255) 0 dL_law_1255 rfl ?_
      refine s_i2l (pc := 1257) dL_law_1257 ?_
      refine s_lcmp (pc := 1258) dL_law_1258 ?_
      refine s_if_eq (pc := 1259) 1264 dL_law_1259 rfl ?_ ?_
      · refine s_goto (pc := 1264) 2321 dL_law_1264 rfl ?_
        refine s_sub [2, 3, 4, 5, 6] rfl ?_
        refine s_budget (k2 := (kr + 0)) (n2 := (6 * kr + 0)) (by omega) (by omega) ?_
        exact Lw_law_2321_sem hG kr r23 hr23 v4 x1231.2
      · refine s_iconst (pc := 1262) (v := 0) dL_law_1262 rfl ?_
        exact s_zret (pc := 1263) dL_law_1263 rfl rfl
    · refine s_goto (pc := 1264) 2321 dL_law_1264 rfl ?_
      refine s_sub [2, 3, 4, 5, 6] rfl ?_
      refine s_budget (k2 := (kr + 0)) (n2 := (6 * kr + 0)) (by omega) (by omega) ?_
      exact Lw_law_2321_sem hG kr r23 hr23 v4 x1231.2
  · refine s_iconst (pc := 1245) (v := 0) dL_law_1245 rfl ?_
    exact s_zret (pc := 1246) dL_law_1246 rfl rfl
def Lw_law_1267 (L : Nat) (xs : Nat → Int32) (r23 : Int32 → PH → Option (Int32 × PH)) (v4 : Int32) (P : PH) : Option (Int32 × PH) :=
  gdI (v4 + (1 : Int32)) L <|
  gdI (v4 + (2 : Int32)) L <|
  (Lw_judge (xs (v4 + (1 : Int32)).toNatClampNeg) (xs (v4 + (2 : Int32)).toNatClampNeg) P).bind fun (x1281 : Int32 × PH) =>
  gdI (v4 + (1 : Int32)) L <|
  gdI (v4 + (2 : Int32)) L <|
  (Mo_judge (xs (v4 + (1 : Int32)).toNatClampNeg) (xs (v4 + (2 : Int32)).toNatClampNeg) x1281.2).bind fun (x1299 : Int32 × PH) =>
  (Mo_thrown x1299.2).bind fun (x1305 : Int32) =>
  if x1305 = x1281.1 then
    if x1281.1 = 0 then
      gdI (0 : Int32) 1 <|
      if (lg_cmp (x1299.2.2 2 (0 : Int32).toNatClampNeg) ((x1299.1).toInt64)) = 0 then
        Lw_law_2321 L xs r23 v4 x1299.2
      else
        gdP ((0 : Int32) = 0 ∨ (0 : Int32) = 1) <|
        some ((0 : Int32), x1299.2)
    else
      Lw_law_2321 L xs r23 v4 x1299.2
  else
    gdP ((0 : Int32) = 0 ∨ (0 : Int32) = 1) <|
    some ((0 : Int32), x1299.2)
set_option maxRecDepth 100000 in
set_option maxHeartbeats 4000000 in
theorem Lw_law_1267_sem {G : GT} {l : Launch} (hG : GOK G l) (kr : Nat) (r23 : Int32 → PH → Option (Int32 × PH)) (hr23 : ∀ (v4 : Int32) (P : PH), Sem G l miL_law kr (6 * kr) (rn tIH) 23 [(0, .ref (gB G)), (1, .ref (gA G 0)), (2, .ref (gA G 1)), (3, .ref (gA G 2)), (4, .int v4)] [] P (r23 v4 P)) (v4 : Int32) (P : PH) : Sem G l miL_law (kr + 4) (6 * kr + 24) (rn tIH) 1267 [(0, .ref (gB G)), (1, .ref (gA G 0)), (2, .ref (gA G 1)), (3, .ref (gA G 2)), (4, .int v4)] [] P (Lw_law_1267 (gL G) (gX G) r23 v4 P) := by
  unfold Lw_law_1267
  refine s_aload_n (pc := 1267) 1 dL_law_1267 rfl rfl ?_
  refine s_aload_n (pc := 1268) 0 dL_law_1268 rfl rfl ?_
  refine s_iload (pc := 1269) 4 dL_law_1269 rfl ?_
  refine s_iconst (pc := 1271) (v := 1) dL_law_1271 rfl ?_
  refine s_iadd (pc := 1272) dL_law_1272 ?_
  refine s_sld (pc := 1273) dL_law_1273 ?_
  refine s_aload_n (pc := 1274) 0 dL_law_1274 rfl rfl ?_
  refine s_iload (pc := 1275) 4 dL_law_1275 rfl ?_
  refine s_iconst (pc := 1277) (v := 2) dL_law_1277 rfl ?_
  refine s_iadd (pc := 1278) dL_law_1278 ?_
  refine s_sld (pc := 1279) dL_law_1279 ?_
  refine s_aload_n (pc := 1280) 3 dL_law_1280 rfl rfl ?_
  refine s_callSW (k := (kr + 0)) (n := (6 * kr + 0)) (pc := 1281) [.ref (gA G 0), .int ((gX G) (v4 + (1 : Int32)).toNatClampNeg), .int ((gX G) (v4 + (2 : Int32)).toNatClampNeg), .ref (gA G 2)] (fun x1281 => .int x1281.1 :: []) (fun x1281 => x1281.2) dL_law_1281 (cW_198 hG) (Nat.le_of_ble_eq_true rfl) rfl (Lw_judge_ok hG ((gX G) (v4 + (1 : Int32)).toNatClampNeg) ((gX G) (v4 + (2 : Int32)).toNatClampNeg) P) rfl (fun _ => rfl) (fun _ => rfl) (Nat.le_of_ble_eq_true rfl) (by omega) (by omega) (fun x1281 => ?_)
  refine s_istore (pc := 1284) [(5, .int (x1281.1)), (0, .ref (gB G)), (1, .ref (gA G 0)), (2, .ref (gA G 1)), (3, .ref (gA G 2)), (4, .int v4)] dL_law_1284 (Nat.le_of_ble_eq_true rfl) rfl ?_
  refine s_aload_n (pc := 1286) 3 dL_law_1286 rfl rfl ?_
  refine s_aload_n (pc := 1287) 1 dL_law_1287 rfl rfl ?_
  refine s_iload (pc := 1288) 5 dL_law_1288 rfl ?_
  refine s_iconst (pc := 1290) (v := 1) dL_law_1290 rfl ?_
  refine s_iadd (pc := 1291) dL_law_1291 ?_
  refine s_sld (pc := 1292) dL_law_1292 ?_
  refine s_aload_n (pc := 1293) 1 dL_law_1293 rfl rfl ?_
  refine s_iload (pc := 1294) 5 dL_law_1294 rfl ?_
  refine s_iconst (pc := 1296) (v := 2) dL_law_1296 rfl ?_
  refine s_iadd (pc := 1297) dL_law_1297 ?_
  refine s_sld (pc := 1298) dL_law_1298 ?_
  refine s_callV (k := (kr + 0)) (n := (6 * kr + 0)) (pc := 1299) [.int ((gX G) (v4 + (1 : Int32)).toNatClampNeg), .int ((gX G) (v4 + (2 : Int32)).toNatClampNeg)] (fun x1299 => .int (x1299.1) :: []) (fun x1299 => x1299.2) dL_law_1299 (cV_L_200 hG) (Nat.le_of_ble_eq_true rfl) rfl kd_1 (Mo_judge_ok hG ((gX G) (v4 + (1 : Int32)).toNatClampNeg) ((gX G) (v4 + (2 : Int32)).toNatClampNeg) x1281.2) rfl (fun _ => rfl) (fun _ => rfl) (Nat.le_of_ble_eq_true rfl) (by omega) (by omega) (fun x1299 => ?_)
  refine s_istore (pc := 1302) [(6, .int (x1299.1)), (5, .int (x1281.1)), (0, .ref (gB G)), (1, .ref (gA G 0)), (2, .ref (gA G 1)), (3, .ref (gA G 2)), (4, .int v4)] dL_law_1302 (Nat.le_of_ble_eq_true rfl) rfl ?_
  refine s_aload_n (pc := 1304) 4 dL_law_1304 rfl rfl ?_
  refine s_callV (k := (kr + 0)) (n := (6 * kr + 0)) (pc := 1305) [] (fun x1305 => .int x1305 :: []) (fun _ => x1299.2) dL_law_1305 (cV_L_137 hG) (Nat.le_of_ble_eq_true rfl) rfl kd_1 (Mo_thrown_ok hG x1299.2) rfl (fun _ => rfl) (fun _ => rfl) (Nat.le_of_ble_eq_true rfl) (by omega) (by omega) (fun x1305 => ?_)
  refine s_iload (pc := 1308) 1 dL_law_1308 rfl ?_
  refine s_icmp_eq (pc := 1310) 1315 dL_law_1310 rfl ?_ ?_
  · refine s_iload (pc := 1315) 1 dL_law_1315 rfl ?_
    refine s_if_ne (pc := 1317) 1332 dL_law_1317 rfl ?_ ?_
    · refine s_aload_n (pc := 1320) 5 dL_law_1320 rfl rfl ?_
      refine s_iconst (pc := 1321) (v := 0) dL_law_1321 rfl ?_
      refine s_lald (pc := 1322) 1 dL_law_1322 kd_2 ln_2 ?_
      refine s_iload (pc := 1323) 0 dL_law_1323 rfl ?_
      refine s_i2l (pc := 1325) dL_law_1325 ?_
      refine s_lcmp (pc := 1326) dL_law_1326 ?_
      refine s_if_eq (pc := 1327) 1332 dL_law_1327 rfl ?_ ?_
      · refine s_goto (pc := 1332) 2321 dL_law_1332 rfl ?_
        refine s_sub [2, 3, 4, 5, 6] rfl ?_
        exact Lw_law_2321_sem hG kr r23 hr23 v4 x1299.2
      · refine s_iconst (pc := 1330) (v := 0) dL_law_1330 rfl ?_
        exact s_zret (pc := 1331) dL_law_1331 rfl rfl
    · refine s_goto (pc := 1332) 2321 dL_law_1332 rfl ?_
      refine s_sub [2, 3, 4, 5, 6] rfl ?_
      exact Lw_law_2321_sem hG kr r23 hr23 v4 x1299.2
  · refine s_iconst (pc := 1313) (v := 0) dL_law_1313 rfl ?_
    exact s_zret (pc := 1314) dL_law_1314 rfl rfl
def Lw_law_1335 (L : Nat) (xs : Nat → Int32) (r23 : Int32 → PH → Option (Int32 × PH)) (v4 : Int32) (P : PH) : Option (Int32 × PH) :=
  gdI (v4 + (1 : Int32)) L <|
  (Lw_perform (xs (v4 + (1 : Int32)).toNatClampNeg) P).bind fun (x1343 : Int32 × PH) =>
  gdI (v4 + (1 : Int32)) L <|
  (Mo_perform (xs (v4 + (1 : Int32)).toNatClampNeg) x1343.2).bind fun (x1355 : Int32 × PH) =>
  (Mo_thrown x1355.2).bind fun (x1361 : Int32) =>
  if x1361 = x1343.1 then
    if x1343.1 = 0 then
      gdI (0 : Int32) 1 <|
      if (lg_cmp (x1355.2.2 2 (0 : Int32).toNatClampNeg) ((x1355.1).toInt64)) = 0 then
        Lw_law_2321 L xs r23 v4 x1355.2
      else
        gdP ((0 : Int32) = 0 ∨ (0 : Int32) = 1) <|
        some ((0 : Int32), x1355.2)
    else
      Lw_law_2321 L xs r23 v4 x1355.2
  else
    gdP ((0 : Int32) = 0 ∨ (0 : Int32) = 1) <|
    some ((0 : Int32), x1355.2)
set_option maxRecDepth 100000 in
set_option maxHeartbeats 4000000 in
theorem Lw_law_1335_sem {G : GT} {l : Launch} (hG : GOK G l) (kr : Nat) (r23 : Int32 → PH → Option (Int32 × PH)) (hr23 : ∀ (v4 : Int32) (P : PH), Sem G l miL_law kr (6 * kr) (rn tIH) 23 [(0, .ref (gB G)), (1, .ref (gA G 0)), (2, .ref (gA G 1)), (3, .ref (gA G 2)), (4, .int v4)] [] P (r23 v4 P)) (v4 : Int32) (P : PH) : Sem G l miL_law (kr + 4) (6 * kr + 24) (rn tIH) 1335 [(0, .ref (gB G)), (1, .ref (gA G 0)), (2, .ref (gA G 1)), (3, .ref (gA G 2)), (4, .int v4)] [] P (Lw_law_1335 (gL G) (gX G) r23 v4 P) := by
  unfold Lw_law_1335
  refine s_aload_n (pc := 1335) 1 dL_law_1335 rfl rfl ?_
  refine s_aload_n (pc := 1336) 0 dL_law_1336 rfl rfl ?_
  refine s_iload (pc := 1337) 4 dL_law_1337 rfl ?_
  refine s_iconst (pc := 1339) (v := 1) dL_law_1339 rfl ?_
  refine s_iadd (pc := 1340) dL_law_1340 ?_
  refine s_sld (pc := 1341) dL_law_1341 ?_
  refine s_aload_n (pc := 1342) 3 dL_law_1342 rfl rfl ?_
  refine s_callSW (k := (kr + 1)) (n := (6 * kr + 6)) (pc := 1343) [.ref (gA G 0), .int ((gX G) (v4 + (1 : Int32)).toNatClampNeg), .ref (gA G 2)] (fun x1343 => .int x1343.1 :: []) (fun x1343 => x1343.2) dL_law_1343 (cW_201 hG) (Nat.le_of_ble_eq_true rfl) rfl (Lw_perform_ok hG ((gX G) (v4 + (1 : Int32)).toNatClampNeg) P) rfl (fun _ => rfl) (fun _ => rfl) (Nat.le_of_ble_eq_true rfl) (by omega) (by omega) (fun x1343 => ?_)
  refine s_istore (pc := 1346) [(5, .int (x1343.1)), (0, .ref (gB G)), (1, .ref (gA G 0)), (2, .ref (gA G 1)), (3, .ref (gA G 2)), (4, .int v4)] dL_law_1346 (Nat.le_of_ble_eq_true rfl) rfl ?_
  refine s_aload_n (pc := 1348) 3 dL_law_1348 rfl rfl ?_
  refine s_aload_n (pc := 1349) 1 dL_law_1349 rfl rfl ?_
  refine s_iload (pc := 1350) 5 dL_law_1350 rfl ?_
  refine s_iconst (pc := 1352) (v := 1) dL_law_1352 rfl ?_
  refine s_iadd (pc := 1353) dL_law_1353 ?_
  refine s_sld (pc := 1354) dL_law_1354 ?_
  refine s_callV (k := (kr + 1)) (n := (6 * kr + 6)) (pc := 1355) [.int ((gX G) (v4 + (1 : Int32)).toNatClampNeg)] (fun x1355 => .int (x1355.1) :: []) (fun x1355 => x1355.2) dL_law_1355 (cV_L_203 hG) (Nat.le_of_ble_eq_true rfl) rfl kd_1 (Mo_perform_ok hG ((gX G) (v4 + (1 : Int32)).toNatClampNeg) x1343.2) rfl (fun _ => rfl) (fun _ => rfl) (Nat.le_of_ble_eq_true rfl) (by omega) (by omega) (fun x1355 => ?_)
  refine s_istore (pc := 1358) [(6, .int (x1355.1)), (5, .int (x1343.1)), (0, .ref (gB G)), (1, .ref (gA G 0)), (2, .ref (gA G 1)), (3, .ref (gA G 2)), (4, .int v4)] dL_law_1358 (Nat.le_of_ble_eq_true rfl) rfl ?_
  refine s_aload_n (pc := 1360) 4 dL_law_1360 rfl rfl ?_
  refine s_callV (k := (kr + 1)) (n := (6 * kr + 6)) (pc := 1361) [] (fun x1361 => .int x1361 :: []) (fun _ => x1355.2) dL_law_1361 (cV_L_137 hG) (Nat.le_of_ble_eq_true rfl) rfl kd_1 (Mo_thrown_ok hG x1355.2) rfl (fun _ => rfl) (fun _ => rfl) (Nat.le_of_ble_eq_true rfl) (by omega) (by omega) (fun x1361 => ?_)
  refine s_iload (pc := 1364) 1 dL_law_1364 rfl ?_
  refine s_icmp_eq (pc := 1366) 1371 dL_law_1366 rfl ?_ ?_
  · refine s_iload (pc := 1371) 1 dL_law_1371 rfl ?_
    refine s_if_ne (pc := 1373) 1388 dL_law_1373 rfl ?_ ?_
    · refine s_aload_n (pc := 1376) 5 dL_law_1376 rfl rfl ?_
      refine s_iconst (pc := 1377) (v := 0) dL_law_1377 rfl ?_
      refine s_lald (pc := 1378) 1 dL_law_1378 kd_2 ln_2 ?_
      refine s_iload (pc := 1379) 0 dL_law_1379 rfl ?_
      refine s_i2l (pc := 1381) dL_law_1381 ?_
      refine s_lcmp (pc := 1382) dL_law_1382 ?_
      refine s_if_eq (pc := 1383) 1388 dL_law_1383 rfl ?_ ?_
      · refine s_goto (pc := 1388) 2321 dL_law_1388 rfl ?_
        refine s_sub [2, 3, 4, 5, 6] rfl ?_
        refine s_budget (k2 := (kr + 0)) (n2 := (6 * kr + 0)) (by omega) (by omega) ?_
        exact Lw_law_2321_sem hG kr r23 hr23 v4 x1355.2
      · refine s_iconst (pc := 1386) (v := 0) dL_law_1386 rfl ?_
        exact s_zret (pc := 1387) dL_law_1387 rfl rfl
    · refine s_goto (pc := 1388) 2321 dL_law_1388 rfl ?_
      refine s_sub [2, 3, 4, 5, 6] rfl ?_
      refine s_budget (k2 := (kr + 0)) (n2 := (6 * kr + 0)) (by omega) (by omega) ?_
      exact Lw_law_2321_sem hG kr r23 hr23 v4 x1355.2
  · refine s_iconst (pc := 1369) (v := 0) dL_law_1369 rfl ?_
    exact s_zret (pc := 1370) dL_law_1370 rfl rfl
def Lw_law_1391 (L : Nat) (xs : Nat → Int32) (r23 : Int32 → PH → Option (Int32 × PH)) (v4 : Int32) (P : PH) : Option (Int32 × PH) :=
  (Lw_left P).bind fun (x1393 : Int32 × PH) =>
  (Mo_left x1393.2).bind fun (x1399 : Int32 × PH) =>
  (Mo_thrown x1399.2).bind fun (x1405 : Int32) =>
  if x1405 = x1393.1 then
    if x1393.1 = 0 then
      gdI (0 : Int32) 1 <|
      if (lg_cmp (x1399.2.2 2 (0 : Int32).toNatClampNeg) ((x1399.1).toInt64)) = 0 then
        Lw_law_2321 L xs r23 v4 x1399.2
      else
        gdP ((0 : Int32) = 0 ∨ (0 : Int32) = 1) <|
        some ((0 : Int32), x1399.2)
    else
      Lw_law_2321 L xs r23 v4 x1399.2
  else
    gdP ((0 : Int32) = 0 ∨ (0 : Int32) = 1) <|
    some ((0 : Int32), x1399.2)
set_option maxRecDepth 100000 in
set_option maxHeartbeats 4000000 in
theorem Lw_law_1391_sem {G : GT} {l : Launch} (hG : GOK G l) (kr : Nat) (r23 : Int32 → PH → Option (Int32 × PH)) (hr23 : ∀ (v4 : Int32) (P : PH), Sem G l miL_law kr (6 * kr) (rn tIH) 23 [(0, .ref (gB G)), (1, .ref (gA G 0)), (2, .ref (gA G 1)), (3, .ref (gA G 2)), (4, .int v4)] [] P (r23 v4 P)) (v4 : Int32) (P : PH) : Sem G l miL_law (kr + 4) (6 * kr + 24) (rn tIH) 1391 [(0, .ref (gB G)), (1, .ref (gA G 0)), (2, .ref (gA G 1)), (3, .ref (gA G 2)), (4, .int v4)] [] P (Lw_law_1391 (gL G) (gX G) r23 v4 P) := by
  unfold Lw_law_1391
  refine s_aload_n (pc := 1391) 1 dL_law_1391 rfl rfl ?_
  refine s_aload_n (pc := 1392) 3 dL_law_1392 rfl rfl ?_
  refine s_callSW (k := (kr + 3)) (n := (6 * kr + 18)) (pc := 1393) [.ref (gA G 0), .ref (gA G 2)] (fun x1393 => .int x1393.1 :: []) (fun x1393 => x1393.2) dL_law_1393 (cW_204 hG) (Nat.le_of_ble_eq_true rfl) rfl (Lw_left_ok hG P) rfl (fun _ => rfl) (fun _ => rfl) (Nat.le_of_ble_eq_true rfl) (by omega) (by omega) (fun x1393 => ?_)
  refine s_istore (pc := 1396) [(5, .int (x1393.1)), (0, .ref (gB G)), (1, .ref (gA G 0)), (2, .ref (gA G 1)), (3, .ref (gA G 2)), (4, .int v4)] dL_law_1396 (Nat.le_of_ble_eq_true rfl) rfl ?_
  refine s_aload_n (pc := 1398) 3 dL_law_1398 rfl rfl ?_
  refine s_callV (k := (kr + 3)) (n := (6 * kr + 18)) (pc := 1399) [] (fun x1399 => .int (x1399.1) :: []) (fun x1399 => x1399.2) dL_law_1399 (cV_L_206 hG) (Nat.le_of_ble_eq_true rfl) rfl kd_1 (Mo_left_ok hG x1393.2) rfl (fun _ => rfl) (fun _ => rfl) (Nat.le_of_ble_eq_true rfl) (by omega) (by omega) (fun x1399 => ?_)
  refine s_istore (pc := 1402) [(6, .int (x1399.1)), (5, .int (x1393.1)), (0, .ref (gB G)), (1, .ref (gA G 0)), (2, .ref (gA G 1)), (3, .ref (gA G 2)), (4, .int v4)] dL_law_1402 (Nat.le_of_ble_eq_true rfl) rfl ?_
  refine s_aload_n (pc := 1404) 4 dL_law_1404 rfl rfl ?_
  refine s_callV (k := (kr + 3)) (n := (6 * kr + 18)) (pc := 1405) [] (fun x1405 => .int x1405 :: []) (fun _ => x1399.2) dL_law_1405 (cV_L_137 hG) (Nat.le_of_ble_eq_true rfl) rfl kd_1 (Mo_thrown_ok hG x1399.2) rfl (fun _ => rfl) (fun _ => rfl) (Nat.le_of_ble_eq_true rfl) (by omega) (by omega) (fun x1405 => ?_)
  refine s_iload (pc := 1408) 1 dL_law_1408 rfl ?_
  refine s_icmp_eq (pc := 1410) 1415 dL_law_1410 rfl ?_ ?_
  · refine s_iload (pc := 1415) 1 dL_law_1415 rfl ?_
    refine s_if_ne (pc := 1417) 1432 dL_law_1417 rfl ?_ ?_
    · refine s_aload_n (pc := 1420) 5 dL_law_1420 rfl rfl ?_
      refine s_iconst (pc := 1421) (v := 0) dL_law_1421 rfl ?_
      refine s_lald (pc := 1422) 1 dL_law_1422 kd_2 ln_2 ?_
      refine s_iload (pc := 1423) 0 dL_law_1423 rfl ?_
      refine s_i2l (pc := 1425) dL_law_1425 ?_
      refine s_lcmp (pc := 1426) dL_law_1426 ?_
      refine s_if_eq (pc := 1427) 1432 dL_law_1427 rfl ?_ ?_
      · refine s_goto (pc := 1432) 2321 dL_law_1432 rfl ?_
        refine s_sub [2, 3, 4, 5, 6] rfl ?_
        refine s_budget (k2 := (kr + 0)) (n2 := (6 * kr + 0)) (by omega) (by omega) ?_
        exact Lw_law_2321_sem hG kr r23 hr23 v4 x1399.2
      · refine s_iconst (pc := 1430) (v := 0) dL_law_1430 rfl ?_
        exact s_zret (pc := 1431) dL_law_1431 rfl rfl
    · refine s_goto (pc := 1432) 2321 dL_law_1432 rfl ?_
      refine s_sub [2, 3, 4, 5, 6] rfl ?_
      refine s_budget (k2 := (kr + 0)) (n2 := (6 * kr + 0)) (by omega) (by omega) ?_
      exact Lw_law_2321_sem hG kr r23 hr23 v4 x1399.2
  · refine s_iconst (pc := 1413) (v := 0) dL_law_1413 rfl ?_
    exact s_zret (pc := 1414) dL_law_1414 rfl rfl
def Lw_law_1435 (L : Nat) (xs : Nat → Int32) (r23 : Int32 → PH → Option (Int32 × PH)) (v4 : Int32) (P : PH) : Option (Int32 × PH) :=
  gdI (v4 + (1 : Int32)) L <|
  (Lw_barred (xs (v4 + (1 : Int32)).toNatClampNeg) P).bind fun (x1443 : Int32 × PH) =>
  gdI (v4 + (1 : Int32)) L <|
  (Mo_barred (xs (v4 + (1 : Int32)).toNatClampNeg) x1443.2).bind fun (x1455 : Int32 × PH) =>
  (Mo_thrown x1455.2).bind fun (x1461 : Int32) =>
  if x1461 = x1443.1 then
    if x1443.1 = 0 then
      gdI (0 : Int32) 1 <|
      if (lg_cmp (x1455.2.2 2 (0 : Int32).toNatClampNeg) ((x1455.1).toInt64)) = 0 then
        Lw_law_2321 L xs r23 v4 x1455.2
      else
        gdP ((0 : Int32) = 0 ∨ (0 : Int32) = 1) <|
        some ((0 : Int32), x1455.2)
    else
      Lw_law_2321 L xs r23 v4 x1455.2
  else
    gdP ((0 : Int32) = 0 ∨ (0 : Int32) = 1) <|
    some ((0 : Int32), x1455.2)
set_option maxRecDepth 100000 in
set_option maxHeartbeats 4000000 in
theorem Lw_law_1435_sem {G : GT} {l : Launch} (hG : GOK G l) (kr : Nat) (r23 : Int32 → PH → Option (Int32 × PH)) (hr23 : ∀ (v4 : Int32) (P : PH), Sem G l miL_law kr (6 * kr) (rn tIH) 23 [(0, .ref (gB G)), (1, .ref (gA G 0)), (2, .ref (gA G 1)), (3, .ref (gA G 2)), (4, .int v4)] [] P (r23 v4 P)) (v4 : Int32) (P : PH) : Sem G l miL_law (kr + 4) (6 * kr + 24) (rn tIH) 1435 [(0, .ref (gB G)), (1, .ref (gA G 0)), (2, .ref (gA G 1)), (3, .ref (gA G 2)), (4, .int v4)] [] P (Lw_law_1435 (gL G) (gX G) r23 v4 P) := by
  unfold Lw_law_1435
  refine s_aload_n (pc := 1435) 1 dL_law_1435 rfl rfl ?_
  refine s_aload_n (pc := 1436) 0 dL_law_1436 rfl rfl ?_
  refine s_iload (pc := 1437) 4 dL_law_1437 rfl ?_
  refine s_iconst (pc := 1439) (v := 1) dL_law_1439 rfl ?_
  refine s_iadd (pc := 1440) dL_law_1440 ?_
  refine s_sld (pc := 1441) dL_law_1441 ?_
  refine s_aload_n (pc := 1442) 3 dL_law_1442 rfl rfl ?_
  refine s_callSW (k := (kr + 2)) (n := (6 * kr + 12)) (pc := 1443) [.ref (gA G 0), .int ((gX G) (v4 + (1 : Int32)).toNatClampNeg), .ref (gA G 2)] (fun x1443 => .int x1443.1 :: []) (fun x1443 => x1443.2) dL_law_1443 (cW_207 hG) (Nat.le_of_ble_eq_true rfl) rfl (Lw_barred_ok hG ((gX G) (v4 + (1 : Int32)).toNatClampNeg) P) rfl (fun _ => rfl) (fun _ => rfl) (Nat.le_of_ble_eq_true rfl) (by omega) (by omega) (fun x1443 => ?_)
  refine s_istore (pc := 1446) [(5, .int (x1443.1)), (0, .ref (gB G)), (1, .ref (gA G 0)), (2, .ref (gA G 1)), (3, .ref (gA G 2)), (4, .int v4)] dL_law_1446 (Nat.le_of_ble_eq_true rfl) rfl ?_
  refine s_aload_n (pc := 1448) 3 dL_law_1448 rfl rfl ?_
  refine s_aload_n (pc := 1449) 1 dL_law_1449 rfl rfl ?_
  refine s_iload (pc := 1450) 5 dL_law_1450 rfl ?_
  refine s_iconst (pc := 1452) (v := 1) dL_law_1452 rfl ?_
  refine s_iadd (pc := 1453) dL_law_1453 ?_
  refine s_sld (pc := 1454) dL_law_1454 ?_
  refine s_callV (k := (kr + 2)) (n := (6 * kr + 12)) (pc := 1455) [.int ((gX G) (v4 + (1 : Int32)).toNatClampNeg)] (fun x1455 => .int (x1455.1) :: []) (fun x1455 => x1455.2) dL_law_1455 (cV_L_209 hG) (Nat.le_of_ble_eq_true rfl) rfl kd_1 (Mo_barred_ok hG ((gX G) (v4 + (1 : Int32)).toNatClampNeg) x1443.2) rfl (fun _ => rfl) (fun _ => rfl) (Nat.le_of_ble_eq_true rfl) (by omega) (by omega) (fun x1455 => ?_)
  refine s_istore (pc := 1458) [(6, .int (x1455.1)), (5, .int (x1443.1)), (0, .ref (gB G)), (1, .ref (gA G 0)), (2, .ref (gA G 1)), (3, .ref (gA G 2)), (4, .int v4)] dL_law_1458 (Nat.le_of_ble_eq_true rfl) rfl ?_
  refine s_aload_n (pc := 1460) 4 dL_law_1460 rfl rfl ?_
  refine s_callV (k := (kr + 2)) (n := (6 * kr + 12)) (pc := 1461) [] (fun x1461 => .int x1461 :: []) (fun _ => x1455.2) dL_law_1461 (cV_L_137 hG) (Nat.le_of_ble_eq_true rfl) rfl kd_1 (Mo_thrown_ok hG x1455.2) rfl (fun _ => rfl) (fun _ => rfl) (Nat.le_of_ble_eq_true rfl) (by omega) (by omega) (fun x1461 => ?_)
  refine s_iload (pc := 1464) 1 dL_law_1464 rfl ?_
  refine s_icmp_eq (pc := 1466) 1471 dL_law_1466 rfl ?_ ?_
  · refine s_iload (pc := 1471) 1 dL_law_1471 rfl ?_
    refine s_if_ne (pc := 1473) 1488 dL_law_1473 rfl ?_ ?_
    · refine s_aload_n (pc := 1476) 5 dL_law_1476 rfl rfl ?_
      refine s_iconst (pc := 1477) (v := 0) dL_law_1477 rfl ?_
      refine s_lald (pc := 1478) 1 dL_law_1478 kd_2 ln_2 ?_
      refine s_iload (pc := 1479) 0 dL_law_1479 rfl ?_
      refine s_i2l (pc := 1481) dL_law_1481 ?_
      refine s_lcmp (pc := 1482) dL_law_1482 ?_
      refine s_if_eq (pc := 1483) 1488 dL_law_1483 rfl ?_ ?_
      · refine s_goto (pc := 1488) 2321 dL_law_1488 rfl ?_
        refine s_sub [2, 3, 4, 5, 6] rfl ?_
        refine s_budget (k2 := (kr + 0)) (n2 := (6 * kr + 0)) (by omega) (by omega) ?_
        exact Lw_law_2321_sem hG kr r23 hr23 v4 x1455.2
      · refine s_iconst (pc := 1486) (v := 0) dL_law_1486 rfl ?_
        exact s_zret (pc := 1487) dL_law_1487 rfl rfl
    · refine s_goto (pc := 1488) 2321 dL_law_1488 rfl ?_
      refine s_sub [2, 3, 4, 5, 6] rfl ?_
      refine s_budget (k2 := (kr + 0)) (n2 := (6 * kr + 0)) (by omega) (by omega) ?_
      exact Lw_law_2321_sem hG kr r23 hr23 v4 x1455.2
  · refine s_iconst (pc := 1469) (v := 0) dL_law_1469 rfl ?_
    exact s_zret (pc := 1470) dL_law_1470 rfl rfl
def Lw_law_1491 (L : Nat) (xs : Nat → Int32) (r23 : Int32 → PH → Option (Int32 × PH)) (v4 : Int32) (P : PH) : Option (Int32 × PH) :=
  (Lw_ending P).bind fun (x1493 : Int32 × PH) =>
  (Mo_ending x1493.2).bind fun (x1499 : Int32 × PH) =>
  (Mo_thrown x1499.2).bind fun (x1505 : Int32) =>
  if x1505 = x1493.1 then
    if x1493.1 = 0 then
      gdI (0 : Int32) 1 <|
      if (lg_cmp (x1499.2.2 2 (0 : Int32).toNatClampNeg) ((x1499.1).toInt64)) = 0 then
        Lw_law_2321 L xs r23 v4 x1499.2
      else
        gdP ((0 : Int32) = 0 ∨ (0 : Int32) = 1) <|
        some ((0 : Int32), x1499.2)
    else
      Lw_law_2321 L xs r23 v4 x1499.2
  else
    gdP ((0 : Int32) = 0 ∨ (0 : Int32) = 1) <|
    some ((0 : Int32), x1499.2)
set_option maxRecDepth 100000 in
set_option maxHeartbeats 4000000 in
theorem Lw_law_1491_sem {G : GT} {l : Launch} (hG : GOK G l) (kr : Nat) (r23 : Int32 → PH → Option (Int32 × PH)) (hr23 : ∀ (v4 : Int32) (P : PH), Sem G l miL_law kr (6 * kr) (rn tIH) 23 [(0, .ref (gB G)), (1, .ref (gA G 0)), (2, .ref (gA G 1)), (3, .ref (gA G 2)), (4, .int v4)] [] P (r23 v4 P)) (v4 : Int32) (P : PH) : Sem G l miL_law (kr + 4) (6 * kr + 24) (rn tIH) 1491 [(0, .ref (gB G)), (1, .ref (gA G 0)), (2, .ref (gA G 1)), (3, .ref (gA G 2)), (4, .int v4)] [] P (Lw_law_1491 (gL G) (gX G) r23 v4 P) := by
  unfold Lw_law_1491
  refine s_aload_n (pc := 1491) 1 dL_law_1491 rfl rfl ?_
  refine s_aload_n (pc := 1492) 3 dL_law_1492 rfl rfl ?_
  refine s_callSW (k := (kr + 3)) (n := (6 * kr + 18)) (pc := 1493) [.ref (gA G 0), .ref (gA G 2)] (fun x1493 => .int x1493.1 :: []) (fun x1493 => x1493.2) dL_law_1493 (cW_210 hG) (Nat.le_of_ble_eq_true rfl) rfl (Lw_ending_ok hG P) rfl (fun _ => rfl) (fun _ => rfl) (Nat.le_of_ble_eq_true rfl) (by omega) (by omega) (fun x1493 => ?_)
  refine s_istore (pc := 1496) [(5, .int (x1493.1)), (0, .ref (gB G)), (1, .ref (gA G 0)), (2, .ref (gA G 1)), (3, .ref (gA G 2)), (4, .int v4)] dL_law_1496 (Nat.le_of_ble_eq_true rfl) rfl ?_
  refine s_aload_n (pc := 1498) 3 dL_law_1498 rfl rfl ?_
  refine s_callV (k := (kr + 3)) (n := (6 * kr + 18)) (pc := 1499) [] (fun x1499 => .int (x1499.1) :: []) (fun x1499 => x1499.2) dL_law_1499 (cV_L_212 hG) (Nat.le_of_ble_eq_true rfl) rfl kd_1 (Mo_ending_ok hG x1493.2) rfl (fun _ => rfl) (fun _ => rfl) (Nat.le_of_ble_eq_true rfl) (by omega) (by omega) (fun x1499 => ?_)
  refine s_istore (pc := 1502) [(6, .int (x1499.1)), (5, .int (x1493.1)), (0, .ref (gB G)), (1, .ref (gA G 0)), (2, .ref (gA G 1)), (3, .ref (gA G 2)), (4, .int v4)] dL_law_1502 (Nat.le_of_ble_eq_true rfl) rfl ?_
  refine s_aload_n (pc := 1504) 4 dL_law_1504 rfl rfl ?_
  refine s_callV (k := (kr + 3)) (n := (6 * kr + 18)) (pc := 1505) [] (fun x1505 => .int x1505 :: []) (fun _ => x1499.2) dL_law_1505 (cV_L_137 hG) (Nat.le_of_ble_eq_true rfl) rfl kd_1 (Mo_thrown_ok hG x1499.2) rfl (fun _ => rfl) (fun _ => rfl) (Nat.le_of_ble_eq_true rfl) (by omega) (by omega) (fun x1505 => ?_)
  refine s_iload (pc := 1508) 1 dL_law_1508 rfl ?_
  refine s_icmp_eq (pc := 1510) 1515 dL_law_1510 rfl ?_ ?_
  · refine s_iload (pc := 1515) 1 dL_law_1515 rfl ?_
    refine s_if_ne (pc := 1517) 1532 dL_law_1517 rfl ?_ ?_
    · refine s_aload_n (pc := 1520) 5 dL_law_1520 rfl rfl ?_
      refine s_iconst (pc := 1521) (v := 0) dL_law_1521 rfl ?_
      refine s_lald (pc := 1522) 1 dL_law_1522 kd_2 ln_2 ?_
      refine s_iload (pc := 1523) 0 dL_law_1523 rfl ?_
      refine s_i2l (pc := 1525) dL_law_1525 ?_
      refine s_lcmp (pc := 1526) dL_law_1526 ?_
      refine s_if_eq (pc := 1527) 1532 dL_law_1527 rfl ?_ ?_
      · refine s_goto (pc := 1532) 2321 dL_law_1532 rfl ?_
        refine s_sub [2, 3, 4, 5, 6] rfl ?_
        refine s_budget (k2 := (kr + 0)) (n2 := (6 * kr + 0)) (by omega) (by omega) ?_
        exact Lw_law_2321_sem hG kr r23 hr23 v4 x1499.2
      · refine s_iconst (pc := 1530) (v := 0) dL_law_1530 rfl ?_
        exact s_zret (pc := 1531) dL_law_1531 rfl rfl
    · refine s_goto (pc := 1532) 2321 dL_law_1532 rfl ?_
      refine s_sub [2, 3, 4, 5, 6] rfl ?_
      refine s_budget (k2 := (kr + 0)) (n2 := (6 * kr + 0)) (by omega) (by omega) ?_
      exact Lw_law_2321_sem hG kr r23 hr23 v4 x1499.2
  · refine s_iconst (pc := 1513) (v := 0) dL_law_1513 rfl ?_
    exact s_zret (pc := 1514) dL_law_1514 rfl rfl
def Lw_law_1535 (L : Nat) (xs : Nat → Int32) (r23 : Int32 → PH → Option (Int32 × PH)) (v4 : Int32) (P : PH) : Option (Int32 × PH) :=
  gdI (v4 + (1 : Int32)) L <|
  (Lw_working (xs (v4 + (1 : Int32)).toNatClampNeg) P).bind fun (x1543 : Int32 × PH) =>
  gdI (v4 + (1 : Int32)) L <|
  (Mo_working (xs (v4 + (1 : Int32)).toNatClampNeg) x1543.2).bind fun (x1555 : Int32 × PH) =>
  (Mo_thrown x1555.2).bind fun (x1561 : Int32) =>
  if x1561 = x1543.1 then
    if x1543.1 = 0 then
      gdI (0 : Int32) 1 <|
      if (lg_cmp (x1555.2.2 2 (0 : Int32).toNatClampNeg) ((x1555.1).toInt64)) = 0 then
        Lw_law_2321 L xs r23 v4 x1555.2
      else
        gdP ((0 : Int32) = 0 ∨ (0 : Int32) = 1) <|
        some ((0 : Int32), x1555.2)
    else
      Lw_law_2321 L xs r23 v4 x1555.2
  else
    gdP ((0 : Int32) = 0 ∨ (0 : Int32) = 1) <|
    some ((0 : Int32), x1555.2)
set_option maxRecDepth 100000 in
set_option maxHeartbeats 4000000 in
theorem Lw_law_1535_sem {G : GT} {l : Launch} (hG : GOK G l) (kr : Nat) (r23 : Int32 → PH → Option (Int32 × PH)) (hr23 : ∀ (v4 : Int32) (P : PH), Sem G l miL_law kr (6 * kr) (rn tIH) 23 [(0, .ref (gB G)), (1, .ref (gA G 0)), (2, .ref (gA G 1)), (3, .ref (gA G 2)), (4, .int v4)] [] P (r23 v4 P)) (v4 : Int32) (P : PH) : Sem G l miL_law (kr + 4) (6 * kr + 24) (rn tIH) 1535 [(0, .ref (gB G)), (1, .ref (gA G 0)), (2, .ref (gA G 1)), (3, .ref (gA G 2)), (4, .int v4)] [] P (Lw_law_1535 (gL G) (gX G) r23 v4 P) := by
  unfold Lw_law_1535
  refine s_aload_n (pc := 1535) 1 dL_law_1535 rfl rfl ?_
  refine s_aload_n (pc := 1536) 0 dL_law_1536 rfl rfl ?_
  refine s_iload (pc := 1537) 4 dL_law_1537 rfl ?_
  refine s_iconst (pc := 1539) (v := 1) dL_law_1539 rfl ?_
  refine s_iadd (pc := 1540) dL_law_1540 ?_
  refine s_sld (pc := 1541) dL_law_1541 ?_
  refine s_aload_n (pc := 1542) 3 dL_law_1542 rfl rfl ?_
  refine s_callSW (k := (kr + 3)) (n := (6 * kr + 18)) (pc := 1543) [.ref (gA G 0), .int ((gX G) (v4 + (1 : Int32)).toNatClampNeg), .ref (gA G 2)] (fun x1543 => .int x1543.1 :: []) (fun x1543 => x1543.2) dL_law_1543 (cW_213 hG) (Nat.le_of_ble_eq_true rfl) rfl (Lw_working_ok hG ((gX G) (v4 + (1 : Int32)).toNatClampNeg) P) rfl (fun _ => rfl) (fun _ => rfl) (Nat.le_of_ble_eq_true rfl) (by omega) (by omega) (fun x1543 => ?_)
  refine s_istore (pc := 1546) [(5, .int (x1543.1)), (0, .ref (gB G)), (1, .ref (gA G 0)), (2, .ref (gA G 1)), (3, .ref (gA G 2)), (4, .int v4)] dL_law_1546 (Nat.le_of_ble_eq_true rfl) rfl ?_
  refine s_aload_n (pc := 1548) 3 dL_law_1548 rfl rfl ?_
  refine s_aload_n (pc := 1549) 1 dL_law_1549 rfl rfl ?_
  refine s_iload (pc := 1550) 5 dL_law_1550 rfl ?_
  refine s_iconst (pc := 1552) (v := 1) dL_law_1552 rfl ?_
  refine s_iadd (pc := 1553) dL_law_1553 ?_
  refine s_sld (pc := 1554) dL_law_1554 ?_
  refine s_callV (k := (kr + 3)) (n := (6 * kr + 18)) (pc := 1555) [.int ((gX G) (v4 + (1 : Int32)).toNatClampNeg)] (fun x1555 => .int (x1555.1) :: []) (fun x1555 => x1555.2) dL_law_1555 (cV_L_215 hG) (Nat.le_of_ble_eq_true rfl) rfl kd_1 (Mo_working_ok hG ((gX G) (v4 + (1 : Int32)).toNatClampNeg) x1543.2) rfl (fun _ => rfl) (fun _ => rfl) (Nat.le_of_ble_eq_true rfl) (by omega) (by omega) (fun x1555 => ?_)
  refine s_istore (pc := 1558) [(6, .int (x1555.1)), (5, .int (x1543.1)), (0, .ref (gB G)), (1, .ref (gA G 0)), (2, .ref (gA G 1)), (3, .ref (gA G 2)), (4, .int v4)] dL_law_1558 (Nat.le_of_ble_eq_true rfl) rfl ?_
  refine s_aload_n (pc := 1560) 4 dL_law_1560 rfl rfl ?_
  refine s_callV (k := (kr + 3)) (n := (6 * kr + 18)) (pc := 1561) [] (fun x1561 => .int x1561 :: []) (fun _ => x1555.2) dL_law_1561 (cV_L_137 hG) (Nat.le_of_ble_eq_true rfl) rfl kd_1 (Mo_thrown_ok hG x1555.2) rfl (fun _ => rfl) (fun _ => rfl) (Nat.le_of_ble_eq_true rfl) (by omega) (by omega) (fun x1561 => ?_)
  refine s_iload (pc := 1564) 1 dL_law_1564 rfl ?_
  refine s_icmp_eq (pc := 1566) 1571 dL_law_1566 rfl ?_ ?_
  · refine s_iload (pc := 1571) 1 dL_law_1571 rfl ?_
    refine s_if_ne (pc := 1573) 1588 dL_law_1573 rfl ?_ ?_
    · refine s_aload_n (pc := 1576) 5 dL_law_1576 rfl rfl ?_
      refine s_iconst (pc := 1577) (v := 0) dL_law_1577 rfl ?_
      refine s_lald (pc := 1578) 1 dL_law_1578 kd_2 ln_2 ?_
      refine s_iload (pc := 1579) 0 dL_law_1579 rfl ?_
      refine s_i2l (pc := 1581) dL_law_1581 ?_
      refine s_lcmp (pc := 1582) dL_law_1582 ?_
      refine s_if_eq (pc := 1583) 1588 dL_law_1583 rfl ?_ ?_
      · refine s_goto (pc := 1588) 2321 dL_law_1588 rfl ?_
        refine s_sub [2, 3, 4, 5, 6] rfl ?_
        refine s_budget (k2 := (kr + 0)) (n2 := (6 * kr + 0)) (by omega) (by omega) ?_
        exact Lw_law_2321_sem hG kr r23 hr23 v4 x1555.2
      · refine s_iconst (pc := 1586) (v := 0) dL_law_1586 rfl ?_
        exact s_zret (pc := 1587) dL_law_1587 rfl rfl
    · refine s_goto (pc := 1588) 2321 dL_law_1588 rfl ?_
      refine s_sub [2, 3, 4, 5, 6] rfl ?_
      refine s_budget (k2 := (kr + 0)) (n2 := (6 * kr + 0)) (by omega) (by omega) ?_
      exact Lw_law_2321_sem hG kr r23 hr23 v4 x1555.2
  · refine s_iconst (pc := 1569) (v := 0) dL_law_1569 rfl ?_
    exact s_zret (pc := 1570) dL_law_1570 rfl rfl
def Lw_law_1591 (L : Nat) (xs : Nat → Int32) (r23 : Int32 → PH → Option (Int32 × PH)) (v4 : Int32) (P : PH) : Option (Int32 × PH) :=
  (Lw_work P).bind fun (x1593 : Int32 × PH) =>
  (Mo_work x1593.2).bind fun (x1599 : Int32 × PH) =>
  (Mo_thrown x1599.2).bind fun (x1605 : Int32) =>
  if x1605 = x1593.1 then
    if x1593.1 = 0 then
      gdI (0 : Int32) 1 <|
      if (lg_cmp (x1599.2.2 2 (0 : Int32).toNatClampNeg) ((x1599.1).toInt64)) = 0 then
        Lw_law_2321 L xs r23 v4 x1599.2
      else
        gdP ((0 : Int32) = 0 ∨ (0 : Int32) = 1) <|
        some ((0 : Int32), x1599.2)
    else
      Lw_law_2321 L xs r23 v4 x1599.2
  else
    gdP ((0 : Int32) = 0 ∨ (0 : Int32) = 1) <|
    some ((0 : Int32), x1599.2)
set_option maxRecDepth 100000 in
set_option maxHeartbeats 4000000 in
theorem Lw_law_1591_sem {G : GT} {l : Launch} (hG : GOK G l) (kr : Nat) (r23 : Int32 → PH → Option (Int32 × PH)) (hr23 : ∀ (v4 : Int32) (P : PH), Sem G l miL_law kr (6 * kr) (rn tIH) 23 [(0, .ref (gB G)), (1, .ref (gA G 0)), (2, .ref (gA G 1)), (3, .ref (gA G 2)), (4, .int v4)] [] P (r23 v4 P)) (v4 : Int32) (P : PH) : Sem G l miL_law (kr + 4) (6 * kr + 24) (rn tIH) 1591 [(0, .ref (gB G)), (1, .ref (gA G 0)), (2, .ref (gA G 1)), (3, .ref (gA G 2)), (4, .int v4)] [] P (Lw_law_1591 (gL G) (gX G) r23 v4 P) := by
  unfold Lw_law_1591
  refine s_aload_n (pc := 1591) 1 dL_law_1591 rfl rfl ?_
  refine s_aload_n (pc := 1592) 3 dL_law_1592 rfl rfl ?_
  refine s_callSW (k := (kr + 3)) (n := (6 * kr + 18)) (pc := 1593) [.ref (gA G 0), .ref (gA G 2)] (fun x1593 => .int x1593.1 :: []) (fun x1593 => x1593.2) dL_law_1593 (cW_216 hG) (Nat.le_of_ble_eq_true rfl) rfl (Lw_work_ok hG P) rfl (fun _ => rfl) (fun _ => rfl) (Nat.le_of_ble_eq_true rfl) (by omega) (by omega) (fun x1593 => ?_)
  refine s_istore (pc := 1596) [(5, .int (x1593.1)), (0, .ref (gB G)), (1, .ref (gA G 0)), (2, .ref (gA G 1)), (3, .ref (gA G 2)), (4, .int v4)] dL_law_1596 (Nat.le_of_ble_eq_true rfl) rfl ?_
  refine s_aload_n (pc := 1598) 3 dL_law_1598 rfl rfl ?_
  refine s_callV (k := (kr + 3)) (n := (6 * kr + 18)) (pc := 1599) [] (fun x1599 => .int (x1599.1) :: []) (fun x1599 => x1599.2) dL_law_1599 (cV_L_218 hG) (Nat.le_of_ble_eq_true rfl) rfl kd_1 (Mo_work_ok hG x1593.2) rfl (fun _ => rfl) (fun _ => rfl) (Nat.le_of_ble_eq_true rfl) (by omega) (by omega) (fun x1599 => ?_)
  refine s_istore (pc := 1602) [(6, .int (x1599.1)), (5, .int (x1593.1)), (0, .ref (gB G)), (1, .ref (gA G 0)), (2, .ref (gA G 1)), (3, .ref (gA G 2)), (4, .int v4)] dL_law_1602 (Nat.le_of_ble_eq_true rfl) rfl ?_
  refine s_aload_n (pc := 1604) 4 dL_law_1604 rfl rfl ?_
  refine s_callV (k := (kr + 3)) (n := (6 * kr + 18)) (pc := 1605) [] (fun x1605 => .int x1605 :: []) (fun _ => x1599.2) dL_law_1605 (cV_L_137 hG) (Nat.le_of_ble_eq_true rfl) rfl kd_1 (Mo_thrown_ok hG x1599.2) rfl (fun _ => rfl) (fun _ => rfl) (Nat.le_of_ble_eq_true rfl) (by omega) (by omega) (fun x1605 => ?_)
  refine s_iload (pc := 1608) 1 dL_law_1608 rfl ?_
  refine s_icmp_eq (pc := 1610) 1615 dL_law_1610 rfl ?_ ?_
  · refine s_iload (pc := 1615) 1 dL_law_1615 rfl ?_
    refine s_if_ne (pc := 1617) 1632 dL_law_1617 rfl ?_ ?_
    · refine s_aload_n (pc := 1620) 5 dL_law_1620 rfl rfl ?_
      refine s_iconst (pc := 1621) (v := 0) dL_law_1621 rfl ?_
      refine s_lald (pc := 1622) 1 dL_law_1622 kd_2 ln_2 ?_
      refine s_iload (pc := 1623) 0 dL_law_1623 rfl ?_
      refine s_i2l (pc := 1625) dL_law_1625 ?_
      refine s_lcmp (pc := 1626) dL_law_1626 ?_
      refine s_if_eq (pc := 1627) 1632 dL_law_1627 rfl ?_ ?_
      · refine s_goto (pc := 1632) 2321 dL_law_1632 rfl ?_
        refine s_sub [2, 3, 4, 5, 6] rfl ?_
        refine s_budget (k2 := (kr + 0)) (n2 := (6 * kr + 0)) (by omega) (by omega) ?_
        exact Lw_law_2321_sem hG kr r23 hr23 v4 x1599.2
      · refine s_iconst (pc := 1630) (v := 0) dL_law_1630 rfl ?_
        exact s_zret (pc := 1631) dL_law_1631 rfl rfl
    · refine s_goto (pc := 1632) 2321 dL_law_1632 rfl ?_
      refine s_sub [2, 3, 4, 5, 6] rfl ?_
      refine s_budget (k2 := (kr + 0)) (n2 := (6 * kr + 0)) (by omega) (by omega) ?_
      exact Lw_law_2321_sem hG kr r23 hr23 v4 x1599.2
  · refine s_iconst (pc := 1613) (v := 0) dL_law_1613 rfl ?_
    exact s_zret (pc := 1614) dL_law_1614 rfl rfl
def Lw_law_1635 (L : Nat) (xs : Nat → Int32) (r23 : Int32 → PH → Option (Int32 × PH)) (v4 : Int32) (P : PH) : Option (Int32 × PH) :=
  (Lw_ways P).bind fun (x1637 : Int32 × PH) =>
  (Mo_ways x1637.2).bind fun (x1643 : Int32 × PH) =>
  (Mo_thrown x1643.2).bind fun (x1649 : Int32) =>
  if x1649 = x1637.1 then
    if x1637.1 = 0 then
      gdI (0 : Int32) 1 <|
      if (lg_cmp (x1643.2.2 2 (0 : Int32).toNatClampNeg) ((x1643.1).toInt64)) = 0 then
        Lw_law_2321 L xs r23 v4 x1643.2
      else
        gdP ((0 : Int32) = 0 ∨ (0 : Int32) = 1) <|
        some ((0 : Int32), x1643.2)
    else
      Lw_law_2321 L xs r23 v4 x1643.2
  else
    gdP ((0 : Int32) = 0 ∨ (0 : Int32) = 1) <|
    some ((0 : Int32), x1643.2)
set_option maxRecDepth 100000 in
set_option maxHeartbeats 4000000 in
theorem Lw_law_1635_sem {G : GT} {l : Launch} (hG : GOK G l) (kr : Nat) (r23 : Int32 → PH → Option (Int32 × PH)) (hr23 : ∀ (v4 : Int32) (P : PH), Sem G l miL_law kr (6 * kr) (rn tIH) 23 [(0, .ref (gB G)), (1, .ref (gA G 0)), (2, .ref (gA G 1)), (3, .ref (gA G 2)), (4, .int v4)] [] P (r23 v4 P)) (v4 : Int32) (P : PH) : Sem G l miL_law (kr + 4) (6 * kr + 24) (rn tIH) 1635 [(0, .ref (gB G)), (1, .ref (gA G 0)), (2, .ref (gA G 1)), (3, .ref (gA G 2)), (4, .int v4)] [] P (Lw_law_1635 (gL G) (gX G) r23 v4 P) := by
  unfold Lw_law_1635
  refine s_aload_n (pc := 1635) 1 dL_law_1635 rfl rfl ?_
  refine s_aload_n (pc := 1636) 3 dL_law_1636 rfl rfl ?_
  refine s_callSW (k := (kr + 3)) (n := (6 * kr + 18)) (pc := 1637) [.ref (gA G 0), .ref (gA G 2)] (fun x1637 => .int x1637.1 :: []) (fun x1637 => x1637.2) dL_law_1637 (cW_219 hG) (Nat.le_of_ble_eq_true rfl) rfl (Lw_ways_ok hG P) rfl (fun _ => rfl) (fun _ => rfl) (Nat.le_of_ble_eq_true rfl) (by omega) (by omega) (fun x1637 => ?_)
  refine s_istore (pc := 1640) [(5, .int (x1637.1)), (0, .ref (gB G)), (1, .ref (gA G 0)), (2, .ref (gA G 1)), (3, .ref (gA G 2)), (4, .int v4)] dL_law_1640 (Nat.le_of_ble_eq_true rfl) rfl ?_
  refine s_aload_n (pc := 1642) 3 dL_law_1642 rfl rfl ?_
  refine s_callV (k := (kr + 3)) (n := (6 * kr + 18)) (pc := 1643) [] (fun x1643 => .int (x1643.1) :: []) (fun x1643 => x1643.2) dL_law_1643 (cV_L_221 hG) (Nat.le_of_ble_eq_true rfl) rfl kd_1 (Mo_ways_ok hG x1637.2) rfl (fun _ => rfl) (fun _ => rfl) (Nat.le_of_ble_eq_true rfl) (by omega) (by omega) (fun x1643 => ?_)
  refine s_istore (pc := 1646) [(6, .int (x1643.1)), (5, .int (x1637.1)), (0, .ref (gB G)), (1, .ref (gA G 0)), (2, .ref (gA G 1)), (3, .ref (gA G 2)), (4, .int v4)] dL_law_1646 (Nat.le_of_ble_eq_true rfl) rfl ?_
  refine s_aload_n (pc := 1648) 4 dL_law_1648 rfl rfl ?_
  refine s_callV (k := (kr + 3)) (n := (6 * kr + 18)) (pc := 1649) [] (fun x1649 => .int x1649 :: []) (fun _ => x1643.2) dL_law_1649 (cV_L_137 hG) (Nat.le_of_ble_eq_true rfl) rfl kd_1 (Mo_thrown_ok hG x1643.2) rfl (fun _ => rfl) (fun _ => rfl) (Nat.le_of_ble_eq_true rfl) (by omega) (by omega) (fun x1649 => ?_)
  refine s_iload (pc := 1652) 1 dL_law_1652 rfl ?_
  refine s_icmp_eq (pc := 1654) 1659 dL_law_1654 rfl ?_ ?_
  · refine s_iload (pc := 1659) 1 dL_law_1659 rfl ?_
    refine s_if_ne (pc := 1661) 1676 dL_law_1661 rfl ?_ ?_
    · refine s_aload_n (pc := 1664) 5 dL_law_1664 rfl rfl ?_
      refine s_iconst (pc := 1665) (v := 0) dL_law_1665 rfl ?_
      refine s_lald (pc := 1666) 1 dL_law_1666 kd_2 ln_2 ?_
      refine s_iload (pc := 1667) 0 dL_law_1667 rfl ?_
      refine s_i2l (pc := 1669) dL_law_1669 ?_
      refine s_lcmp (pc := 1670) dL_law_1670 ?_
      refine s_if_eq (pc := 1671) 1676 dL_law_1671 rfl ?_ ?_
      · refine s_goto (pc := 1676) 2321 dL_law_1676 rfl ?_
        refine s_sub [2, 3, 4, 5, 6] rfl ?_
        refine s_budget (k2 := (kr + 0)) (n2 := (6 * kr + 0)) (by omega) (by omega) ?_
        exact Lw_law_2321_sem hG kr r23 hr23 v4 x1643.2
      · refine s_iconst (pc := 1674) (v := 0) dL_law_1674 rfl ?_
        exact s_zret (pc := 1675) dL_law_1675 rfl rfl
    · refine s_goto (pc := 1676) 2321 dL_law_1676 rfl ?_
      refine s_sub [2, 3, 4, 5, 6] rfl ?_
      refine s_budget (k2 := (kr + 0)) (n2 := (6 * kr + 0)) (by omega) (by omega) ?_
      exact Lw_law_2321_sem hG kr r23 hr23 v4 x1643.2
  · refine s_iconst (pc := 1657) (v := 0) dL_law_1657 rfl ?_
    exact s_zret (pc := 1658) dL_law_1658 rfl rfl
def Lw_law_1721 (L : Nat) (xs : Nat → Int32) (r23 : Int32 → PH → Option (Int32 × PH)) (v4 : Int32) (v5 : Int32) (s0 : Int32) (P : PH) : Option (Int32 × PH) :=
  gdI (v4 + (2 : Int32)) L <|
  (Mo_unpicked s0 (xs (v4 + (2 : Int32)).toNatClampNeg) P).bind fun (x1727 : Int32 × PH) =>
  (Mo_thrown x1727.2).bind fun (x1733 : Int32) =>
  if x1733 = v5 then
    if v5 = 0 then
      gdI (0 : Int32) 1 <|
      if (lg_cmp (x1727.2.2 2 (0 : Int32).toNatClampNeg) ((x1727.1).toInt64)) = 0 then
        Lw_law_2321 L xs r23 v4 x1727.2
      else
        gdP ((0 : Int32) = 0 ∨ (0 : Int32) = 1) <|
        some ((0 : Int32), x1727.2)
    else
      Lw_law_2321 L xs r23 v4 x1727.2
  else
    gdP ((0 : Int32) = 0 ∨ (0 : Int32) = 1) <|
    some ((0 : Int32), x1727.2)
set_option maxRecDepth 100000 in
set_option maxHeartbeats 4000000 in
theorem Lw_law_1721_sem {G : GT} {l : Launch} (hG : GOK G l) (kr : Nat) (r23 : Int32 → PH → Option (Int32 × PH)) (hr23 : ∀ (v4 : Int32) (P : PH), Sem G l miL_law kr (6 * kr) (rn tIH) 23 [(0, .ref (gB G)), (1, .ref (gA G 0)), (2, .ref (gA G 1)), (3, .ref (gA G 2)), (4, .int v4)] [] P (r23 v4 P)) (v4 : Int32) (v5 : Int32) (s0 : Int32) (P : PH) : Sem G l miL_law (kr + 2) (6 * kr + 12) (rn tIH) 1721 [(0, .ref (gB G)), (1, .ref (gA G 0)), (2, .ref (gA G 1)), (3, .ref (gA G 2)), (4, .int v4), (5, .int v5)] [.int s0, .ref (gA G 1)] P (Lw_law_1721 (gL G) (gX G) r23 v4 v5 s0 P) := by
  unfold Lw_law_1721
  refine s_aload_n (pc := 1721) 0 dL_law_1721 rfl rfl ?_
  refine s_iload (pc := 1722) 4 dL_law_1722 rfl ?_
  refine s_iconst (pc := 1724) (v := 2) dL_law_1724 rfl ?_
  refine s_iadd (pc := 1725) dL_law_1725 ?_
  refine s_sld (pc := 1726) dL_law_1726 ?_
  refine s_callV (k := (kr + 2)) (n := (6 * kr + 12)) (pc := 1727) [.int s0, .int ((gX G) (v4 + (2 : Int32)).toNatClampNeg)] (fun x1727 => .int (x1727.1) :: []) (fun x1727 => x1727.2) dL_law_1727 (cV_L_225 hG) (Nat.le_of_ble_eq_true rfl) rfl kd_1 (Mo_unpicked_ok hG s0 ((gX G) (v4 + (2 : Int32)).toNatClampNeg) P) rfl (fun _ => rfl) (fun _ => rfl) (Nat.le_of_ble_eq_true rfl) (by omega) (by omega) (fun x1727 => ?_)
  refine s_istore (pc := 1730) [(6, .int (x1727.1)), (0, .ref (gB G)), (1, .ref (gA G 0)), (2, .ref (gA G 1)), (3, .ref (gA G 2)), (4, .int v4), (5, .int v5)] dL_law_1730 (Nat.le_of_ble_eq_true rfl) rfl ?_
  refine s_aload_n (pc := 1732) 3 dL_law_1732 rfl rfl ?_
  refine s_callV (k := (kr + 2)) (n := (6 * kr + 12)) (pc := 1733) [] (fun x1733 => .int x1733 :: []) (fun _ => x1727.2) dL_law_1733 (cV_L_137 hG) (Nat.le_of_ble_eq_true rfl) rfl kd_1 (Mo_thrown_ok hG x1727.2) rfl (fun _ => rfl) (fun _ => rfl) (Nat.le_of_ble_eq_true rfl) (by omega) (by omega) (fun x1733 => ?_)
  refine s_iload (pc := 1736) 6 dL_law_1736 rfl ?_
  refine s_icmp_eq (pc := 1738) 1743 dL_law_1738 rfl ?_ ?_
  · refine s_iload (pc := 1743) 6 dL_law_1743 rfl ?_
    refine s_if_ne (pc := 1745) 1760 dL_law_1745 rfl ?_ ?_
    · refine s_aload_n (pc := 1748) 4 dL_law_1748 rfl rfl ?_
      refine s_iconst (pc := 1749) (v := 0) dL_law_1749 rfl ?_
      refine s_lald (pc := 1750) 1 dL_law_1750 kd_2 ln_2 ?_
      refine s_iload (pc := 1751) 0 dL_law_1751 rfl ?_
      refine s_i2l (pc := 1753) dL_law_1753 ?_
      refine s_lcmp (pc := 1754) dL_law_1754 ?_
      refine s_if_eq (pc := 1755) 1760 dL_law_1755 rfl ?_ ?_
      · refine s_goto (pc := 1760) 2321 dL_law_1760 rfl ?_
        refine s_sub [1, 2, 3, 4, 5] rfl ?_
        refine s_budget (k2 := (kr + 0)) (n2 := (6 * kr + 0)) (by omega) (by omega) ?_
        exact Lw_law_2321_sem hG kr r23 hr23 v4 x1727.2
      · refine s_iconst (pc := 1758) (v := 0) dL_law_1758 rfl ?_
        exact s_zret (pc := 1759) dL_law_1759 rfl rfl
    · refine s_goto (pc := 1760) 2321 dL_law_1760 rfl ?_
      refine s_sub [1, 2, 3, 4, 5] rfl ?_
      refine s_budget (k2 := (kr + 0)) (n2 := (6 * kr + 0)) (by omega) (by omega) ?_
      exact Lw_law_2321_sem hG kr r23 hr23 v4 x1727.2
  · refine s_iconst (pc := 1741) (v := 0) dL_law_1741 rfl ?_
    exact s_zret (pc := 1742) dL_law_1742 rfl rfl
def Lw_law_1694 (L : Nat) (xs : Nat → Int32) (r23 : Int32 → PH → Option (Int32 × PH)) (v4 : Int32) (s0 : Int32) (P : PH) : Option (Int32 × PH) :=
  gdI (v4 + (2 : Int32)) L <|
  (Lw_unpicked s0 (xs (v4 + (2 : Int32)).toNatClampNeg) P).bind fun (x1701 : Int32 × PH) =>
  gdI (v4 + (1 : Int32)) L <|
  if (xs (v4 + (1 : Int32)).toNatClampNeg) = 0 then
    Lw_law_1721 L xs r23 v4 (x1701.1) (0 : Int32) x1701.2
  else
    Lw_law_1721 L xs r23 v4 (x1701.1) (1 : Int32) x1701.2
set_option maxRecDepth 100000 in
set_option maxHeartbeats 4000000 in
theorem Lw_law_1694_sem {G : GT} {l : Launch} (hG : GOK G l) (kr : Nat) (r23 : Int32 → PH → Option (Int32 × PH)) (hr23 : ∀ (v4 : Int32) (P : PH), Sem G l miL_law kr (6 * kr) (rn tIH) 23 [(0, .ref (gB G)), (1, .ref (gA G 0)), (2, .ref (gA G 1)), (3, .ref (gA G 2)), (4, .int v4)] [] P (r23 v4 P)) (v4 : Int32) (s0 : Int32) (P : PH) : Sem G l miL_law (kr + 4) (6 * kr + 24) (rn tIH) 1694 [(0, .ref (gB G)), (1, .ref (gA G 0)), (2, .ref (gA G 1)), (3, .ref (gA G 2)), (4, .int v4)] [.int s0, .ref (gA G 0)] P (Lw_law_1694 (gL G) (gX G) r23 v4 s0 P) := by
  unfold Lw_law_1694
  refine s_aload_n (pc := 1694) 0 dL_law_1694 rfl rfl ?_
  refine s_iload (pc := 1695) 4 dL_law_1695 rfl ?_
  refine s_iconst (pc := 1697) (v := 2) dL_law_1697 rfl ?_
  refine s_iadd (pc := 1698) dL_law_1698 ?_
  refine s_sld (pc := 1699) dL_law_1699 ?_
  refine s_aload_n (pc := 1700) 3 dL_law_1700 rfl rfl ?_
  refine s_callSW (k := (kr + 2)) (n := (6 * kr + 12)) (pc := 1701) [.ref (gA G 0), .int s0, .int ((gX G) (v4 + (2 : Int32)).toNatClampNeg), .ref (gA G 2)] (fun x1701 => .int x1701.1 :: []) (fun x1701 => x1701.2) dL_law_1701 (cW_222 hG) (Nat.le_of_ble_eq_true rfl) rfl (Lw_unpicked_ok hG s0 ((gX G) (v4 + (2 : Int32)).toNatClampNeg) P) rfl (fun _ => rfl) (fun _ => rfl) (Nat.le_of_ble_eq_true rfl) (by omega) (by omega) (fun x1701 => ?_)
  refine s_istore (pc := 1704) [(5, .int (x1701.1)), (0, .ref (gB G)), (1, .ref (gA G 0)), (2, .ref (gA G 1)), (3, .ref (gA G 2)), (4, .int v4)] dL_law_1704 (Nat.le_of_ble_eq_true rfl) rfl ?_
  refine s_aload_n (pc := 1706) 3 dL_law_1706 rfl rfl ?_
  refine s_aload_n (pc := 1707) 1 dL_law_1707 rfl rfl ?_
  refine s_iload (pc := 1708) 5 dL_law_1708 rfl ?_
  refine s_iconst (pc := 1710) (v := 1) dL_law_1710 rfl ?_
  refine s_iadd (pc := 1711) dL_law_1711 ?_
  refine s_sld (pc := 1712) dL_law_1712 ?_
  refine s_if_eq (pc := 1713) 1720 dL_law_1713 rfl ?_ ?_
  · refine s_iconst (pc := 1720) (v := 0) dL_law_1720 rfl ?_
    refine s_sub [1, 2, 3, 4, 5, 0] rfl ?_
    exact Lw_law_1721_sem hG kr r23 hr23 v4 (x1701.1) (0 : Int32) x1701.2
  · refine s_iconst (pc := 1716) (v := 1) dL_law_1716 rfl ?_
    refine s_goto (pc := 1717) 1721 dL_law_1717 rfl ?_
    refine s_sub [1, 2, 3, 4, 5, 0] rfl ?_
    exact Lw_law_1721_sem hG kr r23 hr23 v4 (x1701.1) (1 : Int32) x1701.2
def Lw_law_1679 (L : Nat) (xs : Nat → Int32) (r23 : Int32 → PH → Option (Int32 × PH)) (v4 : Int32) (P : PH) : Option (Int32 × PH) :=
  gdI (v4 + (1 : Int32)) L <|
  if (xs (v4 + (1 : Int32)).toNatClampNeg) = 0 then
    Lw_law_1694 L xs r23 v4 (0 : Int32) P
  else
    Lw_law_1694 L xs r23 v4 (1 : Int32) P
set_option maxRecDepth 100000 in
set_option maxHeartbeats 4000000 in
theorem Lw_law_1679_sem {G : GT} {l : Launch} (hG : GOK G l) (kr : Nat) (r23 : Int32 → PH → Option (Int32 × PH)) (hr23 : ∀ (v4 : Int32) (P : PH), Sem G l miL_law kr (6 * kr) (rn tIH) 23 [(0, .ref (gB G)), (1, .ref (gA G 0)), (2, .ref (gA G 1)), (3, .ref (gA G 2)), (4, .int v4)] [] P (r23 v4 P)) (v4 : Int32) (P : PH) : Sem G l miL_law (kr + 4) (6 * kr + 24) (rn tIH) 1679 [(0, .ref (gB G)), (1, .ref (gA G 0)), (2, .ref (gA G 1)), (3, .ref (gA G 2)), (4, .int v4)] [] P (Lw_law_1679 (gL G) (gX G) r23 v4 P) := by
  unfold Lw_law_1679
  refine s_aload_n (pc := 1679) 1 dL_law_1679 rfl rfl ?_
  refine s_aload_n (pc := 1680) 0 dL_law_1680 rfl rfl ?_
  refine s_iload (pc := 1681) 4 dL_law_1681 rfl ?_
  refine s_iconst (pc := 1683) (v := 1) dL_law_1683 rfl ?_
  refine s_iadd (pc := 1684) dL_law_1684 ?_
  refine s_sld (pc := 1685) dL_law_1685 ?_
  refine s_if_eq (pc := 1686) 1693 dL_law_1686 rfl ?_ ?_
  · refine s_iconst (pc := 1693) (v := 0) dL_law_1693 rfl ?_
    exact Lw_law_1694_sem hG kr r23 hr23 v4 (0 : Int32) P
  · refine s_iconst (pc := 1689) (v := 1) dL_law_1689 rfl ?_
    refine s_goto (pc := 1690) 1694 dL_law_1690 rfl ?_
    exact Lw_law_1694_sem hG kr r23 hr23 v4 (1 : Int32) P
def Lw_law_1763 (L : Nat) (xs : Nat → Int32) (r23 : Int32 → PH → Option (Int32 × PH)) (v4 : Int32) (P : PH) : Option (Int32 × PH) :=
  gdI (v4 + (1 : Int32)) L <|
  (Lw_places (xs (v4 + (1 : Int32)).toNatClampNeg) P).bind fun (x1771 : Int32 × PH) =>
  gdI (v4 + (1 : Int32)) L <|
  (Mo_places (xs (v4 + (1 : Int32)).toNatClampNeg) x1771.2).bind fun (x1783 : Int32 × PH) =>
  (Mo_thrown x1783.2).bind fun (x1789 : Int32) =>
  if x1789 = x1771.1 then
    if x1771.1 = 0 then
      gdI (0 : Int32) 1 <|
      if (lg_cmp (x1783.2.2 2 (0 : Int32).toNatClampNeg) ((x1783.1).toInt64)) = 0 then
        Lw_law_2321 L xs r23 v4 x1783.2
      else
        gdP ((0 : Int32) = 0 ∨ (0 : Int32) = 1) <|
        some ((0 : Int32), x1783.2)
    else
      Lw_law_2321 L xs r23 v4 x1783.2
  else
    gdP ((0 : Int32) = 0 ∨ (0 : Int32) = 1) <|
    some ((0 : Int32), x1783.2)
set_option maxRecDepth 100000 in
set_option maxHeartbeats 4000000 in
theorem Lw_law_1763_sem {G : GT} {l : Launch} (hG : GOK G l) (kr : Nat) (r23 : Int32 → PH → Option (Int32 × PH)) (hr23 : ∀ (v4 : Int32) (P : PH), Sem G l miL_law kr (6 * kr) (rn tIH) 23 [(0, .ref (gB G)), (1, .ref (gA G 0)), (2, .ref (gA G 1)), (3, .ref (gA G 2)), (4, .int v4)] [] P (r23 v4 P)) (v4 : Int32) (P : PH) : Sem G l miL_law (kr + 4) (6 * kr + 24) (rn tIH) 1763 [(0, .ref (gB G)), (1, .ref (gA G 0)), (2, .ref (gA G 1)), (3, .ref (gA G 2)), (4, .int v4)] [] P (Lw_law_1763 (gL G) (gX G) r23 v4 P) := by
  unfold Lw_law_1763
  refine s_aload_n (pc := 1763) 1 dL_law_1763 rfl rfl ?_
  refine s_aload_n (pc := 1764) 0 dL_law_1764 rfl rfl ?_
  refine s_iload (pc := 1765) 4 dL_law_1765 rfl ?_
  refine s_iconst (pc := 1767) (v := 1) dL_law_1767 rfl ?_
  refine s_iadd (pc := 1768) dL_law_1768 ?_
  refine s_sld (pc := 1769) dL_law_1769 ?_
  refine s_aload_n (pc := 1770) 3 dL_law_1770 rfl rfl ?_
  refine s_callSW (k := (kr + 3)) (n := (6 * kr + 18)) (pc := 1771) [.ref (gA G 0), .int ((gX G) (v4 + (1 : Int32)).toNatClampNeg), .ref (gA G 2)] (fun x1771 => .int x1771.1 :: []) (fun x1771 => x1771.2) dL_law_1771 (cW_226 hG) (Nat.le_of_ble_eq_true rfl) rfl (Lw_places_ok hG ((gX G) (v4 + (1 : Int32)).toNatClampNeg) P) rfl (fun _ => rfl) (fun _ => rfl) (Nat.le_of_ble_eq_true rfl) (by omega) (by omega) (fun x1771 => ?_)
  refine s_istore (pc := 1774) [(5, .int (x1771.1)), (0, .ref (gB G)), (1, .ref (gA G 0)), (2, .ref (gA G 1)), (3, .ref (gA G 2)), (4, .int v4)] dL_law_1774 (Nat.le_of_ble_eq_true rfl) rfl ?_
  refine s_aload_n (pc := 1776) 3 dL_law_1776 rfl rfl ?_
  refine s_aload_n (pc := 1777) 1 dL_law_1777 rfl rfl ?_
  refine s_iload (pc := 1778) 5 dL_law_1778 rfl ?_
  refine s_iconst (pc := 1780) (v := 1) dL_law_1780 rfl ?_
  refine s_iadd (pc := 1781) dL_law_1781 ?_
  refine s_sld (pc := 1782) dL_law_1782 ?_
  refine s_callV (k := (kr + 3)) (n := (6 * kr + 18)) (pc := 1783) [.int ((gX G) (v4 + (1 : Int32)).toNatClampNeg)] (fun x1783 => .int (x1783.1) :: []) (fun x1783 => x1783.2) dL_law_1783 (cV_L_228 hG) (Nat.le_of_ble_eq_true rfl) rfl kd_1 (Mo_places_ok hG ((gX G) (v4 + (1 : Int32)).toNatClampNeg) x1771.2) rfl (fun _ => rfl) (fun _ => rfl) (Nat.le_of_ble_eq_true rfl) (by omega) (by omega) (fun x1783 => ?_)
  refine s_istore (pc := 1786) [(6, .int (x1783.1)), (5, .int (x1771.1)), (0, .ref (gB G)), (1, .ref (gA G 0)), (2, .ref (gA G 1)), (3, .ref (gA G 2)), (4, .int v4)] dL_law_1786 (Nat.le_of_ble_eq_true rfl) rfl ?_
  refine s_aload_n (pc := 1788) 4 dL_law_1788 rfl rfl ?_
  refine s_callV (k := (kr + 3)) (n := (6 * kr + 18)) (pc := 1789) [] (fun x1789 => .int x1789 :: []) (fun _ => x1783.2) dL_law_1789 (cV_L_137 hG) (Nat.le_of_ble_eq_true rfl) rfl kd_1 (Mo_thrown_ok hG x1783.2) rfl (fun _ => rfl) (fun _ => rfl) (Nat.le_of_ble_eq_true rfl) (by omega) (by omega) (fun x1789 => ?_)
  refine s_iload (pc := 1792) 1 dL_law_1792 rfl ?_
  refine s_icmp_eq (pc := 1794) 1799 dL_law_1794 rfl ?_ ?_
  · refine s_iload (pc := 1799) 1 dL_law_1799 rfl ?_
    refine s_if_ne (pc := 1801) 1816 dL_law_1801 rfl ?_ ?_
    · refine s_aload_n (pc := 1804) 5 dL_law_1804 rfl rfl ?_
      refine s_iconst (pc := 1805) (v := 0) dL_law_1805 rfl ?_
      refine s_lald (pc := 1806) 1 dL_law_1806 kd_2 ln_2 ?_
      refine s_iload (pc := 1807) 0 dL_law_1807 rfl ?_
      refine s_i2l (pc := 1809) dL_law_1809 ?_
      refine s_lcmp (pc := 1810) dL_law_1810 ?_
      refine s_if_eq (pc := 1811) 1816 dL_law_1811 rfl ?_ ?_
      · refine s_goto (pc := 1816) 2321 dL_law_1816 rfl ?_
        refine s_sub [2, 3, 4, 5, 6] rfl ?_
        refine s_budget (k2 := (kr + 0)) (n2 := (6 * kr + 0)) (by omega) (by omega) ?_
        exact Lw_law_2321_sem hG kr r23 hr23 v4 x1783.2
      · refine s_iconst (pc := 1814) (v := 0) dL_law_1814 rfl ?_
        exact s_zret (pc := 1815) dL_law_1815 rfl rfl
    · refine s_goto (pc := 1816) 2321 dL_law_1816 rfl ?_
      refine s_sub [2, 3, 4, 5, 6] rfl ?_
      refine s_budget (k2 := (kr + 0)) (n2 := (6 * kr + 0)) (by omega) (by omega) ?_
      exact Lw_law_2321_sem hG kr r23 hr23 v4 x1783.2
  · refine s_iconst (pc := 1797) (v := 0) dL_law_1797 rfl ?_
    exact s_zret (pc := 1798) dL_law_1798 rfl rfl
def Lw_law_1819 (L : Nat) (xs : Nat → Int32) (r23 : Int32 → PH → Option (Int32 × PH)) (v4 : Int32) (P : PH) : Option (Int32 × PH) :=
  gdI (v4 + (1 : Int32)) L <|
  gdI (v4 + (2 : Int32)) L <|
  (Lw_threads (xs (v4 + (1 : Int32)).toNatClampNeg) (xs (v4 + (2 : Int32)).toNatClampNeg) P).bind fun (x1833 : Int32 × PH) =>
  gdI (v4 + (1 : Int32)) L <|
  gdI (v4 + (2 : Int32)) L <|
  (Mo_threads (xs (v4 + (1 : Int32)).toNatClampNeg) (xs (v4 + (2 : Int32)).toNatClampNeg) x1833.2).bind fun (x1851 : Int32 × PH) =>
  (Mo_thrown x1851.2).bind fun (x1857 : Int32) =>
  if x1857 = x1833.1 then
    if x1833.1 = 0 then
      gdI (0 : Int32) 1 <|
      if (lg_cmp (x1851.2.2 2 (0 : Int32).toNatClampNeg) ((x1851.1).toInt64)) = 0 then
        Lw_law_2321 L xs r23 v4 x1851.2
      else
        gdP ((0 : Int32) = 0 ∨ (0 : Int32) = 1) <|
        some ((0 : Int32), x1851.2)
    else
      Lw_law_2321 L xs r23 v4 x1851.2
  else
    gdP ((0 : Int32) = 0 ∨ (0 : Int32) = 1) <|
    some ((0 : Int32), x1851.2)
set_option maxRecDepth 100000 in
set_option maxHeartbeats 4000000 in
theorem Lw_law_1819_sem {G : GT} {l : Launch} (hG : GOK G l) (kr : Nat) (r23 : Int32 → PH → Option (Int32 × PH)) (hr23 : ∀ (v4 : Int32) (P : PH), Sem G l miL_law kr (6 * kr) (rn tIH) 23 [(0, .ref (gB G)), (1, .ref (gA G 0)), (2, .ref (gA G 1)), (3, .ref (gA G 2)), (4, .int v4)] [] P (r23 v4 P)) (v4 : Int32) (P : PH) : Sem G l miL_law (kr + 4) (6 * kr + 24) (rn tIH) 1819 [(0, .ref (gB G)), (1, .ref (gA G 0)), (2, .ref (gA G 1)), (3, .ref (gA G 2)), (4, .int v4)] [] P (Lw_law_1819 (gL G) (gX G) r23 v4 P) := by
  unfold Lw_law_1819
  refine s_aload_n (pc := 1819) 1 dL_law_1819 rfl rfl ?_
  refine s_aload_n (pc := 1820) 0 dL_law_1820 rfl rfl ?_
  refine s_iload (pc := 1821) 4 dL_law_1821 rfl ?_
  refine s_iconst (pc := 1823) (v := 1) dL_law_1823 rfl ?_
  refine s_iadd (pc := 1824) dL_law_1824 ?_
  refine s_sld (pc := 1825) dL_law_1825 ?_
  refine s_aload_n (pc := 1826) 0 dL_law_1826 rfl rfl ?_
  refine s_iload (pc := 1827) 4 dL_law_1827 rfl ?_
  refine s_iconst (pc := 1829) (v := 2) dL_law_1829 rfl ?_
  refine s_iadd (pc := 1830) dL_law_1830 ?_
  refine s_sld (pc := 1831) dL_law_1831 ?_
  refine s_aload_n (pc := 1832) 3 dL_law_1832 rfl rfl ?_
  refine s_callSW (k := (kr + 2)) (n := (6 * kr + 12)) (pc := 1833) [.ref (gA G 0), .int ((gX G) (v4 + (1 : Int32)).toNatClampNeg), .int ((gX G) (v4 + (2 : Int32)).toNatClampNeg), .ref (gA G 2)] (fun x1833 => .int x1833.1 :: []) (fun x1833 => x1833.2) dL_law_1833 (cW_229 hG) (Nat.le_of_ble_eq_true rfl) rfl (Lw_threads_ok hG ((gX G) (v4 + (1 : Int32)).toNatClampNeg) ((gX G) (v4 + (2 : Int32)).toNatClampNeg) P) rfl (fun _ => rfl) (fun _ => rfl) (Nat.le_of_ble_eq_true rfl) (by omega) (by omega) (fun x1833 => ?_)
  refine s_istore (pc := 1836) [(5, .int (x1833.1)), (0, .ref (gB G)), (1, .ref (gA G 0)), (2, .ref (gA G 1)), (3, .ref (gA G 2)), (4, .int v4)] dL_law_1836 (Nat.le_of_ble_eq_true rfl) rfl ?_
  refine s_aload_n (pc := 1838) 3 dL_law_1838 rfl rfl ?_
  refine s_aload_n (pc := 1839) 1 dL_law_1839 rfl rfl ?_
  refine s_iload (pc := 1840) 5 dL_law_1840 rfl ?_
  refine s_iconst (pc := 1842) (v := 1) dL_law_1842 rfl ?_
  refine s_iadd (pc := 1843) dL_law_1843 ?_
  refine s_sld (pc := 1844) dL_law_1844 ?_
  refine s_aload_n (pc := 1845) 1 dL_law_1845 rfl rfl ?_
  refine s_iload (pc := 1846) 5 dL_law_1846 rfl ?_
  refine s_iconst (pc := 1848) (v := 2) dL_law_1848 rfl ?_
  refine s_iadd (pc := 1849) dL_law_1849 ?_
  refine s_sld (pc := 1850) dL_law_1850 ?_
  refine s_callV (k := (kr + 2)) (n := (6 * kr + 12)) (pc := 1851) [.int ((gX G) (v4 + (1 : Int32)).toNatClampNeg), .int ((gX G) (v4 + (2 : Int32)).toNatClampNeg)] (fun x1851 => .int (x1851.1) :: []) (fun x1851 => x1851.2) dL_law_1851 (cV_L_231 hG) (Nat.le_of_ble_eq_true rfl) rfl kd_1 (Mo_threads_ok hG ((gX G) (v4 + (1 : Int32)).toNatClampNeg) ((gX G) (v4 + (2 : Int32)).toNatClampNeg) x1833.2) rfl (fun _ => rfl) (fun _ => rfl) (Nat.le_of_ble_eq_true rfl) (by omega) (by omega) (fun x1851 => ?_)
  refine s_istore (pc := 1854) [(6, .int (x1851.1)), (5, .int (x1833.1)), (0, .ref (gB G)), (1, .ref (gA G 0)), (2, .ref (gA G 1)), (3, .ref (gA G 2)), (4, .int v4)] dL_law_1854 (Nat.le_of_ble_eq_true rfl) rfl ?_
  refine s_aload_n (pc := 1856) 4 dL_law_1856 rfl rfl ?_
  refine s_callV (k := (kr + 2)) (n := (6 * kr + 12)) (pc := 1857) [] (fun x1857 => .int x1857 :: []) (fun _ => x1851.2) dL_law_1857 (cV_L_137 hG) (Nat.le_of_ble_eq_true rfl) rfl kd_1 (Mo_thrown_ok hG x1851.2) rfl (fun _ => rfl) (fun _ => rfl) (Nat.le_of_ble_eq_true rfl) (by omega) (by omega) (fun x1857 => ?_)
  refine s_iload (pc := 1860) 1 dL_law_1860 rfl ?_
  refine s_icmp_eq (pc := 1862) 1867 dL_law_1862 rfl ?_ ?_
  · refine s_iload (pc := 1867) 1 dL_law_1867 rfl ?_
    refine s_if_ne (pc := 1869) 1884 dL_law_1869 rfl ?_ ?_
    · refine s_aload_n (pc := 1872) 5 dL_law_1872 rfl rfl ?_
      refine s_iconst (pc := 1873) (v := 0) dL_law_1873 rfl ?_
      refine s_lald (pc := 1874) 1 dL_law_1874 kd_2 ln_2 ?_
      refine s_iload (pc := 1875) 0 dL_law_1875 rfl ?_
      refine s_i2l (pc := 1877) dL_law_1877 ?_
      refine s_lcmp (pc := 1878) dL_law_1878 ?_
      refine s_if_eq (pc := 1879) 1884 dL_law_1879 rfl ?_ ?_
      · refine s_goto (pc := 1884) 2321 dL_law_1884 rfl ?_
        refine s_sub [2, 3, 4, 5, 6] rfl ?_
        refine s_budget (k2 := (kr + 0)) (n2 := (6 * kr + 0)) (by omega) (by omega) ?_
        exact Lw_law_2321_sem hG kr r23 hr23 v4 x1851.2
      · refine s_iconst (pc := 1882) (v := 0) dL_law_1882 rfl ?_
        exact s_zret (pc := 1883) dL_law_1883 rfl rfl
    · refine s_goto (pc := 1884) 2321 dL_law_1884 rfl ?_
      refine s_sub [2, 3, 4, 5, 6] rfl ?_
      refine s_budget (k2 := (kr + 0)) (n2 := (6 * kr + 0)) (by omega) (by omega) ?_
      exact Lw_law_2321_sem hG kr r23 hr23 v4 x1851.2
  · refine s_iconst (pc := 1865) (v := 0) dL_law_1865 rfl ?_
    exact s_zret (pc := 1866) dL_law_1866 rfl rfl
def Lw_law_1920 (L : Nat) (xs : Nat → Int32) (r23 : Int32 → PH → Option (Int32 × PH)) (v4 : Int32) (s0 : Int32) (s2 : Int32) (P : PH) : Option (Int32 × PH) :=
  (Mo_seen s0 P).bind fun (x1920 : Int32 × PH) =>
  if s2 = x1920.1 then
    Lw_law_2321 L xs r23 v4 x1920.2
  else
    gdP ((0 : Int32) = 0 ∨ (0 : Int32) = 1) <|
    some ((0 : Int32), x1920.2)
set_option maxRecDepth 100000 in
set_option maxHeartbeats 4000000 in
theorem Lw_law_1920_sem {G : GT} {l : Launch} (hG : GOK G l) (kr : Nat) (r23 : Int32 → PH → Option (Int32 × PH)) (hr23 : ∀ (v4 : Int32) (P : PH), Sem G l miL_law kr (6 * kr) (rn tIH) 23 [(0, .ref (gB G)), (1, .ref (gA G 0)), (2, .ref (gA G 1)), (3, .ref (gA G 2)), (4, .int v4)] [] P (r23 v4 P)) (v4 : Int32) (s0 : Int32) (s2 : Int32) (P : PH) : Sem G l miL_law (kr + 4) (6 * kr + 24) (rn tIH) 1920 [(0, .ref (gB G)), (1, .ref (gA G 0)), (2, .ref (gA G 1)), (3, .ref (gA G 2)), (4, .int v4)] [.int s0, .ref (gA G 1), .int s2] P (Lw_law_1920 (gL G) (gX G) r23 v4 s0 s2 P) := by
  unfold Lw_law_1920
  refine s_callV (k := (kr + 4)) (n := (6 * kr + 24)) (pc := 1920) [.int s0] (fun x1920 => .int (x1920.1) :: [.int s2]) (fun x1920 => x1920.2) dL_law_1920 (cV_L_235 hG) (Nat.le_of_ble_eq_true rfl) rfl kd_1 (Mo_seen_ok hG s0 P) rfl (fun _ => rfl) (fun _ => rfl) (Nat.le_of_ble_eq_true rfl) (by omega) (by omega) (fun x1920 => ?_)
  refine s_icmp_eq (pc := 1923) 2321 dL_law_1923 rfl ?_ ?_
  · refine s_budget (k2 := (kr + 0)) (n2 := (6 * kr + 0)) (by omega) (by omega) ?_
    exact Lw_law_2321_sem hG kr r23 hr23 v4 x1920.2
  · refine s_iconst (pc := 1926) (v := 0) dL_law_1926 rfl ?_
    exact s_zret (pc := 1927) dL_law_1927 rfl rfl
def Lw_law_1902 (L : Nat) (xs : Nat → Int32) (r23 : Int32 → PH → Option (Int32 × PH)) (v4 : Int32) (s0 : Int32) (P : PH) : Option (Int32 × PH) :=
  (Bs_seen s0 P).bind fun (x1902 : Int32) =>
  gdI (v4 + (1 : Int32)) L <|
  if (xs (v4 + (1 : Int32)).toNatClampNeg) = 0 then
    Lw_law_1920 L xs r23 v4 (0 : Int32) x1902 P
  else
    Lw_law_1920 L xs r23 v4 (1 : Int32) x1902 P
set_option maxRecDepth 100000 in
set_option maxHeartbeats 4000000 in
theorem Lw_law_1902_sem {G : GT} {l : Launch} (hG : GOK G l) (kr : Nat) (r23 : Int32 → PH → Option (Int32 × PH)) (hr23 : ∀ (v4 : Int32) (P : PH), Sem G l miL_law kr (6 * kr) (rn tIH) 23 [(0, .ref (gB G)), (1, .ref (gA G 0)), (2, .ref (gA G 1)), (3, .ref (gA G 2)), (4, .int v4)] [] P (r23 v4 P)) (v4 : Int32) (s0 : Int32) (P : PH) : Sem G l miL_law (kr + 4) (6 * kr + 24) (rn tIH) 1902 [(0, .ref (gB G)), (1, .ref (gA G 0)), (2, .ref (gA G 1)), (3, .ref (gA G 2)), (4, .int v4)] [.int s0, .ref (gA G 0)] P (Lw_law_1902 (gL G) (gX G) r23 v4 s0 P) := by
  unfold Lw_law_1902
  refine s_callV (k := (kr + 4)) (n := (6 * kr + 24)) (pc := 1902) [.int s0] (fun x1902 => .int x1902 :: []) (fun _ => P) dL_law_1902 (cV_L_232 hG) (Nat.le_of_ble_eq_true rfl) rfl kd_0 (Bs_seen_ok hG s0 P) rfl (fun _ => rfl) (fun _ => rfl) (Nat.le_of_ble_eq_true rfl) (by omega) (by omega) (fun x1902 => ?_)
  refine s_aload_n (pc := 1905) 2 dL_law_1905 rfl rfl ?_
  refine s_aload_n (pc := 1906) 0 dL_law_1906 rfl rfl ?_
  refine s_iload (pc := 1907) 4 dL_law_1907 rfl ?_
  refine s_iconst (pc := 1909) (v := 1) dL_law_1909 rfl ?_
  refine s_iadd (pc := 1910) dL_law_1910 ?_
  refine s_sld (pc := 1911) dL_law_1911 ?_
  refine s_if_eq (pc := 1912) 1919 dL_law_1912 rfl ?_ ?_
  · refine s_iconst (pc := 1919) (v := 0) dL_law_1919 rfl ?_
    exact Lw_law_1920_sem hG kr r23 hr23 v4 (0 : Int32) x1902 P
  · refine s_iconst (pc := 1915) (v := 1) dL_law_1915 rfl ?_
    refine s_goto (pc := 1916) 1920 dL_law_1916 rfl ?_
    exact Lw_law_1920_sem hG kr r23 hr23 v4 (1 : Int32) x1902 P
def Lw_law_1887 (L : Nat) (xs : Nat → Int32) (r23 : Int32 → PH → Option (Int32 × PH)) (v4 : Int32) (P : PH) : Option (Int32 × PH) :=
  gdI (v4 + (1 : Int32)) L <|
  if (xs (v4 + (1 : Int32)).toNatClampNeg) = 0 then
    Lw_law_1902 L xs r23 v4 (0 : Int32) P
  else
    Lw_law_1902 L xs r23 v4 (1 : Int32) P
set_option maxRecDepth 100000 in
set_option maxHeartbeats 4000000 in
theorem Lw_law_1887_sem {G : GT} {l : Launch} (hG : GOK G l) (kr : Nat) (r23 : Int32 → PH → Option (Int32 × PH)) (hr23 : ∀ (v4 : Int32) (P : PH), Sem G l miL_law kr (6 * kr) (rn tIH) 23 [(0, .ref (gB G)), (1, .ref (gA G 0)), (2, .ref (gA G 1)), (3, .ref (gA G 2)), (4, .int v4)] [] P (r23 v4 P)) (v4 : Int32) (P : PH) : Sem G l miL_law (kr + 4) (6 * kr + 24) (rn tIH) 1887 [(0, .ref (gB G)), (1, .ref (gA G 0)), (2, .ref (gA G 1)), (3, .ref (gA G 2)), (4, .int v4)] [] P (Lw_law_1887 (gL G) (gX G) r23 v4 P) := by
  unfold Lw_law_1887
  refine s_aload_n (pc := 1887) 1 dL_law_1887 rfl rfl ?_
  refine s_aload_n (pc := 1888) 0 dL_law_1888 rfl rfl ?_
  refine s_iload (pc := 1889) 4 dL_law_1889 rfl ?_
  refine s_iconst (pc := 1891) (v := 1) dL_law_1891 rfl ?_
  refine s_iadd (pc := 1892) dL_law_1892 ?_
  refine s_sld (pc := 1893) dL_law_1893 ?_
  refine s_if_eq (pc := 1894) 1901 dL_law_1894 rfl ?_ ?_
  · refine s_iconst (pc := 1901) (v := 0) dL_law_1901 rfl ?_
    exact Lw_law_1902_sem hG kr r23 hr23 v4 (0 : Int32) P
  · refine s_iconst (pc := 1897) (v := 1) dL_law_1897 rfl ?_
    refine s_goto (pc := 1898) 1902 dL_law_1898 rfl ?_
    exact Lw_law_1902_sem hG kr r23 hr23 v4 (1 : Int32) P
def Lw_law_1928 (L : Nat) (xs : Nat → Int32) (r23 : Int32 → PH → Option (Int32 × PH)) (v4 : Int32) (P : PH) : Option (Int32 × PH) :=
  (Bs_same P).bind fun (x1929 : Int32) =>
  (Mo_same P).bind fun (x1933 : Int32 × PH) =>
  if x1929 = x1933.1 then
    Lw_law_2321 L xs r23 v4 x1933.2
  else
    gdP ((0 : Int32) = 0 ∨ (0 : Int32) = 1) <|
    some ((0 : Int32), x1933.2)
set_option maxRecDepth 100000 in
set_option maxHeartbeats 4000000 in
theorem Lw_law_1928_sem {G : GT} {l : Launch} (hG : GOK G l) (kr : Nat) (r23 : Int32 → PH → Option (Int32 × PH)) (hr23 : ∀ (v4 : Int32) (P : PH), Sem G l miL_law kr (6 * kr) (rn tIH) 23 [(0, .ref (gB G)), (1, .ref (gA G 0)), (2, .ref (gA G 1)), (3, .ref (gA G 2)), (4, .int v4)] [] P (r23 v4 P)) (v4 : Int32) (P : PH) : Sem G l miL_law (kr + 4) (6 * kr + 24) (rn tIH) 1928 [(0, .ref (gB G)), (1, .ref (gA G 0)), (2, .ref (gA G 1)), (3, .ref (gA G 2)), (4, .int v4)] [] P (Lw_law_1928 (gL G) (gX G) r23 v4 P) := by
  unfold Lw_law_1928
  refine s_aload_n (pc := 1928) 1 dL_law_1928 rfl rfl ?_
  refine s_callV (k := (kr + 4)) (n := (6 * kr + 24)) (pc := 1929) [] (fun x1929 => .int x1929 :: []) (fun _ => P) dL_law_1929 (cV_L_236 hG) (Nat.le_of_ble_eq_true rfl) rfl kd_0 (Bs_same_ok hG P) rfl (fun _ => rfl) (fun _ => rfl) (Nat.le_of_ble_eq_true rfl) (by omega) (by omega) (fun x1929 => ?_)
  refine s_aload_n (pc := 1932) 2 dL_law_1932 rfl rfl ?_
  refine s_callV (k := (kr + 4)) (n := (6 * kr + 24)) (pc := 1933) [] (fun x1933 => .int (x1933.1) :: [.int x1929]) (fun x1933 => x1933.2) dL_law_1933 (cV_L_240 hG) (Nat.le_of_ble_eq_true rfl) rfl kd_1 (Mo_same_ok hG P) rfl (fun _ => rfl) (fun _ => rfl) (Nat.le_of_ble_eq_true rfl) (by omega) (by omega) (fun x1933 => ?_)
  refine s_icmp_eq (pc := 1936) 2321 dL_law_1936 rfl ?_ ?_
  · refine s_budget (k2 := (kr + 0)) (n2 := (6 * kr + 0)) (by omega) (by omega) ?_
    exact Lw_law_2321_sem hG kr r23 hr23 v4 x1933.2
  · refine s_iconst (pc := 1939) (v := 0) dL_law_1939 rfl ?_
    exact s_zret (pc := 1940) dL_law_1940 rfl rfl
def Lw_law_1941 (L : Nat) (xs : Nat → Int32) (r23 : Int32 → PH → Option (Int32 × PH)) (v4 : Int32) (P : PH) : Option (Int32 × PH) :=
  gdI (v4 + (1 : Int32)) L <|
  (Lw_sameAt (xs (v4 + (1 : Int32)).toNatClampNeg) P).bind fun (x1949 : Int32 × PH) =>
  gdI (v4 + (1 : Int32)) L <|
  (Mo_sameAt (xs (v4 + (1 : Int32)).toNatClampNeg) x1949.2).bind fun (x1961 : Int32 × PH) =>
  (Mo_thrown x1961.2).bind fun (x1967 : Int32) =>
  if x1967 = x1949.1 then
    if x1949.1 = 0 then
      gdI (0 : Int32) 1 <|
      if (lg_cmp (x1961.2.2 2 (0 : Int32).toNatClampNeg) ((x1961.1).toInt64)) = 0 then
        Lw_law_2321 L xs r23 v4 x1961.2
      else
        gdP ((0 : Int32) = 0 ∨ (0 : Int32) = 1) <|
        some ((0 : Int32), x1961.2)
    else
      Lw_law_2321 L xs r23 v4 x1961.2
  else
    gdP ((0 : Int32) = 0 ∨ (0 : Int32) = 1) <|
    some ((0 : Int32), x1961.2)
set_option maxRecDepth 100000 in
set_option maxHeartbeats 4000000 in
theorem Lw_law_1941_sem {G : GT} {l : Launch} (hG : GOK G l) (kr : Nat) (r23 : Int32 → PH → Option (Int32 × PH)) (hr23 : ∀ (v4 : Int32) (P : PH), Sem G l miL_law kr (6 * kr) (rn tIH) 23 [(0, .ref (gB G)), (1, .ref (gA G 0)), (2, .ref (gA G 1)), (3, .ref (gA G 2)), (4, .int v4)] [] P (r23 v4 P)) (v4 : Int32) (P : PH) : Sem G l miL_law (kr + 4) (6 * kr + 24) (rn tIH) 1941 [(0, .ref (gB G)), (1, .ref (gA G 0)), (2, .ref (gA G 1)), (3, .ref (gA G 2)), (4, .int v4)] [] P (Lw_law_1941 (gL G) (gX G) r23 v4 P) := by
  unfold Lw_law_1941
  refine s_aload_n (pc := 1941) 1 dL_law_1941 rfl rfl ?_
  refine s_aload_n (pc := 1942) 0 dL_law_1942 rfl rfl ?_
  refine s_iload (pc := 1943) 4 dL_law_1943 rfl ?_
  refine s_iconst (pc := 1945) (v := 1) dL_law_1945 rfl ?_
  refine s_iadd (pc := 1946) dL_law_1946 ?_
  refine s_sld (pc := 1947) dL_law_1947 ?_
  refine s_aload_n (pc := 1948) 3 dL_law_1948 rfl rfl ?_
  refine s_callSW (k := (kr + 3)) (n := (6 * kr + 18)) (pc := 1949) [.ref (gA G 0), .int ((gX G) (v4 + (1 : Int32)).toNatClampNeg), .ref (gA G 2)] (fun x1949 => .int x1949.1 :: []) (fun x1949 => x1949.2) dL_law_1949 (cW_241 hG) (Nat.le_of_ble_eq_true rfl) rfl (Lw_sameAt_ok hG ((gX G) (v4 + (1 : Int32)).toNatClampNeg) P) rfl (fun _ => rfl) (fun _ => rfl) (Nat.le_of_ble_eq_true rfl) (by omega) (by omega) (fun x1949 => ?_)
  refine s_istore (pc := 1952) [(5, .int (x1949.1)), (0, .ref (gB G)), (1, .ref (gA G 0)), (2, .ref (gA G 1)), (3, .ref (gA G 2)), (4, .int v4)] dL_law_1952 (Nat.le_of_ble_eq_true rfl) rfl ?_
  refine s_aload_n (pc := 1954) 3 dL_law_1954 rfl rfl ?_
  refine s_aload_n (pc := 1955) 1 dL_law_1955 rfl rfl ?_
  refine s_iload (pc := 1956) 5 dL_law_1956 rfl ?_
  refine s_iconst (pc := 1958) (v := 1) dL_law_1958 rfl ?_
  refine s_iadd (pc := 1959) dL_law_1959 ?_
  refine s_sld (pc := 1960) dL_law_1960 ?_
  refine s_callV (k := (kr + 3)) (n := (6 * kr + 18)) (pc := 1961) [.int ((gX G) (v4 + (1 : Int32)).toNatClampNeg)] (fun x1961 => .int (x1961.1) :: []) (fun x1961 => x1961.2) dL_law_1961 (cV_L_243 hG) (Nat.le_of_ble_eq_true rfl) rfl kd_1 (Mo_sameAt_ok hG ((gX G) (v4 + (1 : Int32)).toNatClampNeg) x1949.2) rfl (fun _ => rfl) (fun _ => rfl) (Nat.le_of_ble_eq_true rfl) (by omega) (by omega) (fun x1961 => ?_)
  refine s_istore (pc := 1964) [(6, .int (x1961.1)), (5, .int (x1949.1)), (0, .ref (gB G)), (1, .ref (gA G 0)), (2, .ref (gA G 1)), (3, .ref (gA G 2)), (4, .int v4)] dL_law_1964 (Nat.le_of_ble_eq_true rfl) rfl ?_
  refine s_aload_n (pc := 1966) 4 dL_law_1966 rfl rfl ?_
  refine s_callV (k := (kr + 3)) (n := (6 * kr + 18)) (pc := 1967) [] (fun x1967 => .int x1967 :: []) (fun _ => x1961.2) dL_law_1967 (cV_L_137 hG) (Nat.le_of_ble_eq_true rfl) rfl kd_1 (Mo_thrown_ok hG x1961.2) rfl (fun _ => rfl) (fun _ => rfl) (Nat.le_of_ble_eq_true rfl) (by omega) (by omega) (fun x1967 => ?_)
  refine s_iload (pc := 1970) 1 dL_law_1970 rfl ?_
  refine s_icmp_eq (pc := 1972) 1977 dL_law_1972 rfl ?_ ?_
  · refine s_iload (pc := 1977) 1 dL_law_1977 rfl ?_
    refine s_if_ne (pc := 1979) 1994 dL_law_1979 rfl ?_ ?_
    · refine s_aload_n (pc := 1982) 5 dL_law_1982 rfl rfl ?_
      refine s_iconst (pc := 1983) (v := 0) dL_law_1983 rfl ?_
      refine s_lald (pc := 1984) 1 dL_law_1984 kd_2 ln_2 ?_
      refine s_iload (pc := 1985) 0 dL_law_1985 rfl ?_
      refine s_i2l (pc := 1987) dL_law_1987 ?_
      refine s_lcmp (pc := 1988) dL_law_1988 ?_
      refine s_if_eq (pc := 1989) 1994 dL_law_1989 rfl ?_ ?_
      · refine s_goto (pc := 1994) 2321 dL_law_1994 rfl ?_
        refine s_sub [2, 3, 4, 5, 6] rfl ?_
        refine s_budget (k2 := (kr + 0)) (n2 := (6 * kr + 0)) (by omega) (by omega) ?_
        exact Lw_law_2321_sem hG kr r23 hr23 v4 x1961.2
      · refine s_iconst (pc := 1992) (v := 0) dL_law_1992 rfl ?_
        exact s_zret (pc := 1993) dL_law_1993 rfl rfl
    · refine s_goto (pc := 1994) 2321 dL_law_1994 rfl ?_
      refine s_sub [2, 3, 4, 5, 6] rfl ?_
      refine s_budget (k2 := (kr + 0)) (n2 := (6 * kr + 0)) (by omega) (by omega) ?_
      exact Lw_law_2321_sem hG kr r23 hr23 v4 x1961.2
  · refine s_iconst (pc := 1975) (v := 0) dL_law_1975 rfl ?_
    exact s_zret (pc := 1976) dL_law_1976 rfl rfl
def Lw_law_1997 (L : Nat) (xs : Nat → Int32) (r23 : Int32 → PH → Option (Int32 × PH)) (v4 : Int32) (P : PH) : Option (Int32 × PH) :=
  gdI (v4 + (1 : Int32)) L <|
  (Lw_unlike (xs (v4 + (1 : Int32)).toNatClampNeg) P).bind fun (x2005 : Int32 × PH) =>
  gdI (v4 + (1 : Int32)) L <|
  (Mo_unlike (xs (v4 + (1 : Int32)).toNatClampNeg) x2005.2).bind fun (x2017 : Int32 × PH) =>
  (Mo_thrown x2017.2).bind fun (x2023 : Int32) =>
  if x2023 = x2005.1 then
    if x2005.1 = 0 then
      gdI (0 : Int32) 1 <|
      if (lg_cmp (x2017.2.2 2 (0 : Int32).toNatClampNeg) ((x2017.1).toInt64)) = 0 then
        Lw_law_2321 L xs r23 v4 x2017.2
      else
        gdP ((0 : Int32) = 0 ∨ (0 : Int32) = 1) <|
        some ((0 : Int32), x2017.2)
    else
      Lw_law_2321 L xs r23 v4 x2017.2
  else
    gdP ((0 : Int32) = 0 ∨ (0 : Int32) = 1) <|
    some ((0 : Int32), x2017.2)
set_option maxRecDepth 100000 in
set_option maxHeartbeats 4000000 in
theorem Lw_law_1997_sem {G : GT} {l : Launch} (hG : GOK G l) (kr : Nat) (r23 : Int32 → PH → Option (Int32 × PH)) (hr23 : ∀ (v4 : Int32) (P : PH), Sem G l miL_law kr (6 * kr) (rn tIH) 23 [(0, .ref (gB G)), (1, .ref (gA G 0)), (2, .ref (gA G 1)), (3, .ref (gA G 2)), (4, .int v4)] [] P (r23 v4 P)) (v4 : Int32) (P : PH) : Sem G l miL_law (kr + 4) (6 * kr + 24) (rn tIH) 1997 [(0, .ref (gB G)), (1, .ref (gA G 0)), (2, .ref (gA G 1)), (3, .ref (gA G 2)), (4, .int v4)] [] P (Lw_law_1997 (gL G) (gX G) r23 v4 P) := by
  unfold Lw_law_1997
  refine s_aload_n (pc := 1997) 1 dL_law_1997 rfl rfl ?_
  refine s_aload_n (pc := 1998) 0 dL_law_1998 rfl rfl ?_
  refine s_iload (pc := 1999) 4 dL_law_1999 rfl ?_
  refine s_iconst (pc := 2001) (v := 1) dL_law_2001 rfl ?_
  refine s_iadd (pc := 2002) dL_law_2002 ?_
  refine s_sld (pc := 2003) dL_law_2003 ?_
  refine s_aload_n (pc := 2004) 3 dL_law_2004 rfl rfl ?_
  refine s_callSW (k := (kr + 3)) (n := (6 * kr + 18)) (pc := 2005) [.ref (gA G 0), .int ((gX G) (v4 + (1 : Int32)).toNatClampNeg), .ref (gA G 2)] (fun x2005 => .int x2005.1 :: []) (fun x2005 => x2005.2) dL_law_2005 (cW_244 hG) (Nat.le_of_ble_eq_true rfl) rfl (Lw_unlike_ok hG ((gX G) (v4 + (1 : Int32)).toNatClampNeg) P) rfl (fun _ => rfl) (fun _ => rfl) (Nat.le_of_ble_eq_true rfl) (by omega) (by omega) (fun x2005 => ?_)
  refine s_istore (pc := 2008) [(5, .int (x2005.1)), (0, .ref (gB G)), (1, .ref (gA G 0)), (2, .ref (gA G 1)), (3, .ref (gA G 2)), (4, .int v4)] dL_law_2008 (Nat.le_of_ble_eq_true rfl) rfl ?_
  refine s_aload_n (pc := 2010) 3 dL_law_2010 rfl rfl ?_
  refine s_aload_n (pc := 2011) 1 dL_law_2011 rfl rfl ?_
  refine s_iload (pc := 2012) 5 dL_law_2012 rfl ?_
  refine s_iconst (pc := 2014) (v := 1) dL_law_2014 rfl ?_
  refine s_iadd (pc := 2015) dL_law_2015 ?_
  refine s_sld (pc := 2016) dL_law_2016 ?_
  refine s_callV (k := (kr + 3)) (n := (6 * kr + 18)) (pc := 2017) [.int ((gX G) (v4 + (1 : Int32)).toNatClampNeg)] (fun x2017 => .int (x2017.1) :: []) (fun x2017 => x2017.2) dL_law_2017 (cV_L_246 hG) (Nat.le_of_ble_eq_true rfl) rfl kd_1 (Mo_unlike_ok hG ((gX G) (v4 + (1 : Int32)).toNatClampNeg) x2005.2) rfl (fun _ => rfl) (fun _ => rfl) (Nat.le_of_ble_eq_true rfl) (by omega) (by omega) (fun x2017 => ?_)
  refine s_istore (pc := 2020) [(6, .int (x2017.1)), (5, .int (x2005.1)), (0, .ref (gB G)), (1, .ref (gA G 0)), (2, .ref (gA G 1)), (3, .ref (gA G 2)), (4, .int v4)] dL_law_2020 (Nat.le_of_ble_eq_true rfl) rfl ?_
  refine s_aload_n (pc := 2022) 4 dL_law_2022 rfl rfl ?_
  refine s_callV (k := (kr + 3)) (n := (6 * kr + 18)) (pc := 2023) [] (fun x2023 => .int x2023 :: []) (fun _ => x2017.2) dL_law_2023 (cV_L_137 hG) (Nat.le_of_ble_eq_true rfl) rfl kd_1 (Mo_thrown_ok hG x2017.2) rfl (fun _ => rfl) (fun _ => rfl) (Nat.le_of_ble_eq_true rfl) (by omega) (by omega) (fun x2023 => ?_)
  refine s_iload (pc := 2026) 1 dL_law_2026 rfl ?_
  refine s_icmp_eq (pc := 2028) 2033 dL_law_2028 rfl ?_ ?_
  · refine s_iload (pc := 2033) 1 dL_law_2033 rfl ?_
    refine s_if_ne (pc := 2035) 2050 dL_law_2035 rfl ?_ ?_
    · refine s_aload_n (pc := 2038) 5 dL_law_2038 rfl rfl ?_
      refine s_iconst (pc := 2039) (v := 0) dL_law_2039 rfl ?_
      refine s_lald (pc := 2040) 1 dL_law_2040 kd_2 ln_2 ?_
      refine s_iload (pc := 2041) 0 dL_law_2041 rfl ?_
      refine s_i2l (pc := 2043) dL_law_2043 ?_
      refine s_lcmp (pc := 2044) dL_law_2044 ?_
      refine s_if_eq (pc := 2045) 2050 dL_law_2045 rfl ?_ ?_
      · refine s_goto (pc := 2050) 2321 dL_law_2050 rfl ?_
        refine s_sub [2, 3, 4, 5, 6] rfl ?_
        refine s_budget (k2 := (kr + 0)) (n2 := (6 * kr + 0)) (by omega) (by omega) ?_
        exact Lw_law_2321_sem hG kr r23 hr23 v4 x2017.2
      · refine s_iconst (pc := 2048) (v := 0) dL_law_2048 rfl ?_
        exact s_zret (pc := 2049) dL_law_2049 rfl rfl
    · refine s_goto (pc := 2050) 2321 dL_law_2050 rfl ?_
      refine s_sub [2, 3, 4, 5, 6] rfl ?_
      refine s_budget (k2 := (kr + 0)) (n2 := (6 * kr + 0)) (by omega) (by omega) ?_
      exact Lw_law_2321_sem hG kr r23 hr23 v4 x2017.2
  · refine s_iconst (pc := 2031) (v := 0) dL_law_2031 rfl ?_
    exact s_zret (pc := 2032) dL_law_2032 rfl rfl
def Lw_law_2053 (L : Nat) (xs : Nat → Int32) (r23 : Int32 → PH → Option (Int32 × PH)) (v4 : Int32) (P : PH) : Option (Int32 × PH) :=
  gdI (v4 + (1 : Int32)) L <|
  gdI (v4 + (2 : Int32)) L <|
  gdI (v4 + (3 : Int32)) L <|
  (Lw_tray (xs (v4 + (1 : Int32)).toNatClampNeg) (xs (v4 + (2 : Int32)).toNatClampNeg) (xs (v4 + (3 : Int32)).toNatClampNeg) P).bind fun (x2072 : Int32 × PH) =>
  gdI (v4 + (1 : Int32)) L <|
  gdI (v4 + (2 : Int32)) L <|
  gdI (v4 + (3 : Int32)) L <|
  (Mo_tray (xs (v4 + (1 : Int32)).toNatClampNeg) (xs (v4 + (2 : Int32)).toNatClampNeg) (xs (v4 + (3 : Int32)).toNatClampNeg) x2072.2).bind fun (x2096 : PH) =>
  (Mo_thrown x2096).bind fun (x2100 : Int32) =>
  if x2100 = x2072.1 then
    Lw_law_2321 L xs r23 v4 x2096
  else
    gdP ((0 : Int32) = 0 ∨ (0 : Int32) = 1) <|
    some ((0 : Int32), x2096)
set_option maxRecDepth 100000 in
set_option maxHeartbeats 4000000 in
theorem Lw_law_2053_sem {G : GT} {l : Launch} (hG : GOK G l) (kr : Nat) (r23 : Int32 → PH → Option (Int32 × PH)) (hr23 : ∀ (v4 : Int32) (P : PH), Sem G l miL_law kr (6 * kr) (rn tIH) 23 [(0, .ref (gB G)), (1, .ref (gA G 0)), (2, .ref (gA G 1)), (3, .ref (gA G 2)), (4, .int v4)] [] P (r23 v4 P)) (v4 : Int32) (P : PH) : Sem G l miL_law (kr + 4) (6 * kr + 24) (rn tIH) 2053 [(0, .ref (gB G)), (1, .ref (gA G 0)), (2, .ref (gA G 1)), (3, .ref (gA G 2)), (4, .int v4)] [] P (Lw_law_2053 (gL G) (gX G) r23 v4 P) := by
  unfold Lw_law_2053
  refine s_aload_n (pc := 2053) 1 dL_law_2053 rfl rfl ?_
  refine s_aload_n (pc := 2054) 0 dL_law_2054 rfl rfl ?_
  refine s_iload (pc := 2055) 4 dL_law_2055 rfl ?_
  refine s_iconst (pc := 2057) (v := 1) dL_law_2057 rfl ?_
  refine s_iadd (pc := 2058) dL_law_2058 ?_
  refine s_sld (pc := 2059) dL_law_2059 ?_
  refine s_aload_n (pc := 2060) 0 dL_law_2060 rfl rfl ?_
  refine s_iload (pc := 2061) 4 dL_law_2061 rfl ?_
  refine s_iconst (pc := 2063) (v := 2) dL_law_2063 rfl ?_
  refine s_iadd (pc := 2064) dL_law_2064 ?_
  refine s_sld (pc := 2065) dL_law_2065 ?_
  refine s_aload_n (pc := 2066) 0 dL_law_2066 rfl rfl ?_
  refine s_iload (pc := 2067) 4 dL_law_2067 rfl ?_
  refine s_iconst (pc := 2069) (v := 3) dL_law_2069 rfl ?_
  refine s_iadd (pc := 2070) dL_law_2070 ?_
  refine s_sld (pc := 2071) dL_law_2071 ?_
  refine s_callSW (k := (kr + 2)) (n := (6 * kr + 12)) (pc := 2072) [.ref (gA G 0), .int ((gX G) (v4 + (1 : Int32)).toNatClampNeg), .int ((gX G) (v4 + (2 : Int32)).toNatClampNeg), .int ((gX G) (v4 + (3 : Int32)).toNatClampNeg)] (fun x2072 => .int x2072.1 :: []) (fun x2072 => x2072.2) dL_law_2072 (cW_247 hG) (Nat.le_of_ble_eq_true rfl) rfl (Lw_tray_ok hG ((gX G) (v4 + (1 : Int32)).toNatClampNeg) ((gX G) (v4 + (2 : Int32)).toNatClampNeg) ((gX G) (v4 + (3 : Int32)).toNatClampNeg) P) rfl (fun _ => rfl) (fun _ => rfl) (Nat.le_of_ble_eq_true rfl) (by omega) (by omega) (fun x2072 => ?_)
  refine s_istore (pc := 2075) [(5, .int (x2072.1)), (0, .ref (gB G)), (1, .ref (gA G 0)), (2, .ref (gA G 1)), (3, .ref (gA G 2)), (4, .int v4)] dL_law_2075 (Nat.le_of_ble_eq_true rfl) rfl ?_
  refine s_aload_n (pc := 2077) 3 dL_law_2077 rfl rfl ?_
  refine s_aload_n (pc := 2078) 1 dL_law_2078 rfl rfl ?_
  refine s_iload (pc := 2079) 5 dL_law_2079 rfl ?_
  refine s_iconst (pc := 2081) (v := 1) dL_law_2081 rfl ?_
  refine s_iadd (pc := 2082) dL_law_2082 ?_
  refine s_sld (pc := 2083) dL_law_2083 ?_
  refine s_aload_n (pc := 2084) 1 dL_law_2084 rfl rfl ?_
  refine s_iload (pc := 2085) 5 dL_law_2085 rfl ?_
  refine s_iconst (pc := 2087) (v := 2) dL_law_2087 rfl ?_
  refine s_iadd (pc := 2088) dL_law_2088 ?_
  refine s_sld (pc := 2089) dL_law_2089 ?_
  refine s_aload_n (pc := 2090) 1 dL_law_2090 rfl rfl ?_
  refine s_iload (pc := 2091) 5 dL_law_2091 rfl ?_
  refine s_iconst (pc := 2093) (v := 3) dL_law_2093 rfl ?_
  refine s_iadd (pc := 2094) dL_law_2094 ?_
  refine s_sld (pc := 2095) dL_law_2095 ?_
  refine s_callV (k := (kr + 2)) (n := (6 * kr + 12)) (pc := 2096) [.int ((gX G) (v4 + (1 : Int32)).toNatClampNeg), .int ((gX G) (v4 + (2 : Int32)).toNatClampNeg), .int ((gX G) (v4 + (3 : Int32)).toNatClampNeg)] (fun _ => []) (fun x2096 => x2096) dL_law_2096 (cV_L_250 hG) (Nat.le_of_ble_eq_true rfl) rfl kd_1 (Mo_tray_ok hG ((gX G) (v4 + (1 : Int32)).toNatClampNeg) ((gX G) (v4 + (2 : Int32)).toNatClampNeg) ((gX G) (v4 + (3 : Int32)).toNatClampNeg) x2072.2) rfl (fun _ => rfl) (fun _ => rfl) (Nat.le_of_ble_eq_true rfl) (by omega) (by omega) (fun x2096 => ?_)
  refine s_aload_n (pc := 2099) 3 dL_law_2099 rfl rfl ?_
  refine s_callV (k := (kr + 2)) (n := (6 * kr + 12)) (pc := 2100) [] (fun x2100 => .int x2100 :: []) (fun _ => x2096) dL_law_2100 (cV_L_137 hG) (Nat.le_of_ble_eq_true rfl) rfl kd_1 (Mo_thrown_ok hG x2096) rfl (fun _ => rfl) (fun _ => rfl) (Nat.le_of_ble_eq_true rfl) (by omega) (by omega) (fun x2100 => ?_)
  refine s_iload (pc := 2103) 0 dL_law_2103 rfl ?_
  refine s_icmp_eq (pc := 2105) 2110 dL_law_2105 rfl ?_ ?_
  · refine s_goto (pc := 2110) 2321 dL_law_2110 rfl ?_
    refine s_sub [1, 2, 3, 4, 5] rfl ?_
    refine s_budget (k2 := (kr + 0)) (n2 := (6 * kr + 0)) (by omega) (by omega) ?_
    exact Lw_law_2321_sem hG kr r23 hr23 v4 x2096
  · refine s_iconst (pc := 2108) (v := 0) dL_law_2108 rfl ?_
    exact s_zret (pc := 2109) dL_law_2109 rfl rfl
def Lw_law_2113 (L : Nat) (xs : Nat → Int32) (r23 : Int32 → PH → Option (Int32 × PH)) (v4 : Int32) (P : PH) : Option (Int32 × PH) :=
  gdI (v4 + (1 : Int32)) L <|
  gdI (v4 + (2 : Int32)) L <|
  gdI (v4 + (3 : Int32)) L <|
  gdI (v4 + (4 : Int32)) L <|
  (Lw_write (xs (v4 + (1 : Int32)).toNatClampNeg) (xs (v4 + (2 : Int32)).toNatClampNeg) ((((xs (v4 + (3 : Int32)).toNatClampNeg).toInt64) <<< ((32 : Int32).toInt64 &&& 63)) ||| (((xs (v4 + (4 : Int32)).toNatClampNeg).toInt64) &&& (4294967295 : Int64))) P).bind fun (x2149 : Int32 × PH) =>
  gdI (v4 + (1 : Int32)) L <|
  gdI (v4 + (2 : Int32)) L <|
  gdI (v4 + (3 : Int32)) L <|
  gdI (v4 + (4 : Int32)) L <|
  (Mo_write (xs (v4 + (1 : Int32)).toNatClampNeg) (xs (v4 + (2 : Int32)).toNatClampNeg) ((((xs (v4 + (3 : Int32)).toNatClampNeg).toInt64) <<< ((32 : Int32).toInt64 &&& 63)) ||| (((xs (v4 + (4 : Int32)).toNatClampNeg).toInt64) &&& (4294967295 : Int64))) x2149.2).bind fun (x2189 : Int64 × PH) =>
  (Mo_thrown x2189.2).bind fun (x2195 : Int32) =>
  if x2195 = x2149.1 then
    if x2149.1 = 0 then
      gdI (0 : Int32) 1 <|
      if (lg_cmp (x2189.2.2 2 (0 : Int32).toNatClampNeg) (x2189.1)) = 0 then
        Lw_law_2321 L xs r23 v4 x2189.2
      else
        gdP ((0 : Int32) = 0 ∨ (0 : Int32) = 1) <|
        some ((0 : Int32), x2189.2)
    else
      Lw_law_2321 L xs r23 v4 x2189.2
  else
    gdP ((0 : Int32) = 0 ∨ (0 : Int32) = 1) <|
    some ((0 : Int32), x2189.2)
set_option maxRecDepth 100000 in
set_option maxHeartbeats 4000000 in
theorem Lw_law_2113_sem {G : GT} {l : Launch} (hG : GOK G l) (kr : Nat) (r23 : Int32 → PH → Option (Int32 × PH)) (hr23 : ∀ (v4 : Int32) (P : PH), Sem G l miL_law kr (6 * kr) (rn tIH) 23 [(0, .ref (gB G)), (1, .ref (gA G 0)), (2, .ref (gA G 1)), (3, .ref (gA G 2)), (4, .int v4)] [] P (r23 v4 P)) (v4 : Int32) (P : PH) : Sem G l miL_law (kr + 4) (6 * kr + 24) (rn tIH) 2113 [(0, .ref (gB G)), (1, .ref (gA G 0)), (2, .ref (gA G 1)), (3, .ref (gA G 2)), (4, .int v4)] [] P (Lw_law_2113 (gL G) (gX G) r23 v4 P) := by
  unfold Lw_law_2113
  refine s_aload_n (pc := 2113) 1 dL_law_2113 rfl rfl ?_
  refine s_aload_n (pc := 2114) 0 dL_law_2114 rfl rfl ?_
  refine s_iload (pc := 2115) 4 dL_law_2115 rfl ?_
  refine s_iconst (pc := 2117) (v := 1) dL_law_2117 rfl ?_
  refine s_iadd (pc := 2118) dL_law_2118 ?_
  refine s_sld (pc := 2119) dL_law_2119 ?_
  refine s_aload_n (pc := 2120) 0 dL_law_2120 rfl rfl ?_
  refine s_iload (pc := 2121) 4 dL_law_2121 rfl ?_
  refine s_iconst (pc := 2123) (v := 2) dL_law_2123 rfl ?_
  refine s_iadd (pc := 2124) dL_law_2124 ?_
  refine s_sld (pc := 2125) dL_law_2125 ?_
  refine s_aload_n (pc := 2126) 0 dL_law_2126 rfl rfl ?_
  refine s_iload (pc := 2127) 4 dL_law_2127 rfl ?_
  refine s_iconst (pc := 2129) (v := 3) dL_law_2129 rfl ?_
  refine s_iadd (pc := 2130) dL_law_2130 ?_
  refine s_sld (pc := 2131) dL_law_2131 ?_
  refine s_i2l (pc := 2132) dL_law_2132 ?_
  refine s_bipush (pc := 2133) (v := 32) dL_law_2133 rfl ?_
  refine s_lshl (pc := 2135) dL_law_2135 ?_
  refine s_aload_n (pc := 2136) 0 dL_law_2136 rfl rfl ?_
  refine s_iload (pc := 2137) 4 dL_law_2137 rfl ?_
  refine s_iconst (pc := 2139) (v := 4) dL_law_2139 rfl ?_
  refine s_iadd (pc := 2140) dL_law_2140 ?_
  refine s_sld (pc := 2141) dL_law_2141 ?_
  refine s_i2l (pc := 2142) dL_law_2142 ?_
  refine s_ldc2 (pc := 2143) (v := 4294967295) dL_law_2143 (gw_L_251 hG) ?_
  refine s_land (pc := 2146) dL_law_2146 ?_
  refine s_lor (pc := 2147) dL_law_2147 ?_
  refine s_aload_n (pc := 2148) 3 dL_law_2148 rfl rfl ?_
  refine s_callSW (k := (kr + 1)) (n := (6 * kr + 6)) (pc := 2149) [.ref (gA G 0), .int ((gX G) (v4 + (1 : Int32)).toNatClampNeg), .int ((gX G) (v4 + (2 : Int32)).toNatClampNeg), .long (((((gX G) (v4 + (3 : Int32)).toNatClampNeg).toInt64) <<< ((32 : Int32).toInt64 &&& 63)) ||| ((((gX G) (v4 + (4 : Int32)).toNatClampNeg).toInt64) &&& (4294967295 : Int64))), .ref (gA G 2)] (fun x2149 => .int x2149.1 :: []) (fun x2149 => x2149.2) dL_law_2149 (cW_253 hG) (Nat.le_of_ble_eq_true rfl) rfl (Lw_write_ok hG ((gX G) (v4 + (1 : Int32)).toNatClampNeg) ((gX G) (v4 + (2 : Int32)).toNatClampNeg) (((((gX G) (v4 + (3 : Int32)).toNatClampNeg).toInt64) <<< ((32 : Int32).toInt64 &&& 63)) ||| ((((gX G) (v4 + (4 : Int32)).toNatClampNeg).toInt64) &&& (4294967295 : Int64))) P) rfl (fun _ => rfl) (fun _ => rfl) (Nat.le_of_ble_eq_true rfl) (by omega) (by omega) (fun x2149 => ?_)
  refine s_istore (pc := 2152) [(5, .int (x2149.1)), (0, .ref (gB G)), (1, .ref (gA G 0)), (2, .ref (gA G 1)), (3, .ref (gA G 2)), (4, .int v4)] dL_law_2152 (Nat.le_of_ble_eq_true rfl) rfl ?_
  refine s_aload_n (pc := 2154) 3 dL_law_2154 rfl rfl ?_
  refine s_aload_n (pc := 2155) 1 dL_law_2155 rfl rfl ?_
  refine s_iload (pc := 2156) 5 dL_law_2156 rfl ?_
  refine s_iconst (pc := 2158) (v := 1) dL_law_2158 rfl ?_
  refine s_iadd (pc := 2159) dL_law_2159 ?_
  refine s_sld (pc := 2160) dL_law_2160 ?_
  refine s_aload_n (pc := 2161) 1 dL_law_2161 rfl rfl ?_
  refine s_iload (pc := 2162) 5 dL_law_2162 rfl ?_
  refine s_iconst (pc := 2164) (v := 2) dL_law_2164 rfl ?_
  refine s_iadd (pc := 2165) dL_law_2165 ?_
  refine s_sld (pc := 2166) dL_law_2166 ?_
  refine s_aload_n (pc := 2167) 1 dL_law_2167 rfl rfl ?_
  refine s_iload (pc := 2168) 5 dL_law_2168 rfl ?_
  refine s_iconst (pc := 2170) (v := 3) dL_law_2170 rfl ?_
  refine s_iadd (pc := 2171) dL_law_2171 ?_
  refine s_sld (pc := 2172) dL_law_2172 ?_
  refine s_i2l (pc := 2173) dL_law_2173 ?_
  refine s_bipush (pc := 2174) (v := 32) dL_law_2174 rfl ?_
  refine s_lshl (pc := 2176) dL_law_2176 ?_
  refine s_aload_n (pc := 2177) 1 dL_law_2177 rfl rfl ?_
  refine s_iload (pc := 2178) 5 dL_law_2178 rfl ?_
  refine s_iconst (pc := 2180) (v := 4) dL_law_2180 rfl ?_
  refine s_iadd (pc := 2181) dL_law_2181 ?_
  refine s_sld (pc := 2182) dL_law_2182 ?_
  refine s_i2l (pc := 2183) dL_law_2183 ?_
  refine s_ldc2 (pc := 2184) (v := 4294967295) dL_law_2184 (gw_L_251 hG) ?_
  refine s_land (pc := 2187) dL_law_2187 ?_
  refine s_lor (pc := 2188) dL_law_2188 ?_
  refine s_callV (k := (kr + 1)) (n := (6 * kr + 6)) (pc := 2189) [.int ((gX G) (v4 + (1 : Int32)).toNatClampNeg), .int ((gX G) (v4 + (2 : Int32)).toNatClampNeg), .long (((((gX G) (v4 + (3 : Int32)).toNatClampNeg).toInt64) <<< ((32 : Int32).toInt64 &&& 63)) ||| ((((gX G) (v4 + (4 : Int32)).toNatClampNeg).toInt64) &&& (4294967295 : Int64)))] (fun x2189 => .long (x2189.1) :: []) (fun x2189 => x2189.2) dL_law_2189 (cV_L_256 hG) (Nat.le_of_ble_eq_true rfl) rfl kd_1 (Mo_write_ok hG ((gX G) (v4 + (1 : Int32)).toNatClampNeg) ((gX G) (v4 + (2 : Int32)).toNatClampNeg) (((((gX G) (v4 + (3 : Int32)).toNatClampNeg).toInt64) <<< ((32 : Int32).toInt64 &&& 63)) ||| ((((gX G) (v4 + (4 : Int32)).toNatClampNeg).toInt64) &&& (4294967295 : Int64))) x2149.2) rfl (fun _ => rfl) (fun _ => rfl) (Nat.le_of_ble_eq_true rfl) (by omega) (by omega) (fun x2189 => ?_)
  refine s_lstore (pc := 2192) [(6, .long (x2189.1)), (5, .int (x2149.1)), (0, .ref (gB G)), (1, .ref (gA G 0)), (2, .ref (gA G 1)), (3, .ref (gA G 2)), (4, .int v4)] dL_law_2192 (Nat.le_of_ble_eq_true rfl) rfl ?_
  refine s_aload_n (pc := 2194) 4 dL_law_2194 rfl rfl ?_
  refine s_callV (k := (kr + 1)) (n := (6 * kr + 6)) (pc := 2195) [] (fun x2195 => .int x2195 :: []) (fun _ => x2189.2) dL_law_2195 (cV_L_137 hG) (Nat.le_of_ble_eq_true rfl) rfl kd_1 (Mo_thrown_ok hG x2189.2) rfl (fun _ => rfl) (fun _ => rfl) (Nat.le_of_ble_eq_true rfl) (by omega) (by omega) (fun x2195 => ?_)
  refine s_iload (pc := 2198) 1 dL_law_2198 rfl ?_
  refine s_icmp_eq (pc := 2200) 2205 dL_law_2200 rfl ?_ ?_
  · refine s_iload (pc := 2205) 1 dL_law_2205 rfl ?_
    refine s_if_ne (pc := 2207) 2221 dL_law_2207 rfl ?_ ?_
    · refine s_aload_n (pc := 2210) 5 dL_law_2210 rfl rfl ?_
      refine s_iconst (pc := 2211) (v := 0) dL_law_2211 rfl ?_
      refine s_lald (pc := 2212) 1 dL_law_2212 kd_2 ln_2 ?_
      refine s_lload (pc := 2213) 0 dL_law_2213 rfl ?_
      refine s_lcmp (pc := 2215) dL_law_2215 ?_
      refine s_if_eq (pc := 2216) 2221 dL_law_2216 rfl ?_ ?_
      · refine s_goto (pc := 2221) 2321 dL_law_2221 rfl ?_
        refine s_sub [2, 3, 4, 5, 6] rfl ?_
        refine s_budget (k2 := (kr + 0)) (n2 := (6 * kr + 0)) (by omega) (by omega) ?_
        exact Lw_law_2321_sem hG kr r23 hr23 v4 x2189.2
      · refine s_iconst (pc := 2219) (v := 0) dL_law_2219 rfl ?_
        exact s_zret (pc := 2220) dL_law_2220 rfl rfl
    · refine s_goto (pc := 2221) 2321 dL_law_2221 rfl ?_
      refine s_sub [2, 3, 4, 5, 6] rfl ?_
      refine s_budget (k2 := (kr + 0)) (n2 := (6 * kr + 0)) (by omega) (by omega) ?_
      exact Lw_law_2321_sem hG kr r23 hr23 v4 x2189.2
  · refine s_iconst (pc := 2203) (v := 0) dL_law_2203 rfl ?_
    exact s_zret (pc := 2204) dL_law_2204 rfl rfl
def Lw_law_2224 (L : Nat) (xs : Nat → Int32) (r23 : Int32 → PH → Option (Int32 × PH)) (v4 : Int32) (P : PH) : Option (Int32 × PH) :=
  gdI (v4 + (1 : Int32)) L <|
  (Lw_image (xs (v4 + (1 : Int32)).toNatClampNeg) P).bind fun (x2231 : Int32 × PH) =>
  gdI (v4 + (1 : Int32)) L <|
  (Mo_image (xs (v4 + (1 : Int32)).toNatClampNeg) x2231.2).bind fun (x2243 : PH) =>
  (Mo_thrown x2243).bind fun (x2247 : Int32) =>
  if x2247 = x2231.1 then
    Lw_law_2321 L xs r23 v4 x2243
  else
    gdP ((0 : Int32) = 0 ∨ (0 : Int32) = 1) <|
    some ((0 : Int32), x2243)
set_option maxRecDepth 100000 in
set_option maxHeartbeats 4000000 in
theorem Lw_law_2224_sem {G : GT} {l : Launch} (hG : GOK G l) (kr : Nat) (r23 : Int32 → PH → Option (Int32 × PH)) (hr23 : ∀ (v4 : Int32) (P : PH), Sem G l miL_law kr (6 * kr) (rn tIH) 23 [(0, .ref (gB G)), (1, .ref (gA G 0)), (2, .ref (gA G 1)), (3, .ref (gA G 2)), (4, .int v4)] [] P (r23 v4 P)) (v4 : Int32) (P : PH) : Sem G l miL_law (kr + 4) (6 * kr + 24) (rn tIH) 2224 [(0, .ref (gB G)), (1, .ref (gA G 0)), (2, .ref (gA G 1)), (3, .ref (gA G 2)), (4, .int v4)] [] P (Lw_law_2224 (gL G) (gX G) r23 v4 P) := by
  unfold Lw_law_2224
  refine s_aload_n (pc := 2224) 1 dL_law_2224 rfl rfl ?_
  refine s_aload_n (pc := 2225) 0 dL_law_2225 rfl rfl ?_
  refine s_iload (pc := 2226) 4 dL_law_2226 rfl ?_
  refine s_iconst (pc := 2228) (v := 1) dL_law_2228 rfl ?_
  refine s_iadd (pc := 2229) dL_law_2229 ?_
  refine s_sld (pc := 2230) dL_law_2230 ?_
  refine s_callSW (k := (kr + 3)) (n := (6 * kr + 18)) (pc := 2231) [.ref (gA G 0), .int ((gX G) (v4 + (1 : Int32)).toNatClampNeg)] (fun x2231 => .int x2231.1 :: []) (fun x2231 => x2231.2) dL_law_2231 (cW_257 hG) (Nat.le_of_ble_eq_true rfl) rfl (Lw_image_ok hG ((gX G) (v4 + (1 : Int32)).toNatClampNeg) P) rfl (fun _ => rfl) (fun _ => rfl) (Nat.le_of_ble_eq_true rfl) (by omega) (by omega) (fun x2231 => ?_)
  refine s_istore (pc := 2234) [(5, .int (x2231.1)), (0, .ref (gB G)), (1, .ref (gA G 0)), (2, .ref (gA G 1)), (3, .ref (gA G 2)), (4, .int v4)] dL_law_2234 (Nat.le_of_ble_eq_true rfl) rfl ?_
  refine s_aload_n (pc := 2236) 3 dL_law_2236 rfl rfl ?_
  refine s_aload_n (pc := 2237) 1 dL_law_2237 rfl rfl ?_
  refine s_iload (pc := 2238) 5 dL_law_2238 rfl ?_
  refine s_iconst (pc := 2240) (v := 1) dL_law_2240 rfl ?_
  refine s_iadd (pc := 2241) dL_law_2241 ?_
  refine s_sld (pc := 2242) dL_law_2242 ?_
  refine s_callV (k := (kr + 3)) (n := (6 * kr + 18)) (pc := 2243) [.int ((gX G) (v4 + (1 : Int32)).toNatClampNeg)] (fun _ => []) (fun x2243 => x2243) dL_law_2243 (cV_L_260 hG) (Nat.le_of_ble_eq_true rfl) rfl kd_1 (Mo_image_ok hG ((gX G) (v4 + (1 : Int32)).toNatClampNeg) x2231.2) rfl (fun _ => rfl) (fun _ => rfl) (Nat.le_of_ble_eq_true rfl) (by omega) (by omega) (fun x2243 => ?_)
  refine s_aload_n (pc := 2246) 3 dL_law_2246 rfl rfl ?_
  refine s_callV (k := (kr + 3)) (n := (6 * kr + 18)) (pc := 2247) [] (fun x2247 => .int x2247 :: []) (fun _ => x2243) dL_law_2247 (cV_L_137 hG) (Nat.le_of_ble_eq_true rfl) rfl kd_1 (Mo_thrown_ok hG x2243) rfl (fun _ => rfl) (fun _ => rfl) (Nat.le_of_ble_eq_true rfl) (by omega) (by omega) (fun x2247 => ?_)
  refine s_iload (pc := 2250) 0 dL_law_2250 rfl ?_
  refine s_icmp_eq (pc := 2252) 2257 dL_law_2252 rfl ?_ ?_
  · refine s_goto (pc := 2257) 2321 dL_law_2257 rfl ?_
    refine s_sub [1, 2, 3, 4, 5] rfl ?_
    refine s_budget (k2 := (kr + 0)) (n2 := (6 * kr + 0)) (by omega) (by omega) ?_
    exact Lw_law_2321_sem hG kr r23 hr23 v4 x2243
  · refine s_iconst (pc := 2255) (v := 0) dL_law_2255 rfl ?_
    exact s_zret (pc := 2256) dL_law_2256 rfl rfl
def Lw_law_2260 (L : Nat) (xs : Nat → Int32) (r23 : Int32 → PH → Option (Int32 × PH)) (v4 : Int32) (P : PH) : Option (Int32 × PH) :=
  gdI (v4 + (1 : Int32)) L <|
  (Lw_restore (xs (v4 + (1 : Int32)).toNatClampNeg) P).bind fun (x2267 : Int32 × PH) =>
  gdI (v4 + (1 : Int32)) L <|
  (Mo_restore (xs (v4 + (1 : Int32)).toNatClampNeg) x2267.2).bind fun (x2279 : PH) =>
  (Mo_thrown x2279).bind fun (x2283 : Int32) =>
  if x2283 = x2267.1 then
    Lw_law_2321 L xs r23 v4 x2279
  else
    gdP ((0 : Int32) = 0 ∨ (0 : Int32) = 1) <|
    some ((0 : Int32), x2279)
set_option maxRecDepth 100000 in
set_option maxHeartbeats 4000000 in
theorem Lw_law_2260_sem {G : GT} {l : Launch} (hG : GOK G l) (kr : Nat) (r23 : Int32 → PH → Option (Int32 × PH)) (hr23 : ∀ (v4 : Int32) (P : PH), Sem G l miL_law kr (6 * kr) (rn tIH) 23 [(0, .ref (gB G)), (1, .ref (gA G 0)), (2, .ref (gA G 1)), (3, .ref (gA G 2)), (4, .int v4)] [] P (r23 v4 P)) (v4 : Int32) (P : PH) : Sem G l miL_law (kr + 4) (6 * kr + 24) (rn tIH) 2260 [(0, .ref (gB G)), (1, .ref (gA G 0)), (2, .ref (gA G 1)), (3, .ref (gA G 2)), (4, .int v4)] [] P (Lw_law_2260 (gL G) (gX G) r23 v4 P) := by
  unfold Lw_law_2260
  refine s_aload_n (pc := 2260) 1 dL_law_2260 rfl rfl ?_
  refine s_aload_n (pc := 2261) 0 dL_law_2261 rfl rfl ?_
  refine s_iload (pc := 2262) 4 dL_law_2262 rfl ?_
  refine s_iconst (pc := 2264) (v := 1) dL_law_2264 rfl ?_
  refine s_iadd (pc := 2265) dL_law_2265 ?_
  refine s_sld (pc := 2266) dL_law_2266 ?_
  refine s_callSW (k := (kr + 2)) (n := (6 * kr + 12)) (pc := 2267) [.ref (gA G 0), .int ((gX G) (v4 + (1 : Int32)).toNatClampNeg)] (fun x2267 => .int x2267.1 :: []) (fun x2267 => x2267.2) dL_law_2267 (cW_261 hG) (Nat.le_of_ble_eq_true rfl) rfl (Lw_restore_ok hG ((gX G) (v4 + (1 : Int32)).toNatClampNeg) P) rfl (fun _ => rfl) (fun _ => rfl) (Nat.le_of_ble_eq_true rfl) (by omega) (by omega) (fun x2267 => ?_)
  refine s_istore (pc := 2270) [(5, .int (x2267.1)), (0, .ref (gB G)), (1, .ref (gA G 0)), (2, .ref (gA G 1)), (3, .ref (gA G 2)), (4, .int v4)] dL_law_2270 (Nat.le_of_ble_eq_true rfl) rfl ?_
  refine s_aload_n (pc := 2272) 3 dL_law_2272 rfl rfl ?_
  refine s_aload_n (pc := 2273) 1 dL_law_2273 rfl rfl ?_
  refine s_iload (pc := 2274) 5 dL_law_2274 rfl ?_
  refine s_iconst (pc := 2276) (v := 1) dL_law_2276 rfl ?_
  refine s_iadd (pc := 2277) dL_law_2277 ?_
  refine s_sld (pc := 2278) dL_law_2278 ?_
  refine s_callV (k := (kr + 2)) (n := (6 * kr + 12)) (pc := 2279) [.int ((gX G) (v4 + (1 : Int32)).toNatClampNeg)] (fun _ => []) (fun x2279 => x2279) dL_law_2279 (cV_L_263 hG) (Nat.le_of_ble_eq_true rfl) rfl kd_1 (Mo_restore_ok hG ((gX G) (v4 + (1 : Int32)).toNatClampNeg) x2267.2) rfl (fun _ => rfl) (fun _ => rfl) (Nat.le_of_ble_eq_true rfl) (by omega) (by omega) (fun x2279 => ?_)
  refine s_aload_n (pc := 2282) 3 dL_law_2282 rfl rfl ?_
  refine s_callV (k := (kr + 2)) (n := (6 * kr + 12)) (pc := 2283) [] (fun x2283 => .int x2283 :: []) (fun _ => x2279) dL_law_2283 (cV_L_137 hG) (Nat.le_of_ble_eq_true rfl) rfl kd_1 (Mo_thrown_ok hG x2279) rfl (fun _ => rfl) (fun _ => rfl) (Nat.le_of_ble_eq_true rfl) (by omega) (by omega) (fun x2283 => ?_)
  refine s_iload (pc := 2286) 0 dL_law_2286 rfl ?_
  refine s_icmp_eq (pc := 2288) 2293 dL_law_2288 rfl ?_ ?_
  · refine s_goto (pc := 2293) 2321 dL_law_2293 rfl ?_
    refine s_sub [1, 2, 3, 4, 5] rfl ?_
    refine s_budget (k2 := (kr + 0)) (n2 := (6 * kr + 0)) (by omega) (by omega) ?_
    exact Lw_law_2321_sem hG kr r23 hr23 v4 x2279
  · refine s_iconst (pc := 2291) (v := 0) dL_law_2291 rfl ?_
    exact s_zret (pc := 2292) dL_law_2292 rfl rfl
def Lw_law_2296 (L : Nat) (xs : Nat → Int32) (r23 : Int32 → PH → Option (Int32 × PH)) (v4 : Int32) (P : PH) : Option (Int32 × PH) :=
  gdI (v4 + (1 : Int32)) L <|
  (Bs_count (xs (v4 + (1 : Int32)).toNatClampNeg) P).bind fun (x2303 : Int32) =>
  gdI (v4 + (1 : Int32)) L <|
  (Mo_count (xs (v4 + (1 : Int32)).toNatClampNeg) P).bind fun (x2313 : Int32 × PH) =>
  if x2303 = x2313.1 then
    Lw_law_2321 L xs r23 v4 x2313.2
  else
    gdP ((0 : Int32) = 0 ∨ (0 : Int32) = 1) <|
    some ((0 : Int32), x2313.2)
set_option maxRecDepth 100000 in
set_option maxHeartbeats 4000000 in
theorem Lw_law_2296_sem {G : GT} {l : Launch} (hG : GOK G l) (kr : Nat) (r23 : Int32 → PH → Option (Int32 × PH)) (hr23 : ∀ (v4 : Int32) (P : PH), Sem G l miL_law kr (6 * kr) (rn tIH) 23 [(0, .ref (gB G)), (1, .ref (gA G 0)), (2, .ref (gA G 1)), (3, .ref (gA G 2)), (4, .int v4)] [] P (r23 v4 P)) (v4 : Int32) (P : PH) : Sem G l miL_law (kr + 4) (6 * kr + 24) (rn tIH) 2296 [(0, .ref (gB G)), (1, .ref (gA G 0)), (2, .ref (gA G 1)), (3, .ref (gA G 2)), (4, .int v4)] [] P (Lw_law_2296 (gL G) (gX G) r23 v4 P) := by
  unfold Lw_law_2296
  refine s_aload_n (pc := 2296) 1 dL_law_2296 rfl rfl ?_
  refine s_aload_n (pc := 2297) 0 dL_law_2297 rfl rfl ?_
  refine s_iload (pc := 2298) 4 dL_law_2298 rfl ?_
  refine s_iconst (pc := 2300) (v := 1) dL_law_2300 rfl ?_
  refine s_iadd (pc := 2301) dL_law_2301 ?_
  refine s_sld (pc := 2302) dL_law_2302 ?_
  refine s_callV (k := (kr + 4)) (n := (6 * kr + 24)) (pc := 2303) [.int ((gX G) (v4 + (1 : Int32)).toNatClampNeg)] (fun x2303 => .int x2303 :: []) (fun _ => P) dL_law_2303 (cV_L_264 hG) (Nat.le_of_ble_eq_true rfl) rfl kd_0 (Bs_count_ok hG ((gX G) (v4 + (1 : Int32)).toNatClampNeg) P) rfl (fun _ => rfl) (fun _ => rfl) (Nat.le_of_ble_eq_true rfl) (by omega) (by omega) (fun x2303 => ?_)
  refine s_aload_n (pc := 2306) 2 dL_law_2306 rfl rfl ?_
  refine s_aload_n (pc := 2307) 0 dL_law_2307 rfl rfl ?_
  refine s_iload (pc := 2308) 4 dL_law_2308 rfl ?_
  refine s_iconst (pc := 2310) (v := 1) dL_law_2310 rfl ?_
  refine s_iadd (pc := 2311) dL_law_2311 ?_
  refine s_sld (pc := 2312) dL_law_2312 ?_
  refine s_callV (k := (kr + 4)) (n := (6 * kr + 24)) (pc := 2313) [.int ((gX G) (v4 + (1 : Int32)).toNatClampNeg)] (fun x2313 => .int (x2313.1) :: [.int x2303]) (fun x2313 => x2313.2) dL_law_2313 (cV_L_267 hG) (Nat.le_of_ble_eq_true rfl) rfl kd_1 (Mo_count_ok hG ((gX G) (v4 + (1 : Int32)).toNatClampNeg) P) rfl (fun _ => rfl) (fun _ => rfl) (Nat.le_of_ble_eq_true rfl) (by omega) (by omega) (fun x2313 => ?_)
  refine s_icmp_eq (pc := 2316) 2321 dL_law_2316 rfl ?_ ?_
  · refine s_budget (k2 := (kr + 0)) (n2 := (6 * kr + 0)) (by omega) (by omega) ?_
    exact Lw_law_2321_sem hG kr r23 hr23 v4 x2313.2
  · refine s_iconst (pc := 2319) (v := 0) dL_law_2319 rfl ?_
    exact s_zret (pc := 2320) dL_law_2320 rfl rfl
def Lw_law_23 (L : Nat) (xs : Nat → Int32) : Nat → Int32 → PH → Option (Int32 × PH)
  | 0 => fun _ _ => none
  | n + 1 => fun v4 P =>
    if ((nI L) - (6 : Int32)) < v4 then
      gdP ((1 : Int32) = 0 ∨ (1 : Int32) = 1) <|
      some ((1 : Int32), P)
    else
      gdI v4 L <|
      if ((xs v4.toNatClampNeg) &&& (63 : Int32)) = 0 then
        Lw_law_212 L xs (Lw_law_23 L xs n) v4 P
      else
      if ((xs v4.toNatClampNeg) &&& (63 : Int32)) = 1 then
        Lw_law_285 L xs (Lw_law_23 L xs n) v4 P
      else
      if ((xs v4.toNatClampNeg) &&& (63 : Int32)) = 2 then
        Lw_law_341 L xs (Lw_law_23 L xs n) v4 P
      else
      if ((xs v4.toNatClampNeg) &&& (63 : Int32)) = 3 then
        Lw_law_366 L xs (Lw_law_23 L xs n) v4 P
      else
      if ((xs v4.toNatClampNeg) &&& (63 : Int32)) = 4 then
        Lw_law_434 L xs (Lw_law_23 L xs n) v4 P
      else
      if ((xs v4.toNatClampNeg) &&& (63 : Int32)) = 5 then
        Lw_law_502 L xs (Lw_law_23 L xs n) v4 P
      else
      if ((xs v4.toNatClampNeg) &&& (63 : Int32)) = 6 then
        Lw_law_570 L xs (Lw_law_23 L xs n) v4 P
      else
      if ((xs v4.toNatClampNeg) &&& (63 : Int32)) = 7 then
        Lw_law_595 L xs (Lw_law_23 L xs n) v4 P
      else
      if ((xs v4.toNatClampNeg) &&& (63 : Int32)) = 8 then
        Lw_law_651 L xs (Lw_law_23 L xs n) v4 P
      else
      if ((xs v4.toNatClampNeg) &&& (63 : Int32)) = 9 then
        Lw_law_707 L xs (Lw_law_23 L xs n) v4 P
      else
      if ((xs v4.toNatClampNeg) &&& (63 : Int32)) = 10 then
        Lw_law_763 L xs (Lw_law_23 L xs n) v4 P
      else
      if ((xs v4.toNatClampNeg) &&& (63 : Int32)) = 11 then
        Lw_law_804 L xs (Lw_law_23 L xs n) v4 P
      else
      if ((xs v4.toNatClampNeg) &&& (63 : Int32)) = 12 then
        Lw_law_867 L xs (Lw_law_23 L xs n) v4 P
      else
      if ((xs v4.toNatClampNeg) &&& (63 : Int32)) = 13 then
        Lw_law_943 L xs (Lw_law_23 L xs n) v4 P
      else
      if ((xs v4.toNatClampNeg) &&& (63 : Int32)) = 14 then
        Lw_law_987 L xs (Lw_law_23 L xs n) v4 P
      else
      if ((xs v4.toNatClampNeg) &&& (63 : Int32)) = 15 then
        Lw_law_1043 L xs (Lw_law_23 L xs n) v4 P
      else
      if ((xs v4.toNatClampNeg) &&& (63 : Int32)) = 16 then
        Lw_law_1099 L xs (Lw_law_23 L xs n) v4 P
      else
      if ((xs v4.toNatClampNeg) &&& (63 : Int32)) = 17 then
        Lw_law_1155 L xs (Lw_law_23 L xs n) v4 P
      else
      if ((xs v4.toNatClampNeg) &&& (63 : Int32)) = 18 then
        Lw_law_1211 L xs (Lw_law_23 L xs n) v4 P
      else
      if ((xs v4.toNatClampNeg) &&& (63 : Int32)) = 19 then
        Lw_law_1267 L xs (Lw_law_23 L xs n) v4 P
      else
      if ((xs v4.toNatClampNeg) &&& (63 : Int32)) = 20 then
        Lw_law_1335 L xs (Lw_law_23 L xs n) v4 P
      else
      if ((xs v4.toNatClampNeg) &&& (63 : Int32)) = 21 then
        Lw_law_1391 L xs (Lw_law_23 L xs n) v4 P
      else
      if ((xs v4.toNatClampNeg) &&& (63 : Int32)) = 22 then
        Lw_law_1435 L xs (Lw_law_23 L xs n) v4 P
      else
      if ((xs v4.toNatClampNeg) &&& (63 : Int32)) = 23 then
        Lw_law_1491 L xs (Lw_law_23 L xs n) v4 P
      else
      if ((xs v4.toNatClampNeg) &&& (63 : Int32)) = 24 then
        Lw_law_1535 L xs (Lw_law_23 L xs n) v4 P
      else
      if ((xs v4.toNatClampNeg) &&& (63 : Int32)) = 25 then
        Lw_law_1591 L xs (Lw_law_23 L xs n) v4 P
      else
      if ((xs v4.toNatClampNeg) &&& (63 : Int32)) = 26 then
        Lw_law_1635 L xs (Lw_law_23 L xs n) v4 P
      else
      if ((xs v4.toNatClampNeg) &&& (63 : Int32)) = 27 then
        Lw_law_1679 L xs (Lw_law_23 L xs n) v4 P
      else
      if ((xs v4.toNatClampNeg) &&& (63 : Int32)) = 28 then
        Lw_law_1763 L xs (Lw_law_23 L xs n) v4 P
      else
      if ((xs v4.toNatClampNeg) &&& (63 : Int32)) = 29 then
        Lw_law_1819 L xs (Lw_law_23 L xs n) v4 P
      else
      if ((xs v4.toNatClampNeg) &&& (63 : Int32)) = 30 then
        Lw_law_1887 L xs (Lw_law_23 L xs n) v4 P
      else
      if ((xs v4.toNatClampNeg) &&& (63 : Int32)) = 31 then
        Lw_law_1928 L xs (Lw_law_23 L xs n) v4 P
      else
      if ((xs v4.toNatClampNeg) &&& (63 : Int32)) = 32 then
        Lw_law_1941 L xs (Lw_law_23 L xs n) v4 P
      else
      if ((xs v4.toNatClampNeg) &&& (63 : Int32)) = 33 then
        Lw_law_1997 L xs (Lw_law_23 L xs n) v4 P
      else
      if ((xs v4.toNatClampNeg) &&& (63 : Int32)) = 34 then
        Lw_law_2053 L xs (Lw_law_23 L xs n) v4 P
      else
      if ((xs v4.toNatClampNeg) &&& (63 : Int32)) = 35 then
        Lw_law_2113 L xs (Lw_law_23 L xs n) v4 P
      else
      if ((xs v4.toNatClampNeg) &&& (63 : Int32)) = 36 then
        Lw_law_2224 L xs (Lw_law_23 L xs n) v4 P
      else
      if ((xs v4.toNatClampNeg) &&& (63 : Int32)) = 37 then
        Lw_law_2260 L xs (Lw_law_23 L xs n) v4 P
      else
      if ((xs v4.toNatClampNeg) &&& (63 : Int32)) = 38 then
        Lw_law_2296 L xs (Lw_law_23 L xs n) v4 P
      else
        Lw_law_2321 L xs (Lw_law_23 L xs n) v4 P
set_option maxRecDepth 100000 in
set_option maxHeartbeats 4000000 in
theorem Lw_law_23_sem {G : GT} {l : Launch} (hG : GOK G l) : ∀ (n : Nat) (v4 : Int32) (P : PH), Sem G l miL_law (4 * n) (6 * (4 * n)) (rn tIH) 23 [(0, .ref (gB G)), (1, .ref (gA G 0)), (2, .ref (gA G 1)), (3, .ref (gA G 2)), (4, .int v4)] [] P (Lw_law_23 (gL G) (gX G) n v4 P) := by
  intro n
  induction n with
  | zero => intro v4 P; exact s_none rfl
  | succ n ih =>
    intro v4 P
    rw [Lw_law_23]
    refine s_budget (k2 := (4 * n + 4)) (n2 := (6 * (4 * n) + 24)) (by omega) (by omega) ?_
    refine s_iload (pc := 23) 4 dL_law_23 rfl ?_
    refine s_aload_n (pc := 25) 0 dL_law_25 rfl rfl ?_
    refine s_slen (pc := 26) dL_law_26 ?_
    refine s_bipush (pc := 27) (v := 6) dL_law_27 rfl ?_
    refine s_isub (pc := 29) dL_law_29 ?_
    refine s_icmp_gt (pc := 30) 2327 dL_law_30 rfl ?_ ?_
    · refine s_iconst (pc := 2327) (v := 1) dL_law_2327 rfl ?_
      exact s_zret (pc := 2328) dL_law_2328 rfl rfl
    · refine s_aload_n (pc := 33) 0 dL_law_33 rfl rfl ?_
      refine s_iload (pc := 34) 4 dL_law_34 rfl ?_
      refine s_sld (pc := 36) dL_law_36 ?_
      refine s_bipush (pc := 37) (v := 63) dL_law_37 rfl ?_
      refine s_iand (pc := 39) dL_law_39 ?_
      refine s_sw (fun hx0 => ?_) (fun hx0 => ?_)
      · refine s_tin (pc := 40) 212 dL_law_40 (by rw [hx0]; decide) (by rw [hx0]; decide) (by rw [hx0]; rfl) rfl ?_
        exact Lw_law_212_sem hG (4 * n) (Lw_law_23 (gL G) (gX G) n) ih v4 P
      refine s_sw (fun hx1 => ?_) (fun hx1 => ?_)
      · refine s_tin (pc := 40) 285 dL_law_40 (by rw [hx1]; decide) (by rw [hx1]; decide) (by rw [hx1]; rfl) rfl ?_
        exact Lw_law_285_sem hG (4 * n) (Lw_law_23 (gL G) (gX G) n) ih v4 P
      refine s_sw (fun hx2 => ?_) (fun hx2 => ?_)
      · refine s_tin (pc := 40) 341 dL_law_40 (by rw [hx2]; decide) (by rw [hx2]; decide) (by rw [hx2]; rfl) rfl ?_
        exact Lw_law_341_sem hG (4 * n) (Lw_law_23 (gL G) (gX G) n) ih v4 P
      refine s_sw (fun hx3 => ?_) (fun hx3 => ?_)
      · refine s_tin (pc := 40) 366 dL_law_40 (by rw [hx3]; decide) (by rw [hx3]; decide) (by rw [hx3]; rfl) rfl ?_
        exact Lw_law_366_sem hG (4 * n) (Lw_law_23 (gL G) (gX G) n) ih v4 P
      refine s_sw (fun hx4 => ?_) (fun hx4 => ?_)
      · refine s_tin (pc := 40) 434 dL_law_40 (by rw [hx4]; decide) (by rw [hx4]; decide) (by rw [hx4]; rfl) rfl ?_
        exact Lw_law_434_sem hG (4 * n) (Lw_law_23 (gL G) (gX G) n) ih v4 P
      refine s_sw (fun hx5 => ?_) (fun hx5 => ?_)
      · refine s_tin (pc := 40) 502 dL_law_40 (by rw [hx5]; decide) (by rw [hx5]; decide) (by rw [hx5]; rfl) rfl ?_
        exact Lw_law_502_sem hG (4 * n) (Lw_law_23 (gL G) (gX G) n) ih v4 P
      refine s_sw (fun hx6 => ?_) (fun hx6 => ?_)
      · refine s_tin (pc := 40) 570 dL_law_40 (by rw [hx6]; decide) (by rw [hx6]; decide) (by rw [hx6]; rfl) rfl ?_
        exact Lw_law_570_sem hG (4 * n) (Lw_law_23 (gL G) (gX G) n) ih v4 P
      refine s_sw (fun hx7 => ?_) (fun hx7 => ?_)
      · refine s_tin (pc := 40) 595 dL_law_40 (by rw [hx7]; decide) (by rw [hx7]; decide) (by rw [hx7]; rfl) rfl ?_
        exact Lw_law_595_sem hG (4 * n) (Lw_law_23 (gL G) (gX G) n) ih v4 P
      refine s_sw (fun hx8 => ?_) (fun hx8 => ?_)
      · refine s_tin (pc := 40) 651 dL_law_40 (by rw [hx8]; decide) (by rw [hx8]; decide) (by rw [hx8]; rfl) rfl ?_
        exact Lw_law_651_sem hG (4 * n) (Lw_law_23 (gL G) (gX G) n) ih v4 P
      refine s_sw (fun hx9 => ?_) (fun hx9 => ?_)
      · refine s_tin (pc := 40) 707 dL_law_40 (by rw [hx9]; decide) (by rw [hx9]; decide) (by rw [hx9]; rfl) rfl ?_
        exact Lw_law_707_sem hG (4 * n) (Lw_law_23 (gL G) (gX G) n) ih v4 P
      refine s_sw (fun hx10 => ?_) (fun hx10 => ?_)
      · refine s_tin (pc := 40) 763 dL_law_40 (by rw [hx10]; decide) (by rw [hx10]; decide) (by rw [hx10]; rfl) rfl ?_
        exact Lw_law_763_sem hG (4 * n) (Lw_law_23 (gL G) (gX G) n) ih v4 P
      refine s_sw (fun hx11 => ?_) (fun hx11 => ?_)
      · refine s_tin (pc := 40) 804 dL_law_40 (by rw [hx11]; decide) (by rw [hx11]; decide) (by rw [hx11]; rfl) rfl ?_
        exact Lw_law_804_sem hG (4 * n) (Lw_law_23 (gL G) (gX G) n) ih v4 P
      refine s_sw (fun hx12 => ?_) (fun hx12 => ?_)
      · refine s_tin (pc := 40) 867 dL_law_40 (by rw [hx12]; decide) (by rw [hx12]; decide) (by rw [hx12]; rfl) rfl ?_
        exact Lw_law_867_sem hG (4 * n) (Lw_law_23 (gL G) (gX G) n) ih v4 P
      refine s_sw (fun hx13 => ?_) (fun hx13 => ?_)
      · refine s_tin (pc := 40) 943 dL_law_40 (by rw [hx13]; decide) (by rw [hx13]; decide) (by rw [hx13]; rfl) rfl ?_
        exact Lw_law_943_sem hG (4 * n) (Lw_law_23 (gL G) (gX G) n) ih v4 P
      refine s_sw (fun hx14 => ?_) (fun hx14 => ?_)
      · refine s_tin (pc := 40) 987 dL_law_40 (by rw [hx14]; decide) (by rw [hx14]; decide) (by rw [hx14]; rfl) rfl ?_
        exact Lw_law_987_sem hG (4 * n) (Lw_law_23 (gL G) (gX G) n) ih v4 P
      refine s_sw (fun hx15 => ?_) (fun hx15 => ?_)
      · refine s_tin (pc := 40) 1043 dL_law_40 (by rw [hx15]; decide) (by rw [hx15]; decide) (by rw [hx15]; rfl) rfl ?_
        exact Lw_law_1043_sem hG (4 * n) (Lw_law_23 (gL G) (gX G) n) ih v4 P
      refine s_sw (fun hx16 => ?_) (fun hx16 => ?_)
      · refine s_tin (pc := 40) 1099 dL_law_40 (by rw [hx16]; decide) (by rw [hx16]; decide) (by rw [hx16]; rfl) rfl ?_
        exact Lw_law_1099_sem hG (4 * n) (Lw_law_23 (gL G) (gX G) n) ih v4 P
      refine s_sw (fun hx17 => ?_) (fun hx17 => ?_)
      · refine s_tin (pc := 40) 1155 dL_law_40 (by rw [hx17]; decide) (by rw [hx17]; decide) (by rw [hx17]; rfl) rfl ?_
        exact Lw_law_1155_sem hG (4 * n) (Lw_law_23 (gL G) (gX G) n) ih v4 P
      refine s_sw (fun hx18 => ?_) (fun hx18 => ?_)
      · refine s_tin (pc := 40) 1211 dL_law_40 (by rw [hx18]; decide) (by rw [hx18]; decide) (by rw [hx18]; rfl) rfl ?_
        exact Lw_law_1211_sem hG (4 * n) (Lw_law_23 (gL G) (gX G) n) ih v4 P
      refine s_sw (fun hx19 => ?_) (fun hx19 => ?_)
      · refine s_tin (pc := 40) 1267 dL_law_40 (by rw [hx19]; decide) (by rw [hx19]; decide) (by rw [hx19]; rfl) rfl ?_
        exact Lw_law_1267_sem hG (4 * n) (Lw_law_23 (gL G) (gX G) n) ih v4 P
      refine s_sw (fun hx20 => ?_) (fun hx20 => ?_)
      · refine s_tin (pc := 40) 1335 dL_law_40 (by rw [hx20]; decide) (by rw [hx20]; decide) (by rw [hx20]; rfl) rfl ?_
        exact Lw_law_1335_sem hG (4 * n) (Lw_law_23 (gL G) (gX G) n) ih v4 P
      refine s_sw (fun hx21 => ?_) (fun hx21 => ?_)
      · refine s_tin (pc := 40) 1391 dL_law_40 (by rw [hx21]; decide) (by rw [hx21]; decide) (by rw [hx21]; rfl) rfl ?_
        exact Lw_law_1391_sem hG (4 * n) (Lw_law_23 (gL G) (gX G) n) ih v4 P
      refine s_sw (fun hx22 => ?_) (fun hx22 => ?_)
      · refine s_tin (pc := 40) 1435 dL_law_40 (by rw [hx22]; decide) (by rw [hx22]; decide) (by rw [hx22]; rfl) rfl ?_
        exact Lw_law_1435_sem hG (4 * n) (Lw_law_23 (gL G) (gX G) n) ih v4 P
      refine s_sw (fun hx23 => ?_) (fun hx23 => ?_)
      · refine s_tin (pc := 40) 1491 dL_law_40 (by rw [hx23]; decide) (by rw [hx23]; decide) (by rw [hx23]; rfl) rfl ?_
        exact Lw_law_1491_sem hG (4 * n) (Lw_law_23 (gL G) (gX G) n) ih v4 P
      refine s_sw (fun hx24 => ?_) (fun hx24 => ?_)
      · refine s_tin (pc := 40) 1535 dL_law_40 (by rw [hx24]; decide) (by rw [hx24]; decide) (by rw [hx24]; rfl) rfl ?_
        exact Lw_law_1535_sem hG (4 * n) (Lw_law_23 (gL G) (gX G) n) ih v4 P
      refine s_sw (fun hx25 => ?_) (fun hx25 => ?_)
      · refine s_tin (pc := 40) 1591 dL_law_40 (by rw [hx25]; decide) (by rw [hx25]; decide) (by rw [hx25]; rfl) rfl ?_
        exact Lw_law_1591_sem hG (4 * n) (Lw_law_23 (gL G) (gX G) n) ih v4 P
      refine s_sw (fun hx26 => ?_) (fun hx26 => ?_)
      · refine s_tin (pc := 40) 1635 dL_law_40 (by rw [hx26]; decide) (by rw [hx26]; decide) (by rw [hx26]; rfl) rfl ?_
        exact Lw_law_1635_sem hG (4 * n) (Lw_law_23 (gL G) (gX G) n) ih v4 P
      refine s_sw (fun hx27 => ?_) (fun hx27 => ?_)
      · refine s_tin (pc := 40) 1679 dL_law_40 (by rw [hx27]; decide) (by rw [hx27]; decide) (by rw [hx27]; rfl) rfl ?_
        exact Lw_law_1679_sem hG (4 * n) (Lw_law_23 (gL G) (gX G) n) ih v4 P
      refine s_sw (fun hx28 => ?_) (fun hx28 => ?_)
      · refine s_tin (pc := 40) 1763 dL_law_40 (by rw [hx28]; decide) (by rw [hx28]; decide) (by rw [hx28]; rfl) rfl ?_
        exact Lw_law_1763_sem hG (4 * n) (Lw_law_23 (gL G) (gX G) n) ih v4 P
      refine s_sw (fun hx29 => ?_) (fun hx29 => ?_)
      · refine s_tin (pc := 40) 1819 dL_law_40 (by rw [hx29]; decide) (by rw [hx29]; decide) (by rw [hx29]; rfl) rfl ?_
        exact Lw_law_1819_sem hG (4 * n) (Lw_law_23 (gL G) (gX G) n) ih v4 P
      refine s_sw (fun hx30 => ?_) (fun hx30 => ?_)
      · refine s_tin (pc := 40) 1887 dL_law_40 (by rw [hx30]; decide) (by rw [hx30]; decide) (by rw [hx30]; rfl) rfl ?_
        exact Lw_law_1887_sem hG (4 * n) (Lw_law_23 (gL G) (gX G) n) ih v4 P
      refine s_sw (fun hx31 => ?_) (fun hx31 => ?_)
      · refine s_tin (pc := 40) 1928 dL_law_40 (by rw [hx31]; decide) (by rw [hx31]; decide) (by rw [hx31]; rfl) rfl ?_
        exact Lw_law_1928_sem hG (4 * n) (Lw_law_23 (gL G) (gX G) n) ih v4 P
      refine s_sw (fun hx32 => ?_) (fun hx32 => ?_)
      · refine s_tin (pc := 40) 1941 dL_law_40 (by rw [hx32]; decide) (by rw [hx32]; decide) (by rw [hx32]; rfl) rfl ?_
        exact Lw_law_1941_sem hG (4 * n) (Lw_law_23 (gL G) (gX G) n) ih v4 P
      refine s_sw (fun hx33 => ?_) (fun hx33 => ?_)
      · refine s_tin (pc := 40) 1997 dL_law_40 (by rw [hx33]; decide) (by rw [hx33]; decide) (by rw [hx33]; rfl) rfl ?_
        exact Lw_law_1997_sem hG (4 * n) (Lw_law_23 (gL G) (gX G) n) ih v4 P
      refine s_sw (fun hx34 => ?_) (fun hx34 => ?_)
      · refine s_tin (pc := 40) 2053 dL_law_40 (by rw [hx34]; decide) (by rw [hx34]; decide) (by rw [hx34]; rfl) rfl ?_
        exact Lw_law_2053_sem hG (4 * n) (Lw_law_23 (gL G) (gX G) n) ih v4 P
      refine s_sw (fun hx35 => ?_) (fun hx35 => ?_)
      · refine s_tin (pc := 40) 2113 dL_law_40 (by rw [hx35]; decide) (by rw [hx35]; decide) (by rw [hx35]; rfl) rfl ?_
        exact Lw_law_2113_sem hG (4 * n) (Lw_law_23 (gL G) (gX G) n) ih v4 P
      refine s_sw (fun hx36 => ?_) (fun hx36 => ?_)
      · refine s_tin (pc := 40) 2224 dL_law_40 (by rw [hx36]; decide) (by rw [hx36]; decide) (by rw [hx36]; rfl) rfl ?_
        exact Lw_law_2224_sem hG (4 * n) (Lw_law_23 (gL G) (gX G) n) ih v4 P
      refine s_sw (fun hx37 => ?_) (fun hx37 => ?_)
      · refine s_tin (pc := 40) 2260 dL_law_40 (by rw [hx37]; decide) (by rw [hx37]; decide) (by rw [hx37]; rfl) rfl ?_
        exact Lw_law_2260_sem hG (4 * n) (Lw_law_23 (gL G) (gX G) n) ih v4 P
      refine s_sw (fun hx38 => ?_) (fun hx38 => ?_)
      · refine s_tin (pc := 40) 2296 dL_law_40 (by rw [hx38]; decide) (by rw [hx38]; decide) (by rw [hx38]; rfl) rfl ?_
        exact Lw_law_2296_sem hG (4 * n) (Lw_law_23 (gL G) (gX G) n) ih v4 P
      refine s_tout (pc := 40) 2321 dL_law_40 (Classical.byContradiction fun hq => ?_) rfl ?_
      · have h9 : Int32.toInt (((gX G) v4.toNatClampNeg) &&& (63 : Int32)) = 0 ∨ Int32.toInt (((gX G) v4.toNatClampNeg) &&& (63 : Int32)) = 1 ∨ Int32.toInt (((gX G) v4.toNatClampNeg) &&& (63 : Int32)) = 2 ∨ Int32.toInt (((gX G) v4.toNatClampNeg) &&& (63 : Int32)) = 3 ∨ Int32.toInt (((gX G) v4.toNatClampNeg) &&& (63 : Int32)) = 4 ∨ Int32.toInt (((gX G) v4.toNatClampNeg) &&& (63 : Int32)) = 5 ∨ Int32.toInt (((gX G) v4.toNatClampNeg) &&& (63 : Int32)) = 6 ∨ Int32.toInt (((gX G) v4.toNatClampNeg) &&& (63 : Int32)) = 7 ∨ Int32.toInt (((gX G) v4.toNatClampNeg) &&& (63 : Int32)) = 8 ∨ Int32.toInt (((gX G) v4.toNatClampNeg) &&& (63 : Int32)) = 9 ∨ Int32.toInt (((gX G) v4.toNatClampNeg) &&& (63 : Int32)) = 10 ∨ Int32.toInt (((gX G) v4.toNatClampNeg) &&& (63 : Int32)) = 11 ∨ Int32.toInt (((gX G) v4.toNatClampNeg) &&& (63 : Int32)) = 12 ∨ Int32.toInt (((gX G) v4.toNatClampNeg) &&& (63 : Int32)) = 13 ∨ Int32.toInt (((gX G) v4.toNatClampNeg) &&& (63 : Int32)) = 14 ∨ Int32.toInt (((gX G) v4.toNatClampNeg) &&& (63 : Int32)) = 15 ∨ Int32.toInt (((gX G) v4.toNatClampNeg) &&& (63 : Int32)) = 16 ∨ Int32.toInt (((gX G) v4.toNatClampNeg) &&& (63 : Int32)) = 17 ∨ Int32.toInt (((gX G) v4.toNatClampNeg) &&& (63 : Int32)) = 18 ∨ Int32.toInt (((gX G) v4.toNatClampNeg) &&& (63 : Int32)) = 19 ∨ Int32.toInt (((gX G) v4.toNatClampNeg) &&& (63 : Int32)) = 20 ∨ Int32.toInt (((gX G) v4.toNatClampNeg) &&& (63 : Int32)) = 21 ∨ Int32.toInt (((gX G) v4.toNatClampNeg) &&& (63 : Int32)) = 22 ∨ Int32.toInt (((gX G) v4.toNatClampNeg) &&& (63 : Int32)) = 23 ∨ Int32.toInt (((gX G) v4.toNatClampNeg) &&& (63 : Int32)) = 24 ∨ Int32.toInt (((gX G) v4.toNatClampNeg) &&& (63 : Int32)) = 25 ∨ Int32.toInt (((gX G) v4.toNatClampNeg) &&& (63 : Int32)) = 26 ∨ Int32.toInt (((gX G) v4.toNatClampNeg) &&& (63 : Int32)) = 27 ∨ Int32.toInt (((gX G) v4.toNatClampNeg) &&& (63 : Int32)) = 28 ∨ Int32.toInt (((gX G) v4.toNatClampNeg) &&& (63 : Int32)) = 29 ∨ Int32.toInt (((gX G) v4.toNatClampNeg) &&& (63 : Int32)) = 30 ∨ Int32.toInt (((gX G) v4.toNatClampNeg) &&& (63 : Int32)) = 31 ∨ Int32.toInt (((gX G) v4.toNatClampNeg) &&& (63 : Int32)) = 32 ∨ Int32.toInt (((gX G) v4.toNatClampNeg) &&& (63 : Int32)) = 33 ∨ Int32.toInt (((gX G) v4.toNatClampNeg) &&& (63 : Int32)) = 34 ∨ Int32.toInt (((gX G) v4.toNatClampNeg) &&& (63 : Int32)) = 35 ∨ Int32.toInt (((gX G) v4.toNatClampNeg) &&& (63 : Int32)) = 36 ∨ Int32.toInt (((gX G) v4.toNatClampNeg) &&& (63 : Int32)) = 37 ∨ Int32.toInt (((gX G) v4.toNatClampNeg) &&& (63 : Int32)) = 38 := by omega
        rcases h9 with h9 | h9 | h9 | h9 | h9 | h9 | h9 | h9 | h9 | h9 | h9 | h9 | h9 | h9 | h9 | h9 | h9 | h9 | h9 | h9 | h9 | h9 | h9 | h9 | h9 | h9 | h9 | h9 | h9 | h9 | h9 | h9 | h9 | h9 | h9 | h9 | h9 | h9 | h9
        · exact hx0 (Int32.toInt_inj.mp h9)
        · exact hx1 (Int32.toInt_inj.mp h9)
        · exact hx2 (Int32.toInt_inj.mp h9)
        · exact hx3 (Int32.toInt_inj.mp h9)
        · exact hx4 (Int32.toInt_inj.mp h9)
        · exact hx5 (Int32.toInt_inj.mp h9)
        · exact hx6 (Int32.toInt_inj.mp h9)
        · exact hx7 (Int32.toInt_inj.mp h9)
        · exact hx8 (Int32.toInt_inj.mp h9)
        · exact hx9 (Int32.toInt_inj.mp h9)
        · exact hx10 (Int32.toInt_inj.mp h9)
        · exact hx11 (Int32.toInt_inj.mp h9)
        · exact hx12 (Int32.toInt_inj.mp h9)
        · exact hx13 (Int32.toInt_inj.mp h9)
        · exact hx14 (Int32.toInt_inj.mp h9)
        · exact hx15 (Int32.toInt_inj.mp h9)
        · exact hx16 (Int32.toInt_inj.mp h9)
        · exact hx17 (Int32.toInt_inj.mp h9)
        · exact hx18 (Int32.toInt_inj.mp h9)
        · exact hx19 (Int32.toInt_inj.mp h9)
        · exact hx20 (Int32.toInt_inj.mp h9)
        · exact hx21 (Int32.toInt_inj.mp h9)
        · exact hx22 (Int32.toInt_inj.mp h9)
        · exact hx23 (Int32.toInt_inj.mp h9)
        · exact hx24 (Int32.toInt_inj.mp h9)
        · exact hx25 (Int32.toInt_inj.mp h9)
        · exact hx26 (Int32.toInt_inj.mp h9)
        · exact hx27 (Int32.toInt_inj.mp h9)
        · exact hx28 (Int32.toInt_inj.mp h9)
        · exact hx29 (Int32.toInt_inj.mp h9)
        · exact hx30 (Int32.toInt_inj.mp h9)
        · exact hx31 (Int32.toInt_inj.mp h9)
        · exact hx32 (Int32.toInt_inj.mp h9)
        · exact hx33 (Int32.toInt_inj.mp h9)
        · exact hx34 (Int32.toInt_inj.mp h9)
        · exact hx35 (Int32.toInt_inj.mp h9)
        · exact hx36 (Int32.toInt_inj.mp h9)
        · exact hx37 (Int32.toInt_inj.mp h9)
        · exact hx38 (Int32.toInt_inj.mp h9)
      · refine s_budget (k2 := (4 * n + 0)) (n2 := (6 * (4 * n) + 0)) (by omega) (by omega) ?_
        exact Lw_law_2321_sem hG (4 * n) (Lw_law_23 (gL G) (gX G) n) ih v4 P
