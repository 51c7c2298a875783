theorem mo_X10_alike {G : GT} {l : Launch} (hG : GOK G l) : MOK G yX10_alike miX10_alike 1 := ⟨gwd hG (.code yX10_alike cX10_alike 2 (some .boolean)) (tm_4 (List.mem_of_getElem? (i := 207) rfl)) rfl, gwd hG _ (tm_1 (List.mem_of_getElem? (i := 1) rfl)) rfl, ⟨by decide +kernel, by decide +kernel⟩, by decide +kernel, (Nat.le_of_ble_eq_true rfl)⟩
theorem mo_X10_barred {G : GT} {l : Launch} (hG : GOK G l) : MOK G yX10_barred miX10_barred 1 := ⟨gwd hG (.code yX10_barred cX10_barred 2 (some .int)) (tm_5 (List.mem_of_getElem? (i := 164) rfl)) rfl, gwd hG _ (tm_1 (List.mem_of_getElem? (i := 1) rfl)) rfl, ⟨by decide +kernel, by decide +kernel⟩, by decide +kernel, (Nat.le_of_ble_eq_true rfl)⟩
theorem mo_X10_begin {G : GT} {l : Launch} (hG : GOK G l) : MOK G yX10_begin miX10_begin 3 := ⟨gwd hG (.code yX10_begin cX10_begin 4 none) (tm_4 (List.mem_of_getElem? (i := 231) rfl)) rfl, gwd hG _ (tm_1 (List.mem_of_getElem? (i := 1) rfl)) rfl, ⟨by decide +kernel, by decide +kernel⟩, by decide +kernel, (Nat.le_of_ble_eq_true rfl)⟩
theorem mo_X10_count {G : GT} {l : Launch} (hG : GOK G l) : MOK G yX10_count miX10_count 1 := ⟨gwd hG (.code yX10_count cX10_count 2 (some .int)) (tm_3 (List.mem_of_getElem? (i := 16) rfl)) rfl, gwd hG _ (tm_1 (List.mem_of_getElem? (i := 1) rfl)) rfl, ⟨by decide +kernel, by decide +kernel⟩, by decide +kernel, (Nat.le_of_ble_eq_true rfl)⟩
theorem mo_X10_crossings {G : GT} {l : Launch} (hG : GOK G l) : MOK G yX10_crossings miX10_crossings 1 := ⟨gwd hG (.code yX10_crossings cX10_crossings 2 (some .int)) (tm_2 (List.mem_of_getElem? (i := 216) rfl)) rfl, gwd hG _ (tm_1 (List.mem_of_getElem? (i := 1) rfl)) rfl, ⟨by decide +kernel, by decide +kernel⟩, by decide +kernel, (Nat.le_of_ble_eq_true rfl)⟩
theorem mo_X10_cut {G : GT} {l : Launch} (hG : GOK G l) : MOK G yX10_cut miX10_cut 0 := ⟨gwd hG (.code yX10_cut cX10_cut 1 (some .int)) (tm_5 (List.mem_of_getElem? (i := 7) rfl)) rfl, gwd hG _ (tm_1 (List.mem_of_getElem? (i := 1) rfl)) rfl, ⟨by decide +kernel, by decide +kernel⟩, by decide +kernel, (Nat.le_of_ble_eq_true rfl)⟩
theorem mo_X10_done {G : GT} {l : Launch} (hG : GOK G l) : MOK G yX10_done miX10_done 1 := ⟨gwd hG (.code yX10_done cX10_done 2 (some .int)) (tm_5 (List.mem_of_getElem? (i := 97) rfl)) rfl, gwd hG _ (tm_1 (List.mem_of_getElem? (i := 1) rfl)) rfl, ⟨by decide +kernel, by decide +kernel⟩, by decide +kernel, (Nat.le_of_ble_eq_true rfl)⟩
theorem mo_X10_drawing {G : GT} {l : Launch} (hG : GOK G l) : MOK G yX10_drawing miX10_drawing 1 := ⟨gwd hG (.code yX10_drawing cX10_drawing 2 (some .int)) (tm_3 (List.mem_of_getElem? (i := 24) rfl)) rfl, gwd hG _ (tm_1 (List.mem_of_getElem? (i := 1) rfl)) rfl, ⟨by decide +kernel, by decide +kernel⟩, by decide +kernel, (Nat.le_of_ble_eq_true rfl)⟩
theorem mo_X10_ending {G : GT} {l : Launch} (hG : GOK G l) : MOK G yX10_ending miX10_ending 0 := ⟨gwd hG (.code yX10_ending cX10_ending 1 (some .int)) (tm_5 (List.mem_of_getElem? (i := 204) rfl)) rfl, gwd hG _ (tm_1 (List.mem_of_getElem? (i := 1) rfl)) rfl, ⟨by decide +kernel, by decide +kernel⟩, by decide +kernel, (Nat.le_of_ble_eq_true rfl)⟩
theorem mo_X10_ends {G : GT} {l : Launch} (hG : GOK G l) : MOK G yX10_ends miX10_ends 2 := ⟨gwd hG (.code yX10_ends cX10_ends 3 (some .int)) (tm_4 (List.mem_of_getElem? (i := 139) rfl)) rfl, gwd hG _ (tm_1 (List.mem_of_getElem? (i := 1) rfl)) rfl, ⟨by decide +kernel, by decide +kernel⟩, by decide +kernel, (Nat.le_of_ble_eq_true rfl)⟩
theorem mo_X10_fault {G : GT} {l : Launch} (hG : GOK G l) : MOK G yX10_fault miX10_fault 1 := ⟨gwd hG (.code yX10_fault cX10_fault 2 (some .int)) (tm_2 (List.mem_of_getElem? (i := 204) rfl)) rfl, gwd hG _ (tm_1 (List.mem_of_getElem? (i := 1) rfl)) rfl, ⟨by decide +kernel, by decide +kernel⟩, by decide +kernel, (Nat.le_of_ble_eq_true rfl)⟩
theorem mo_X10_feed {G : GT} {l : Launch} (hG : GOK G l) : MOK G yX10_feed miX10_feed 5 := ⟨gwd hG (.code yX10_feed cX10_feed 6 (some .int)) (tm_2 (List.mem_of_getElem? (i := 196) rfl)) rfl, gwd hG _ (tm_1 (List.mem_of_getElem? (i := 1) rfl)) rfl, ⟨by decide +kernel, by decide +kernel⟩, by decide +kernel, (Nat.le_of_ble_eq_true rfl)⟩
theorem mo_X10_image {G : GT} {l : Launch} (hG : GOK G l) : MOK G yX10_image miX10_image 1 := ⟨gwd hG (.code yX10_image cX10_image 2 none) (tm_6 (List.mem_of_getElem? (i := 213) rfl)) rfl, gwd hG _ (tm_1 (List.mem_of_getElem? (i := 1) rfl)) rfl, ⟨by decide +kernel, by decide +kernel⟩, by decide +kernel, (Nat.le_of_ble_eq_true rfl)⟩
theorem mo_X10_judge {G : GT} {l : Launch} (hG : GOK G l) : MOK G yX10_judge miX10_judge 2 := ⟨gwd hG (.code yX10_judge cX10_judge 5 (some .int)) (tm_5 (List.mem_of_getElem? (i := 105) rfl)) rfl, gwd hG _ (tm_1 (List.mem_of_getElem? (i := 1) rfl)) rfl, ⟨by decide +kernel, by decide +kernel⟩, by decide +kernel, (Nat.le_of_ble_eq_true rfl)⟩
theorem mo_X10_knot {G : GT} {l : Launch} (hG : GOK G l) : MOK G yX10_knot miX10_knot 1 := ⟨gwd hG (.code yX10_knot cX10_knot 2 (some .int)) (tm_2 (List.mem_of_getElem? (i := 208) rfl)) rfl, gwd hG _ (tm_1 (List.mem_of_getElem? (i := 1) rfl)) rfl, ⟨by decide +kernel, by decide +kernel⟩, by decide +kernel, (Nat.le_of_ble_eq_true rfl)⟩
theorem mo_X10_left {G : GT} {l : Launch} (hG : GOK G l) : MOK G yX10_left miX10_left 0 := ⟨gwd hG (.code yX10_left cX10_left 1 (some .int)) (tm_5 (List.mem_of_getElem? (i := 157) rfl)) rfl, gwd hG _ (tm_1 (List.mem_of_getElem? (i := 1) rfl)) rfl, ⟨by decide +kernel, by decide +kernel⟩, by decide +kernel, (Nat.le_of_ble_eq_true rfl)⟩
theorem mo_X10_length {G : GT} {l : Launch} (hG : GOK G l) : MOK G yX10_length miX10_length 1 := ⟨gwd hG (.code yX10_length cX10_length 2 (some .int)) (tm_4 (List.mem_of_getElem? (i := 193) rfl)) rfl, gwd hG _ (tm_1 (List.mem_of_getElem? (i := 1) rfl)) rfl, ⟨by decide +kernel, by decide +kernel⟩, by decide +kernel, (Nat.le_of_ble_eq_true rfl)⟩
theorem mo_X10_line {G : GT} {l : Launch} (hG : GOK G l) : MOK G yX10_line miX10_line 2 := ⟨gwd hG (.code yX10_line cX10_line 3 (some .int)) (tm_4 (List.mem_of_getElem? (i := 82) rfl)) rfl, gwd hG _ (tm_1 (List.mem_of_getElem? (i := 1) rfl)) rfl, ⟨by decide +kernel, by decide +kernel⟩, by decide +kernel, (Nat.le_of_ble_eq_true rfl)⟩
theorem mo_X10_lineAt {G : GT} {l : Launch} (hG : GOK G l) : MOK G yX10_lineAt miX10_lineAt 2 := ⟨gwd hG (.code yX10_lineAt cX10_lineAt 3 (some .int)) (tm_4 (List.mem_of_getElem? (i := 123) rfl)) rfl, gwd hG _ (tm_1 (List.mem_of_getElem? (i := 1) rfl)) rfl, ⟨by decide +kernel, by decide +kernel⟩, by decide +kernel, (Nat.le_of_ble_eq_true rfl)⟩
theorem mo_X10_may {G : GT} {l : Launch} (hG : GOK G l) : MOK G yX10_may miX10_may 1 := ⟨gwd hG (.code yX10_may cX10_may 2 (some .int)) (tm_5 (List.mem_of_getElem? (i := 35) rfl)) rfl, gwd hG _ (tm_1 (List.mem_of_getElem? (i := 1) rfl)) rfl, ⟨by decide +kernel, by decide +kernel⟩, by decide +kernel, (Nat.le_of_ble_eq_true rfl)⟩
theorem mo_X10_partOf {G : GT} {l : Launch} (hG : GOK G l) : MOK G yX10_partOf miX10_partOf 1 := ⟨gwd hG (.code yX10_partOf cX10_partOf 4 (some .int)) (tm_4 (List.mem_of_getElem? (i := 184) rfl)) rfl, gwd hG _ (tm_1 (List.mem_of_getElem? (i := 1) rfl)) rfl, ⟨by decide +kernel, by decide +kernel⟩, by decide +kernel, (Nat.le_of_ble_eq_true rfl)⟩
theorem mo_X10_parts {G : GT} {l : Launch} (hG : GOK G l) : MOK G yX10_parts miX10_parts 1 := ⟨gwd hG (.code yX10_parts cX10_parts 2 (some .int)) (tm_4 (List.mem_of_getElem? (i := 161) rfl)) rfl, gwd hG _ (tm_1 (List.mem_of_getElem? (i := 1) rfl)) rfl, ⟨by decide +kernel, by decide +kernel⟩, by decide +kernel, (Nat.le_of_ble_eq_true rfl)⟩
theorem mo_X10_perform {G : GT} {l : Launch} (hG : GOK G l) : MOK G yX10_perform miX10_perform 1 := ⟨gwd hG (.code yX10_perform cX10_perform 3 (some .int)) (tm_5 (List.mem_of_getElem? (i := 150) rfl)) rfl, gwd hG _ (tm_1 (List.mem_of_getElem? (i := 1) rfl)) rfl, ⟨by decide +kernel, by decide +kernel⟩, by decide +kernel, (Nat.le_of_ble_eq_true rfl)⟩
theorem mo_X10_places {G : GT} {l : Launch} (hG : GOK G l) : MOK G yX10_places miX10_places 1 := ⟨gwd hG (.code yX10_places cX10_places 2 (some .int)) (tm_6 (List.mem_of_getElem? (i := 75) rfl)) rfl, gwd hG _ (tm_1 (List.mem_of_getElem? (i := 1) rfl)) rfl, ⟨by decide +kernel, by decide +kernel⟩, by decide +kernel, (Nat.le_of_ble_eq_true rfl)⟩
theorem mo_X10_restore {G : GT} {l : Launch} (hG : GOK G l) : MOK G yX10_restore miX10_restore 1 := ⟨gwd hG (.code yX10_restore cX10_restore 3 none) (tm_6 (List.mem_of_getElem? (i := 231) rfl)) rfl, gwd hG _ (tm_1 (List.mem_of_getElem? (i := 1) rfl)) rfl, ⟨by decide +kernel, by decide +kernel⟩, by decide +kernel, (Nat.le_of_ble_eq_true rfl)⟩
theorem mo_X10_same {G : GT} {l : Launch} (hG : GOK G l) : MOK G yX10_same miX10_same 0 := ⟨gwd hG (.code yX10_same cX10_same 1 (some .boolean)) (tm_3 (List.mem_of_getElem? (i := 12) rfl)) rfl, gwd hG _ (tm_1 (List.mem_of_getElem? (i := 1) rfl)) rfl, ⟨by decide +kernel, by decide +kernel⟩, by decide +kernel, (Nat.le_of_ble_eq_true rfl)⟩
theorem mo_X10_sameAt {G : GT} {l : Launch} (hG : GOK G l) : MOK G yX10_sameAt miX10_sameAt 1 := ⟨gwd hG (.code yX10_sameAt cX10_sameAt 3 (some .int)) (tm_6 (List.mem_of_getElem? (i := 150) rfl)) rfl, gwd hG _ (tm_1 (List.mem_of_getElem? (i := 1) rfl)) rfl, ⟨by decide +kernel, by decide +kernel⟩, by decide +kernel, (Nat.le_of_ble_eq_true rfl)⟩
theorem mo_X10_seen {G : GT} {l : Launch} (hG : GOK G l) : MOK G yX10_seen miX10_seen 1 := ⟨gwd hG (.code yX10_seen cX10_seen 2 (some .int)) (tm_3 (List.mem_of_getElem? (i := 2) rfl)) rfl, gwd hG _ (tm_1 (List.mem_of_getElem? (i := 1) rfl)) rfl, ⟨by decide +kernel, by decide +kernel⟩, by decide +kernel, (Nat.le_of_ble_eq_true rfl)⟩
theorem mo_X10_stitch {G : GT} {l : Launch} (hG : GOK G l) : MOK G yX10_stitch miX10_stitch 1 := ⟨gwd hG (.code yX10_stitch cX10_stitch 2 (some .int)) (tm_5 (List.mem_of_getElem? (i := 52) rfl)) rfl, gwd hG _ (tm_1 (List.mem_of_getElem? (i := 1) rfl)) rfl, ⟨by decide +kernel, by decide +kernel⟩, by decide +kernel, (Nat.le_of_ble_eq_true rfl)⟩
theorem mo_X10_thread {G : GT} {l : Launch} (hG : GOK G l) : MOK G yX10_thread miX10_thread 1 := ⟨gwd hG (.code yX10_thread cX10_thread 2 (some .int)) (tm_5 (List.mem_of_getElem? (i := 88) rfl)) rfl, gwd hG _ (tm_1 (List.mem_of_getElem? (i := 1) rfl)) rfl, ⟨by decide +kernel, by decide +kernel⟩, by decide +kernel, (Nat.le_of_ble_eq_true rfl)⟩
theorem mo_X10_threads {G : GT} {l : Launch} (hG : GOK G l) : MOK G yX10_threads miX10_threads 2 := ⟨gwd hG (.code yX10_threads cX10_threads 3 (some .int)) (tm_6 (List.mem_of_getElem? (i := 86) rfl)) rfl, gwd hG _ (tm_1 (List.mem_of_getElem? (i := 1) rfl)) rfl, ⟨by decide +kernel, by decide +kernel⟩, by decide +kernel, (Nat.le_of_ble_eq_true rfl)⟩
theorem mo_X10_tray {G : GT} {l : Launch} (hG : GOK G l) : MOK G yX10_tray miX10_tray 3 := ⟨gwd hG (.code yX10_tray cX10_tray 5 none) (tm_6 (List.mem_of_getElem? (i := 168) rfl)) rfl, gwd hG _ (tm_1 (List.mem_of_getElem? (i := 1) rfl)) rfl, ⟨by decide +kernel, by decide +kernel⟩, by decide +kernel, (Nat.le_of_ble_eq_true rfl)⟩
theorem mo_X10_unlike {G : GT} {l : Launch} (hG : GOK G l) : MOK G yX10_unlike miX10_unlike 1 := ⟨gwd hG (.code yX10_unlike cX10_unlike 2 (some .int)) (tm_6 (List.mem_of_getElem? (i := 161) rfl)) rfl, gwd hG _ (tm_1 (List.mem_of_getElem? (i := 1) rfl)) rfl, ⟨by decide +kernel, by decide +kernel⟩, by decide +kernel, (Nat.le_of_ble_eq_true rfl)⟩
theorem mo_X10_unpick {G : GT} {l : Launch} (hG : GOK G l) : MOK G yX10_unpick miX10_unpick 1 := ⟨gwd hG (.code yX10_unpick cX10_unpick 3 (some .int)) (tm_5 (List.mem_of_getElem? (i := 72) rfl)) rfl, gwd hG _ (tm_1 (List.mem_of_getElem? (i := 1) rfl)) rfl, ⟨by decide +kernel, by decide +kernel⟩, by decide +kernel, (Nat.le_of_ble_eq_true rfl)⟩
theorem mo_X10_unpicked {G : GT} {l : Launch} (hG : GOK G l) : MOK G yX10_unpicked miX10_unpicked 2 := ⟨gwd hG (.code yX10_unpicked cX10_unpicked 3 (some .int)) (tm_6 (List.mem_of_getElem? (i := 37) rfl)) rfl, gwd hG _ (tm_1 (List.mem_of_getElem? (i := 1) rfl)) rfl, ⟨by decide +kernel, by decide +kernel⟩, by decide +kernel, (Nat.le_of_ble_eq_true rfl)⟩
theorem mo_X10_ways {G : GT} {l : Launch} (hG : GOK G l) : MOK G yX10_ways miX10_ways 0 := ⟨gwd hG (.code yX10_ways cX10_ways 1 (some .int)) (tm_6 (List.mem_of_getElem? (i := 23) rfl)) rfl, gwd hG _ (tm_1 (List.mem_of_getElem? (i := 1) rfl)) rfl, ⟨by decide +kernel, by decide +kernel⟩, by decide +kernel, (Nat.le_of_ble_eq_true rfl)⟩
theorem mo_X10_work {G : GT} {l : Launch} (hG : GOK G l) : MOK G yX10_work miX10_work 0 := ⟨gwd hG (.code yX10_work cX10_work 3 (some .int)) (tm_6 (List.mem_of_getElem? (i := 16) rfl)) rfl, gwd hG _ (tm_1 (List.mem_of_getElem? (i := 1) rfl)) rfl, ⟨by decide +kernel, by decide +kernel⟩, by decide +kernel, (Nat.le_of_ble_eq_true rfl)⟩
theorem mo_X10_working {G : GT} {l : Launch} (hG : GOK G l) : MOK G yX10_working miX10_working 1 := ⟨gwd hG (.code yX10_working cX10_working 3 (some .int)) (tm_5 (List.mem_of_getElem? (i := 211) rfl)) rfl, gwd hG _ (tm_1 (List.mem_of_getElem? (i := 1) rfl)) rfl, ⟨by decide +kernel, by decide +kernel⟩, by decide +kernel, (Nat.le_of_ble_eq_true rfl)⟩
theorem mo_X10_write {G : GT} {l : Launch} (hG : GOK G l) : MOK G yX10_write miX10_write 3 := ⟨gwd hG (.code yX10_write cX10_write 6 (some .long)) (tm_6 (List.mem_of_getElem? (i := 182) rfl)) rfl, gwd hG _ (tm_1 (List.mem_of_getElem? (i := 1) rfl)) rfl, ⟨by decide +kernel, by decide +kernel⟩, by decide +kernel, (Nat.le_of_ble_eq_true rfl)⟩
theorem mo_X11_alike {G : GT} {l : Launch} (hG : GOK G l) : MOK G yX11_alike miX11_alike 1 := ⟨gwd hG (.code yX11_alike cX11_alike 9 (some .boolean)) (tm_8 (List.mem_of_getElem? (i := 106) rfl)) rfl, gwd hG _ (tm_1 (List.mem_of_getElem? (i := 12) rfl)) rfl, ⟨by decide +kernel, by decide +kernel⟩, by decide +kernel, (Nat.le_of_ble_eq_true rfl)⟩
theorem mo_X11_barred {G : GT} {l : Launch} (hG : GOK G l) : MOK G yX11_barred miX11_barred 1 := ⟨gwd hG (.code yX11_barred cX11_barred 3 (some .int)) (tm_8 (List.mem_of_getElem? (i := 215) rfl)) rfl, gwd hG _ (tm_1 (List.mem_of_getElem? (i := 12) rfl)) rfl, ⟨by decide +kernel, by decide +kernel⟩, by decide +kernel, (Nat.le_of_ble_eq_true rfl)⟩
theorem mo_X11_begin {G : GT} {l : Launch} (hG : GOK G l) : MOK G yX11_begin miX11_begin 3 := ⟨gwd hG (.code yX11_begin cX11_begin 4 none) (tm_8 (List.mem_of_getElem? (i := 124) rfl)) rfl, gwd hG _ (tm_1 (List.mem_of_getElem? (i := 12) rfl)) rfl, ⟨by decide +kernel, by decide +kernel⟩, by decide +kernel, (Nat.le_of_ble_eq_true rfl)⟩
theorem mo_X11_count {G : GT} {l : Launch} (hG : GOK G l) : MOK G yX11_count miX11_count 1 := ⟨gwd hG (.code yX11_count cX11_count 4 (some .int)) (tm_9 (List.mem_of_getElem? (i := 90) rfl)) rfl, gwd hG _ (tm_1 (List.mem_of_getElem? (i := 12) rfl)) rfl, ⟨by decide +kernel, by decide +kernel⟩, by decide +kernel, (Nat.le_of_ble_eq_true rfl)⟩
theorem mo_X11_crossings {G : GT} {l : Launch} (hG : GOK G l) : MOK G yX11_crossings miX11_crossings 1 := ⟨gwd hG (.code yX11_crossings cX11_crossings 5 (some .int)) (tm_8 (List.mem_of_getElem? (i := 97) rfl)) rfl, gwd hG _ (tm_1 (List.mem_of_getElem? (i := 12) rfl)) rfl, ⟨by decide +kernel, by decide +kernel⟩, by decide +kernel, (Nat.le_of_ble_eq_true rfl)⟩
theorem mo_X11_cut {G : GT} {l : Launch} (hG : GOK G l) : MOK G yX11_cut miX11_cut 0 := ⟨gwd hG (.code yX11_cut cX11_cut 1 (some .int)) (tm_8 (List.mem_of_getElem? (i := 128) rfl)) rfl, gwd hG _ (tm_1 (List.mem_of_getElem? (i := 12) rfl)) rfl, ⟨by decide +kernel, by decide +kernel⟩, by decide +kernel, (Nat.le_of_ble_eq_true rfl)⟩
theorem mo_X11_done {G : GT} {l : Launch} (hG : GOK G l) : MOK G yX11_done miX11_done 1 := ⟨gwd hG (.code yX11_done cX11_done 2 (some .int)) (tm_8 (List.mem_of_getElem? (i := 184) rfl)) rfl, gwd hG _ (tm_1 (List.mem_of_getElem? (i := 12) rfl)) rfl, ⟨by decide +kernel, by decide +kernel⟩, by decide +kernel, (Nat.le_of_ble_eq_true rfl)⟩
theorem mo_X11_drawing {G : GT} {l : Launch} (hG : GOK G l) : MOK G yX11_drawing miX11_drawing 1 := ⟨gwd hG (.code yX11_drawing cX11_drawing 3 (some .int)) (tm_7 (List.mem_of_getElem? (i := 145) rfl)) rfl, gwd hG _ (tm_1 (List.mem_of_getElem? (i := 12) rfl)) rfl, ⟨by decide +kernel, by decide +kernel⟩, by decide +kernel, (Nat.le_of_ble_eq_true rfl)⟩
theorem mo_X11_ending {G : GT} {l : Launch} (hG : GOK G l) : MOK G yX11_ending miX11_ending 0 := ⟨gwd hG (.code yX11_ending cX11_ending 1 (some .int)) (tm_8 (List.mem_of_getElem? (i := 228) rfl)) rfl, gwd hG _ (tm_1 (List.mem_of_getElem? (i := 12) rfl)) rfl, ⟨by decide +kernel, by decide +kernel⟩, by decide +kernel, (Nat.le_of_ble_eq_true rfl)⟩
theorem mo_X11_ends {G : GT} {l : Launch} (hG : GOK G l) : MOK G yX11_ends miX11_ends 2 := ⟨gwd hG (.code yX11_ends cX11_ends 5 (some .int)) (tm_8 (List.mem_of_getElem? (i := 54) rfl)) rfl, gwd hG _ (tm_1 (List.mem_of_getElem? (i := 12) rfl)) rfl, ⟨by decide +kernel, by decide +kernel⟩, by decide +kernel, (Nat.le_of_ble_eq_true rfl)⟩
theorem mo_X11_fault {G : GT} {l : Launch} (hG : GOK G l) : MOK G yX11_fault miX11_fault 1 := ⟨gwd hG (.code yX11_fault cX11_fault 2 (some .int)) (tm_8 (List.mem_of_getElem? (i := 13) rfl)) rfl, gwd hG _ (tm_1 (List.mem_of_getElem? (i := 12) rfl)) rfl, ⟨by decide +kernel, by decide +kernel⟩, by decide +kernel, (Nat.le_of_ble_eq_true rfl)⟩
theorem mo_X11_feed {G : GT} {l : Launch} (hG : GOK G l) : MOK G yX11_feed miX11_feed 5 := ⟨gwd hG (.code yX11_feed cX11_feed 8 (some .int)) (tm_7 (List.mem_of_getElem? (i := 141) rfl)) rfl, gwd hG _ (tm_1 (List.mem_of_getElem? (i := 12) rfl)) rfl, ⟨by decide +kernel, by decide +kernel⟩, by decide +kernel, (Nat.le_of_ble_eq_true rfl)⟩
theorem mo_X11_image {G : GT} {l : Launch} (hG : GOK G l) : MOK G yX11_image miX11_image 1 := ⟨gwd hG (.code yX11_image cX11_image 3 none) (tm_9 (List.mem_of_getElem? (i := 82) rfl)) rfl, gwd hG _ (tm_1 (List.mem_of_getElem? (i := 12) rfl)) rfl, ⟨by decide +kernel, by decide +kernel⟩, by decide +kernel, (Nat.le_of_ble_eq_true rfl)⟩
theorem mo_X11_judge {G : GT} {l : Launch} (hG : GOK G l) : MOK G yX11_judge miX11_judge 2 := ⟨gwd hG (.code yX11_judge cX11_judge 8 (some .int)) (tm_8 (List.mem_of_getElem? (i := 188) rfl)) rfl, gwd hG _ (tm_1 (List.mem_of_getElem? (i := 12) rfl)) rfl, ⟨by decide +kernel, by decide +kernel⟩, by decide +kernel, (Nat.le_of_ble_eq_true rfl)⟩
theorem mo_X11_knot {G : GT} {l : Launch} (hG : GOK G l) : MOK G yX11_knot miX11_knot 1 := ⟨gwd hG (.code yX11_knot cX11_knot 4 (some .int)) (tm_8 (List.mem_of_getElem? (i := 69) rfl)) rfl, gwd hG _ (tm_1 (List.mem_of_getElem? (i := 12) rfl)) rfl, ⟨by decide +kernel, by decide +kernel⟩, by decide +kernel, (Nat.le_of_ble_eq_true rfl)⟩
theorem mo_X11_left {G : GT} {l : Launch} (hG : GOK G l) : MOK G yX11_left miX11_left 0 := ⟨gwd hG (.code yX11_left cX11_left 1 (some .int)) (tm_8 (List.mem_of_getElem? (i := 211) rfl)) rfl, gwd hG _ (tm_1 (List.mem_of_getElem? (i := 12) rfl)) rfl, ⟨by decide +kernel, by decide +kernel⟩, by decide +kernel, (Nat.le_of_ble_eq_true rfl)⟩
theorem mo_X11_length {G : GT} {l : Launch} (hG : GOK G l) : MOK G yX11_length miX11_length 1 := ⟨gwd hG (.code yX11_length cX11_length 4 (some .int)) (tm_8 (List.mem_of_getElem? (i := 89) rfl)) rfl, gwd hG _ (tm_1 (List.mem_of_getElem? (i := 12) rfl)) rfl, ⟨by decide +kernel, by decide +kernel⟩, by decide +kernel, (Nat.le_of_ble_eq_true rfl)⟩
theorem mo_X11_line {G : GT} {l : Launch} (hG : GOK G l) : MOK G yX11_line miX11_line 2 := ⟨gwd hG (.code yX11_line cX11_line 3 (some .int)) (tm_8 (List.mem_of_getElem? (i := 17) rfl)) rfl, gwd hG _ (tm_1 (List.mem_of_getElem? (i := 12) rfl)) rfl, ⟨by decide +kernel, by decide +kernel⟩, by decide +kernel, (Nat.le_of_ble_eq_true rfl)⟩
theorem mo_X11_lineAt {G : GT} {l : Launch} (hG : GOK G l) : MOK G yX11_lineAt miX11_lineAt 2 := ⟨gwd hG (.code yX11_lineAt cX11_lineAt 3 (some .int)) (tm_8 (List.mem_of_getElem? (i := 42) rfl)) rfl, gwd hG _ (tm_1 (List.mem_of_getElem? (i := 12) rfl)) rfl, ⟨by decide +kernel, by decide +kernel⟩, by decide +kernel, (Nat.le_of_ble_eq_true rfl)⟩
theorem mo_X11_may {G : GT} {l : Launch} (hG : GOK G l) : MOK G yX11_may miX11_may 1 := ⟨gwd hG (.code yX11_may cX11_may 2 (some .int)) (tm_8 (List.mem_of_getElem? (i := 136) rfl)) rfl, gwd hG _ (tm_1 (List.mem_of_getElem? (i := 12) rfl)) rfl, ⟨by decide +kernel, by decide +kernel⟩, by decide +kernel, (Nat.le_of_ble_eq_true rfl)⟩
theorem mo_X11_partOf {G : GT} {l : Launch} (hG : GOK G l) : MOK G yX11_partOf miX11_partOf 1 := ⟨gwd hG (.code yX11_partOf cX11_partOf 2 (some .int)) (tm_8 (List.mem_of_getElem? (i := 85) rfl)) rfl, gwd hG _ (tm_1 (List.mem_of_getElem? (i := 12) rfl)) rfl, ⟨by decide +kernel, by decide +kernel⟩, by decide +kernel, (Nat.le_of_ble_eq_true rfl)⟩
theorem mo_X11_parts {G : GT} {l : Launch} (hG : GOK G l) : MOK G yX11_parts miX11_parts 1 := ⟨gwd hG (.code yX11_parts cX11_parts 4 (some .int)) (tm_8 (List.mem_of_getElem? (i := 73) rfl)) rfl, gwd hG _ (tm_1 (List.mem_of_getElem? (i := 12) rfl)) rfl, ⟨by decide +kernel, by decide +kernel⟩, by decide +kernel, (Nat.le_of_ble_eq_true rfl)⟩
theorem mo_X11_perform {G : GT} {l : Launch} (hG : GOK G l) : MOK G yX11_perform miX11_perform 1 := ⟨gwd hG (.code yX11_perform cX11_perform 2 (some .int)) (tm_8 (List.mem_of_getElem? (i := 207) rfl)) rfl, gwd hG _ (tm_1 (List.mem_of_getElem? (i := 12) rfl)) rfl, ⟨by decide +kernel, by decide +kernel⟩, by decide +kernel, (Nat.le_of_ble_eq_true rfl)⟩
theorem mo_X11_places {G : GT} {l : Launch} (hG : GOK G l) : MOK G yX11_places miX11_places 1 := ⟨gwd hG (.code yX11_places cX11_places 4 (some .int)) (tm_9 (List.mem_of_getElem? (i := 25) rfl)) rfl, gwd hG _ (tm_1 (List.mem_of_getElem? (i := 12) rfl)) rfl, ⟨by decide +kernel, by decide +kernel⟩, by decide +kernel, (Nat.le_of_ble_eq_true rfl)⟩
theorem mo_X11_restore {G : GT} {l : Launch} (hG : GOK G l) : MOK G yX11_restore miX11_restore 1 := ⟨gwd hG (.code yX11_restore cX11_restore 3 none) (tm_9 (List.mem_of_getElem? (i := 86) rfl)) rfl, gwd hG _ (tm_1 (List.mem_of_getElem? (i := 12) rfl)) rfl, ⟨by decide +kernel, by decide +kernel⟩, by decide +kernel, (Nat.le_of_ble_eq_true rfl)⟩
theorem mo_X11_same {G : GT} {l : Launch} (hG : GOK G l) : MOK G yX11_same miX11_same 0 := ⟨gwd hG (.code yX11_same cX11_same 1 (some .boolean)) (tm_9 (List.mem_of_getElem? (i := 57) rfl)) rfl, gwd hG _ (tm_1 (List.mem_of_getElem? (i := 12) rfl)) rfl, ⟨by decide +kernel, by decide +kernel⟩, by decide +kernel, (Nat.le_of_ble_eq_true rfl)⟩
theorem mo_X11_sameAt {G : GT} {l : Launch} (hG : GOK G l) : MOK G yX11_sameAt miX11_sameAt 1 := ⟨gwd hG (.code yX11_sameAt cX11_sameAt 5 (some .int)) (tm_9 (List.mem_of_getElem? (i := 65) rfl)) rfl, gwd hG _ (tm_1 (List.mem_of_getElem? (i := 12) rfl)) rfl, ⟨by decide +kernel, by decide +kernel⟩, by decide +kernel, (Nat.le_of_ble_eq_true rfl)⟩
theorem mo_X11_seen {G : GT} {l : Launch} (hG : GOK G l) : MOK G yX11_seen miX11_seen 1 := ⟨gwd hG (.code yX11_seen cX11_seen 4 (some .int)) (tm_9 (List.mem_of_getElem? (i := 53) rfl)) rfl, gwd hG _ (tm_1 (List.mem_of_getElem? (i := 12) rfl)) rfl, ⟨by decide +kernel, by decide +kernel⟩, by decide +kernel, (Nat.le_of_ble_eq_true rfl)⟩
theorem mo_X11_stitch {G : GT} {l : Launch} (hG : GOK G l) : MOK G yX11_stitch miX11_stitch 1 := ⟨gwd hG (.code yX11_stitch cX11_stitch 3 (some .int)) (tm_8 (List.mem_of_getElem? (i := 159) rfl)) rfl, gwd hG _ (tm_1 (List.mem_of_getElem? (i := 12) rfl)) rfl, ⟨by decide +kernel, by decide +kernel⟩, by decide +kernel, (Nat.le_of_ble_eq_true rfl)⟩
theorem mo_X11_thread {G : GT} {l : Launch} (hG : GOK G l) : MOK G yX11_thread miX11_thread 1 := ⟨gwd hG (.code yX11_thread cX11_thread 2 (some .int)) (tm_8 (List.mem_of_getElem? (i := 179) rfl)) rfl, gwd hG _ (tm_1 (List.mem_of_getElem? (i := 12) rfl)) rfl, ⟨by decide +kernel, by decide +kernel⟩, by decide +kernel, (Nat.le_of_ble_eq_true rfl)⟩
theorem mo_X11_threads {G : GT} {l : Launch} (hG : GOK G l) : MOK G yX11_threads miX11_threads 2 := ⟨gwd hG (.code yX11_threads cX11_threads 6 (some .int)) (tm_9 (List.mem_of_getElem? (i := 29) rfl)) rfl, gwd hG _ (tm_1 (List.mem_of_getElem? (i := 12) rfl)) rfl, ⟨by decide +kernel, by decide +kernel⟩, by decide +kernel, (Nat.le_of_ble_eq_true rfl)⟩
theorem mo_X11_thrown {G : GT} {l : Launch} (hG : GOK G l) : MOK G yX11_thrown miX11_thrown 0 := ⟨gwd hG (.code yX11_thrown cX11_thrown 1 (some .int)) (tm_7 (List.mem_of_getElem? (i := 137) rfl)) rfl, gwd hG _ (tm_1 (List.mem_of_getElem? (i := 12) rfl)) rfl, ⟨by decide +kernel, by decide +kernel⟩, by decide +kernel, (Nat.le_of_ble_eq_true rfl)⟩
theorem mo_X11_tray {G : GT} {l : Launch} (hG : GOK G l) : MOK G yX11_tray miX11_tray 3 := ⟨gwd hG (.code yX11_tray cX11_tray 5 none) (tm_9 (List.mem_of_getElem? (i := 73) rfl)) rfl, gwd hG _ (tm_1 (List.mem_of_getElem? (i := 12) rfl)) rfl, ⟨by decide +kernel, by decide +kernel⟩, by decide +kernel, (Nat.le_of_ble_eq_true rfl)⟩
theorem mo_X11_unlike {G : GT} {l : Launch} (hG : GOK G l) : MOK G yX11_unlike miX11_unlike 1 := ⟨gwd hG (.code yX11_unlike cX11_unlike 4 (some .int)) (tm_9 (List.mem_of_getElem? (i := 69) rfl)) rfl, gwd hG _ (tm_1 (List.mem_of_getElem? (i := 12) rfl)) rfl, ⟨by decide +kernel, by decide +kernel⟩, by decide +kernel, (Nat.le_of_ble_eq_true rfl)⟩
theorem mo_X11_unpick {G : GT} {l : Launch} (hG : GOK G l) : MOK G yX11_unpick miX11_unpick 1 := ⟨gwd hG (.code yX11_unpick cX11_unpick 3 (some .int)) (tm_8 (List.mem_of_getElem? (i := 171) rfl)) rfl, gwd hG _ (tm_1 (List.mem_of_getElem? (i := 12) rfl)) rfl, ⟨by decide +kernel, by decide +kernel⟩, by decide +kernel, (Nat.le_of_ble_eq_true rfl)⟩
theorem mo_X11_unpicked {G : GT} {l : Launch} (hG : GOK G l) : MOK G yX11_unpicked miX11_unpicked 2 := ⟨gwd hG (.code yX11_unpicked cX11_unpicked 6 (some .int)) (tm_9 (List.mem_of_getElem? (i := 16) rfl)) rfl, gwd hG _ (tm_1 (List.mem_of_getElem? (i := 12) rfl)) rfl, ⟨by decide +kernel, by decide +kernel⟩, by decide +kernel, (Nat.le_of_ble_eq_true rfl)⟩
theorem mo_X11_ways {G : GT} {l : Launch} (hG : GOK G l) : MOK G yX11_ways miX11_ways 0 := ⟨gwd hG (.code yX11_ways cX11_ways 1 (some .int)) (tm_9 (List.mem_of_getElem? (i := 8) rfl)) rfl, gwd hG _ (tm_1 (List.mem_of_getElem? (i := 12) rfl)) rfl, ⟨by decide +kernel, by decide +kernel⟩, by decide +kernel, (Nat.le_of_ble_eq_true rfl)⟩
theorem mo_X11_work {G : GT} {l : Launch} (hG : GOK G l) : MOK G yX11_work miX11_work 0 := ⟨gwd hG (.code yX11_work cX11_work 1 (some .int)) (tm_9 (List.mem_of_getElem? (i := 4) rfl)) rfl, gwd hG _ (tm_1 (List.mem_of_getElem? (i := 12) rfl)) rfl, ⟨by decide +kernel, by decide +kernel⟩, by decide +kernel, (Nat.le_of_ble_eq_true rfl)⟩
theorem mo_X11_working {G : GT} {l : Launch} (hG : GOK G l) : MOK G yX11_working miX11_working 1 := ⟨gwd hG (.code yX11_working cX11_working 5 (some .int)) (tm_8 (List.mem_of_getElem? (i := 232) rfl)) rfl, gwd hG _ (tm_1 (List.mem_of_getElem? (i := 12) rfl)) rfl, ⟨by decide +kernel, by decide +kernel⟩, by decide +kernel, (Nat.le_of_ble_eq_true rfl)⟩
theorem mo_X11_write {G : GT} {l : Launch} (hG : GOK G l) : MOK G yX11_write miX11_write 3 := ⟨gwd hG (.code yX11_write cX11_write 6 (some .long)) (tm_9 (List.mem_of_getElem? (i := 78) rfl)) rfl, gwd hG _ (tm_1 (List.mem_of_getElem? (i := 12) rfl)) rfl, ⟨by decide +kernel, by decide +kernel⟩, by decide +kernel, (Nat.le_of_ble_eq_true rfl)⟩
def miL_drawing : MI := (cL_drawing, 4, RL, (some .int), 22, [(0, 9, 12, 13)])
theorem cV_L_7 {G : GT} {l : Launch} (hG : GOK G l) : CVK G RL 7 yX10_drawing miX10_drawing 1 10 := ⟨gwd hG _ (tm_3 (List.mem_of_getElem? (i := 21) rfl)) rfl, gwd hG _ (tm_3 (List.mem_of_getElem? (i := 22) rfl)) rfl, gwd hG _ (tm_3 (List.mem_of_getElem? (i := 23) rfl)) rfl, mo_X10_drawing hG, (Nat.le_of_ble_eq_true rfl), _, rfl, rfl⟩
theorem hn_L_drawing_0 {G : GT} {l : Launch} (hG : GOK G l) : Hnd G miL_drawing 4 "java/lang/IllegalArgumentException" 1 := ⟨[], (0, 9, 12, 13), [], 12, 3, 1, 1, rfl, (fun _ h => absurd h List.not_mem_nil), by decide, by decide, gwd hG _ (tm_3 (List.mem_of_getElem? (i := 20) rfl)) rfl, gwd hG _ (tm_3 (List.mem_of_getElem? (i := 27) rfl)) rfl, rfl, rfl, Or.inl ⟨3, dL_drawing_12, rfl, rfl⟩, (Nat.le_of_ble_eq_true rfl), dL_drawing_13, rfl, dL_drawing_14⟩
def miL_line : MI := (cL_line, 5, RL, (some .int), 8, [(0, 10, 13, 19), (0, 10, 17, 13)])
theorem cV_L_15 {G : GT} {l : Launch} (hG : GOK G l) : CVK G RL 15 yX10_line miX10_line 2 10 := ⟨gwd hG _ (tm_4 (List.mem_of_getElem? (i := 79) rfl)) rfl, gwd hG _ (tm_4 (List.mem_of_getElem? (i := 80) rfl)) rfl, gwd hG _ (tm_4 (List.mem_of_getElem? (i := 81) rfl)) rfl, mo_X10_line hG, (Nat.le_of_ble_eq_true rfl), _, rfl, rfl⟩
theorem hn_L_line_0 {G : GT} {l : Launch} (hG : GOK G l) : Hnd G miL_line 5 "java/util/NoSuchElementException" 1 := ⟨[], (0, 10, 13, 19), [(0, 10, 17, 13)], 13, 4, 2, 1, rfl, (fun _ h => absurd h List.not_mem_nil), by decide, by decide, gwd hG _ (tm_4 (List.mem_of_getElem? (i := 78) rfl)) rfl, gwd hG _ (tm_4 (List.mem_of_getElem? (i := 89) rfl)) rfl, rfl, rfl, Or.inr ⟨dL_line_13, rfl⟩, (Nat.le_of_ble_eq_true rfl), dL_line_15, rfl, dL_line_16⟩
theorem hn_L_line_1 {G : GT} {l : Launch} (hG : GOK G l) : Hnd G miL_line 5 "java/lang/IllegalArgumentException" 2 := ⟨[(0, 10, 13, 19)], (0, 10, 17, 13), [], 17, 4, 2, 2, rfl, List.forall_mem_cons.mpr ⟨⟨by decide, "java/util/NoSuchElementException", gwd hG _ (tm_4 (List.mem_of_getElem? (i := 78) rfl)) rfl, hG.2.2.2.2.1.2.2.2.2.2.2.2.2.2.1 ("java/lang/IllegalArgumentException", "java/util/NoSuchElementException") (by decide +kernel)⟩, (fun _ h => absurd h List.not_mem_nil)⟩, by decide, by decide, gwd hG _ (tm_3 (List.mem_of_getElem? (i := 20) rfl)) rfl, gwd hG _ (tm_3 (List.mem_of_getElem? (i := 27) rfl)) rfl, rfl, rfl, Or.inr ⟨dL_line_17, rfl⟩, (Nat.le_of_ble_eq_true rfl), dL_line_19, rfl, dL_line_20⟩
def miL_lineAt : MI := (cL_lineAt, 5, RL, (some .int), 8, [(0, 10, 13, 19)])
theorem cV_L_21 {G : GT} {l : Launch} (hG : GOK G l) : CVK G RL 21 yX10_lineAt miX10_lineAt 2 10 := ⟨gwd hG _ (tm_4 (List.mem_of_getElem? (i := 120) rfl)) rfl, gwd hG _ (tm_4 (List.mem_of_getElem? (i := 121) rfl)) rfl, gwd hG _ (tm_4 (List.mem_of_getElem? (i := 122) rfl)) rfl, mo_X10_lineAt hG, (Nat.le_of_ble_eq_true rfl), _, rfl, rfl⟩
theorem hn_L_lineAt_0 {G : GT} {l : Launch} (hG : GOK G l) : Hnd G miL_lineAt 5 "java/util/NoSuchElementException" 1 := ⟨[], (0, 10, 13, 19), [], 13, 4, 2, 1, rfl, (fun _ h => absurd h List.not_mem_nil), by decide, by decide, gwd hG _ (tm_4 (List.mem_of_getElem? (i := 78) rfl)) rfl, gwd hG _ (tm_4 (List.mem_of_getElem? (i := 89) rfl)) rfl, rfl, rfl, Or.inr ⟨dL_lineAt_13, rfl⟩, (Nat.le_of_ble_eq_true rfl), dL_lineAt_15, rfl, dL_lineAt_16⟩
def miL_ends : MI := (cL_ends, 5, RL, (some .int), 9, [(0, 10, 13, 19), (0, 10, 17, 13)])
theorem cV_L_24 {G : GT} {l : Launch} (hG : GOK G l) : CVK G RL 24 yX10_ends miX10_ends 2 10 := ⟨gwd hG _ (tm_4 (List.mem_of_getElem? (i := 136) rfl)) rfl, gwd hG _ (tm_4 (List.mem_of_getElem? (i := 137) rfl)) rfl, gwd hG _ (tm_4 (List.mem_of_getElem? (i := 138) rfl)) rfl, mo_X10_ends hG, (Nat.le_of_ble_eq_true rfl), _, rfl, rfl⟩
theorem hn_L_ends_0 {G : GT} {l : Launch} (hG : GOK G l) : Hnd G miL_ends 5 "java/util/NoSuchElementException" 1 := ⟨[], (0, 10, 13, 19), [(0, 10, 17, 13)], 13, 4, 2, 1, rfl, (fun _ h => absurd h List.not_mem_nil), by decide, by decide, gwd hG _ (tm_4 (List.mem_of_getElem? (i := 78) rfl)) rfl, gwd hG _ (tm_4 (List.mem_of_getElem? (i := 89) rfl)) rfl, rfl, rfl, Or.inr ⟨dL_ends_13, rfl⟩, (Nat.le_of_ble_eq_true rfl), dL_ends_15, rfl, dL_ends_16⟩
theorem hn_L_ends_1 {G : GT} {l : Launch} (hG : GOK G l) : Hnd G miL_ends 5 "java/lang/IllegalArgumentException" 2 := ⟨[(0, 10, 13, 19)], (0, 10, 17, 13), [], 17, 4, 2, 2, rfl, List.forall_mem_cons.mpr ⟨⟨by decide, "java/util/NoSuchElementException", gwd hG _ (tm_4 (List.mem_of_getElem? (i := 78) rfl)) rfl, hG.2.2.2.2.1.2.2.2.2.2.2.2.2.2.1 ("java/lang/IllegalArgumentException", "java/util/NoSuchElementException") (by decide +kernel)⟩, (fun _ h => absurd h List.not_mem_nil)⟩, by decide, by decide, gwd hG _ (tm_3 (List.mem_of_getElem? (i := 20) rfl)) rfl, gwd hG _ (tm_3 (List.mem_of_getElem? (i := 27) rfl)) rfl, rfl, rfl, Or.inr ⟨dL_ends_17, rfl⟩, (Nat.le_of_ble_eq_true rfl), dL_ends_19, rfl, dL_ends_20⟩
def miL_parts : MI := (cL_parts, 4, RL, (some .int), 8, [(0, 9, 12, 13)])
theorem cV_L_27 {G : GT} {l : Launch} (hG : GOK G l) : CVK G RL 27 yX10_parts miX10_parts 1 10 := ⟨gwd hG _ (tm_4 (List.mem_of_getElem? (i := 158) rfl)) rfl, gwd hG _ (tm_4 (List.mem_of_getElem? (i := 159) rfl)) rfl, gwd hG _ (tm_4 (List.mem_of_getElem? (i := 160) rfl)) rfl, mo_X10_parts hG, (Nat.le_of_ble_eq_true rfl), _, rfl, rfl⟩
theorem hn_L_parts_0 {G : GT} {l : Launch} (hG : GOK G l) : Hnd G miL_parts 4 "java/lang/IllegalArgumentException" 1 := ⟨[], (0, 9, 12, 13), [], 12, 3, 1, 1, rfl, (fun _ h => absurd h List.not_mem_nil), by decide, by decide, gwd hG _ (tm_3 (List.mem_of_getElem? (i := 20) rfl)) rfl, gwd hG _ (tm_3 (List.mem_of_getElem? (i := 27) rfl)) rfl, rfl, rfl, Or.inl ⟨3, dL_parts_12, rfl, rfl⟩, (Nat.le_of_ble_eq_true rfl), dL_parts_13, rfl, dL_parts_14⟩
def miL_partOf : MI := (cL_partOf, 4, RL, (some .int), 8, [(0, 9, 12, 19)])
theorem cV_L_30 {G : GT} {l : Launch} (hG : GOK G l) : CVK G RL 30 yX10_partOf miX10_partOf 1 10 := ⟨gwd hG _ (tm_4 (List.mem_of_getElem? (i := 181) rfl)) rfl, gwd hG _ (tm_4 (List.mem_of_getElem? (i := 182) rfl)) rfl, gwd hG _ (tm_4 (List.mem_of_getElem? (i := 183) rfl)) rfl, mo_X10_partOf hG, (Nat.le_of_ble_eq_true rfl), _, rfl, rfl⟩
theorem hn_L_partOf_0 {G : GT} {l : Launch} (hG : GOK G l) : Hnd G miL_partOf 4 "java/util/NoSuchElementException" 1 := ⟨[], (0, 9, 12, 19), [], 12, 3, 1, 1, rfl, (fun _ h => absurd h List.not_mem_nil), by decide, by decide, gwd hG _ (tm_4 (List.mem_of_getElem? (i := 78) rfl)) rfl, gwd hG _ (tm_4 (List.mem_of_getElem? (i := 89) rfl)) rfl, rfl, rfl, Or.inl ⟨3, dL_partOf_12, rfl, rfl⟩, (Nat.le_of_ble_eq_true rfl), dL_partOf_13, rfl, dL_partOf_14⟩
def miL_length : MI := (cL_length, 4, RL, (some .int), 11, [(0, 9, 12, 13)])
theorem cV_L_33 {G : GT} {l : Launch} (hG : GOK G l) : CVK G RL 33 yX10_length miX10_length 1 10 := ⟨gwd hG _ (tm_4 (List.mem_of_getElem? (i := 190) rfl)) rfl, gwd hG _ (tm_4 (List.mem_of_getElem? (i := 191) rfl)) rfl, gwd hG _ (tm_4 (List.mem_of_getElem? (i := 192) rfl)) rfl, mo_X10_length hG, (Nat.le_of_ble_eq_true rfl), _, rfl, rfl⟩
theorem hn_L_length_0 {G : GT} {l : Launch} (hG : GOK G l) : Hnd G miL_length 4 "java/lang/IllegalArgumentException" 1 := ⟨[], (0, 9, 12, 13), [], 12, 3, 1, 1, rfl, (fun _ h => absurd h List.not_mem_nil), by decide, by decide, gwd hG _ (tm_3 (List.mem_of_getElem? (i := 20) rfl)) rfl, gwd hG _ (tm_3 (List.mem_of_getElem? (i := 27) rfl)) rfl, rfl, rfl, Or.inl ⟨3, dL_length_12, rfl, rfl⟩, (Nat.le_of_ble_eq_true rfl), dL_length_13, rfl, dL_length_14⟩
def miL_alike : MI := (cL_alike, 4, RL, (some .int), 11, [(0, 16, 19, 13)])
theorem cV_L_36 {G : GT} {l : Launch} (hG : GOK G l) : CVK G RL 36 yX10_alike miX10_alike 1 10 := ⟨gwd hG _ (tm_4 (List.mem_of_getElem? (i := 204) rfl)) rfl, gwd hG _ (tm_4 (List.mem_of_getElem? (i := 205) rfl)) rfl, gwd hG _ (tm_4 (List.mem_of_getElem? (i := 206) rfl)) rfl, mo_X10_alike hG, (Nat.le_of_ble_eq_true rfl), _, rfl, rfl⟩
theorem hn_L_alike_0 {G : GT} {l : Launch} (hG : GOK G l) : Hnd G miL_alike 4 "java/lang/IllegalArgumentException" 1 := ⟨[], (0, 16, 19, 13), [], 19, 3, 1, 1, rfl, (fun _ h => absurd h List.not_mem_nil), by decide, by decide, gwd hG _ (tm_3 (List.mem_of_getElem? (i := 20) rfl)) rfl, gwd hG _ (tm_3 (List.mem_of_getElem? (i := 27) rfl)) rfl, rfl, rfl, Or.inl ⟨3, dL_alike_19, rfl, rfl⟩, (Nat.le_of_ble_eq_true rfl), dL_alike_20, rfl, dL_alike_21⟩
def miL_begin : MI := (cL_begin, 5, RL, (some .int), 8, [(0, 7, 10, 19), (0, 7, 14, 13)])
theorem cV_L_40 {G : GT} {l : Launch} (hG : GOK G l) : CVK G RL 40 yX10_begin miX10_begin 3 10 := ⟨gwd hG _ (tm_4 (List.mem_of_getElem? (i := 228) rfl)) rfl, gwd hG _ (tm_4 (List.mem_of_getElem? (i := 229) rfl)) rfl, gwd hG _ (tm_4 (List.mem_of_getElem? (i := 230) rfl)) rfl, mo_X10_begin hG, (Nat.le_of_ble_eq_true rfl), _, rfl, rfl⟩
theorem hn_L_begin_0 {G : GT} {l : Launch} (hG : GOK G l) : Hnd G miL_begin 4 "java/util/NoSuchElementException" 1 := ⟨[], (0, 7, 10, 19), [(0, 7, 14, 13)], 10, 4, 2, 1, rfl, (fun _ h => absurd h List.not_mem_nil), by decide, by decide, gwd hG _ (tm_4 (List.mem_of_getElem? (i := 78) rfl)) rfl, gwd hG _ (tm_4 (List.mem_of_getElem? (i := 89) rfl)) rfl, rfl, rfl, Or.inr ⟨dL_begin_10, rfl⟩, (Nat.le_of_ble_eq_true rfl), dL_begin_12, rfl, dL_begin_13⟩
theorem hn_L_begin_1 {G : GT} {l : Launch} (hG : GOK G l) : Hnd G miL_begin 4 "java/lang/IllegalArgumentException" 2 := ⟨[(0, 7, 10, 19)], (0, 7, 14, 13), [], 14, 4, 2, 2, rfl, List.forall_mem_cons.mpr ⟨⟨by decide, "java/util/NoSuchElementException", gwd hG _ (tm_4 (List.mem_of_getElem? (i := 78) rfl)) rfl, hG.2.2.2.2.1.2.2.2.2.2.2.2.2.2.1 ("java/lang/IllegalArgumentException", "java/util/NoSuchElementException") (by decide +kernel)⟩, (fun _ h => absurd h List.not_mem_nil)⟩, by decide, by decide, gwd hG _ (tm_3 (List.mem_of_getElem? (i := 20) rfl)) rfl, gwd hG _ (tm_3 (List.mem_of_getElem? (i := 27) rfl)) rfl, rfl, rfl, Or.inr ⟨dL_begin_14, rfl⟩, (Nat.le_of_ble_eq_true rfl), dL_begin_16, rfl, dL_begin_17⟩
def miL_cut : MI := (cL_cut, 3, RL, (some .int), 8, [(0, 8, 11, 48)])
theorem cV_L_44 {G : GT} {l : Launch} (hG : GOK G l) : CVK G RL 44 yX10_cut miX10_cut 0 10 := ⟨gwd hG _ (tm_5 (List.mem_of_getElem? (i := 4) rfl)) rfl, gwd hG _ (tm_5 (List.mem_of_getElem? (i := 5) rfl)) rfl, gwd hG _ (tm_5 (List.mem_of_getElem? (i := 6) rfl)) rfl, mo_X10_cut hG, (Nat.le_of_ble_eq_true rfl), _, rfl, rfl⟩
theorem hn_L_cut_0 {G : GT} {l : Launch} (hG : GOK G l) : Hnd G miL_cut 3 "java/lang/IllegalStateException" 1 := ⟨[], (0, 8, 11, 48), [], 11, 2, 1, 1, rfl, (fun _ h => absurd h List.not_mem_nil), by decide, by decide, gwd hG _ (tm_5 (List.mem_of_getElem? (i := 3) rfl)) rfl, gwd hG _ (tm_5 (List.mem_of_getElem? (i := 14) rfl)) rfl, rfl, rfl, Or.inl ⟨2, dL_cut_11, rfl, rfl⟩, (Nat.le_of_ble_eq_true rfl), dL_cut_12, rfl, dL_cut_13⟩
def miL_may : MI := (cL_may, 4, RL, (some .int), 8, [(0, 9, 12, 19)])
theorem cV_L_50 {G : GT} {l : Launch} (hG : GOK G l) : CVK G RL 50 yX10_may miX10_may 1 10 := ⟨gwd hG _ (tm_5 (List.mem_of_getElem? (i := 32) rfl)) rfl, gwd hG _ (tm_5 (List.mem_of_getElem? (i := 33) rfl)) rfl, gwd hG _ (tm_5 (List.mem_of_getElem? (i := 34) rfl)) rfl, mo_X10_may hG, (Nat.le_of_ble_eq_true rfl), _, rfl, rfl⟩
theorem hn_L_may_0 {G : GT} {l : Launch} (hG : GOK G l) : Hnd G miL_may 4 "java/util/NoSuchElementException" 1 := ⟨[], (0, 9, 12, 19), [], 12, 3, 1, 1, rfl, (fun _ h => absurd h List.not_mem_nil), by decide, by decide, gwd hG _ (tm_4 (List.mem_of_getElem? (i := 78) rfl)) rfl, gwd hG _ (tm_4 (List.mem_of_getElem? (i := 89) rfl)) rfl, rfl, rfl, Or.inl ⟨3, dL_may_12, rfl, rfl⟩, (Nat.le_of_ble_eq_true rfl), dL_may_13, rfl, dL_may_14⟩
def miL_stitch : MI := (cL_stitch, 4, RL, (some .int), 8, [(0, 9, 12, 19)])
theorem cV_L_53 {G : GT} {l : Launch} (hG : GOK G l) : CVK G RL 53 yX10_stitch miX10_stitch 1 10 := ⟨gwd hG _ (tm_5 (List.mem_of_getElem? (i := 49) rfl)) rfl, gwd hG _ (tm_5 (List.mem_of_getElem? (i := 50) rfl)) rfl, gwd hG _ (tm_5 (List.mem_of_getElem? (i := 51) rfl)) rfl, mo_X10_stitch hG, (Nat.le_of_ble_eq_true rfl), _, rfl, rfl⟩
theorem hn_L_stitch_0 {G : GT} {l : Launch} (hG : GOK G l) : Hnd G miL_stitch 4 "java/util/NoSuchElementException" 1 := ⟨[], (0, 9, 12, 19), [], 12, 3, 1, 1, rfl, (fun _ h => absurd h List.not_mem_nil), by decide, by decide, gwd hG _ (tm_4 (List.mem_of_getElem? (i := 78) rfl)) rfl, gwd hG _ (tm_4 (List.mem_of_getElem? (i := 89) rfl)) rfl, rfl, rfl, Or.inl ⟨3, dL_stitch_12, rfl, rfl⟩, (Nat.le_of_ble_eq_true rfl), dL_stitch_13, rfl, dL_stitch_14⟩
def miL_unpick : MI := (cL_unpick, 4, RL, (some .int), 8, [(0, 9, 12, 48), (0, 9, 15, 13)])
theorem cV_L_56 {G : GT} {l : Launch} (hG : GOK G l) : CVK G RL 56 yX10_unpick miX10_unpick 1 10 := ⟨gwd hG _ (tm_5 (List.mem_of_getElem? (i := 69) rfl)) rfl, gwd hG _ (tm_5 (List.mem_of_getElem? (i := 70) rfl)) rfl, gwd hG _ (tm_5 (List.mem_of_getElem? (i := 71) rfl)) rfl, mo_X10_unpick hG, (Nat.le_of_ble_eq_true rfl), _, rfl, rfl⟩
theorem hn_L_unpick_0 {G : GT} {l : Launch} (hG : GOK G l) : Hnd G miL_unpick 4 "java/lang/IllegalStateException" 1 := ⟨[], (0, 9, 12, 48), [(0, 9, 15, 13)], 12, 3, 1, 1, rfl, (fun _ h => absurd h List.not_mem_nil), by decide, by decide, gwd hG _ (tm_5 (List.mem_of_getElem? (i := 3) rfl)) rfl, gwd hG _ (tm_5 (List.mem_of_getElem? (i := 14) rfl)) rfl, rfl, rfl, Or.inl ⟨3, dL_unpick_12, rfl, rfl⟩, (Nat.le_of_ble_eq_true rfl), dL_unpick_13, rfl, dL_unpick_14⟩
theorem hn_L_unpick_1 {G : GT} {l : Launch} (hG : GOK G l) : Hnd G miL_unpick 4 "java/lang/IllegalArgumentException" 2 := ⟨[(0, 9, 12, 48)], (0, 9, 15, 13), [], 15, 3, 1, 2, rfl, List.forall_mem_cons.mpr ⟨⟨by decide, "java/lang/IllegalStateException", gwd hG _ (tm_5 (List.mem_of_getElem? (i := 3) rfl)) rfl, hG.2.2.2.2.1.2.2.2.2.2.2.2.2.2.1 ("java/lang/IllegalArgumentException", "java/lang/IllegalStateException") (by decide +kernel)⟩, (fun _ h => absurd h List.not_mem_nil)⟩, by decide, by decide, gwd hG _ (tm_3 (List.mem_of_getElem? (i := 20) rfl)) rfl, gwd hG _ (tm_3 (List.mem_of_getElem? (i := 27) rfl)) rfl, rfl, rfl, Or.inl ⟨3, dL_unpick_15, rfl, rfl⟩, (Nat.le_of_ble_eq_true rfl), dL_unpick_16, rfl, dL_unpick_17⟩
def miL_thread : MI := (cL_thread, 4, RL, (some .int), 8, [(0, 9, 12, 48), (0, 9, 15, 13)])
theorem cV_L_59 {G : GT} {l : Launch} (hG : GOK G l) : CVK G RL 59 yX10_thread miX10_thread 1 10 := ⟨gwd hG _ (tm_5 (List.mem_of_getElem? (i := 85) rfl)) rfl, gwd hG _ (tm_5 (List.mem_of_getElem? (i := 86) rfl)) rfl, gwd hG _ (tm_5 (List.mem_of_getElem? (i := 87) rfl)) rfl, mo_X10_thread hG, (Nat.le_of_ble_eq_true rfl), _, rfl, rfl⟩
theorem hn_L_thread_0 {G : GT} {l : Launch} (hG : GOK G l) : Hnd G miL_thread 4 "java/lang/IllegalStateException" 1 := ⟨[], (0, 9, 12, 48), [(0, 9, 15, 13)], 12, 3, 1, 1, rfl, (fun _ h => absurd h List.not_mem_nil), by decide, by decide, gwd hG _ (tm_5 (List.mem_of_getElem? (i := 3) rfl)) rfl, gwd hG _ (tm_5 (List.mem_of_getElem? (i := 14) rfl)) rfl, rfl, rfl, Or.inl ⟨3, dL_thread_12, rfl, rfl⟩, (Nat.le_of_ble_eq_true rfl), dL_thread_13, rfl, dL_thread_14⟩
theorem hn_L_thread_1 {G : GT} {l : Launch} (hG : GOK G l) : Hnd G miL_thread 4 "java/lang/IllegalArgumentException" 2 := ⟨[(0, 9, 12, 48)], (0, 9, 15, 13), [], 15, 3, 1, 2, rfl, List.forall_mem_cons.mpr ⟨⟨by decide, "java/lang/IllegalStateException", gwd hG _ (tm_5 (List.mem_of_getElem? (i := 3) rfl)) rfl, hG.2.2.2.2.1.2.2.2.2.2.2.2.2.2.1 ("java/lang/IllegalArgumentException", "java/lang/IllegalStateException") (by decide +kernel)⟩, (fun _ h => absurd h List.not_mem_nil)⟩, by decide, by decide, gwd hG _ (tm_3 (List.mem_of_getElem? (i := 20) rfl)) rfl, gwd hG _ (tm_3 (List.mem_of_getElem? (i := 27) rfl)) rfl, rfl, rfl, Or.inl ⟨3, dL_thread_15, rfl, rfl⟩, (Nat.le_of_ble_eq_true rfl), dL_thread_16, rfl, dL_thread_17⟩
def miL_done : MI := (cL_done, 4, RL, (some .int), 8, [(0, 9, 12, 48)])
theorem cV_L_62 {G : GT} {l : Launch} (hG : GOK G l) : CVK G RL 62 yX10_done miX10_done 1 10 := ⟨gwd hG _ (tm_5 (List.mem_of_getElem? (i := 94) rfl)) rfl, gwd hG _ (tm_5 (List.mem_of_getElem? (i := 95) rfl)) rfl, gwd hG _ (tm_5 (List.mem_of_getElem? (i := 96) rfl)) rfl, mo_X10_done hG, (Nat.le_of_ble_eq_true rfl), _, rfl, rfl⟩
theorem hn_L_done_0 {G : GT} {l : Launch} (hG : GOK G l) : Hnd G miL_done 4 "java/lang/IllegalStateException" 1 := ⟨[], (0, 9, 12, 48), [], 12, 3, 1, 1, rfl, (fun _ h => absurd h List.not_mem_nil), by decide, by decide, gwd hG _ (tm_5 (List.mem_of_getElem? (i := 3) rfl)) rfl, gwd hG _ (tm_5 (List.mem_of_getElem? (i := 14) rfl)) rfl, rfl, rfl, Or.inl ⟨3, dL_done_12, rfl, rfl⟩, (Nat.le_of_ble_eq_true rfl), dL_done_13, rfl, dL_done_14⟩
def miL_judge : MI := (cL_judge, 5, RL, (some .int), 11, [(0, 10, 13, 19), (0, 10, 17, 48), (0, 10, 21, 13)])
theorem cV_L_65 {G : GT} {l : Launch} (hG : GOK G l) : CVK G RL 65 yX10_judge miX10_judge 2 10 := ⟨gwd hG _ (tm_5 (List.mem_of_getElem? (i := 102) rfl)) rfl, gwd hG _ (tm_5 (List.mem_of_getElem? (i := 103) rfl)) rfl, gwd hG _ (tm_5 (List.mem_of_getElem? (i := 104) rfl)) rfl, mo_X10_judge hG, (Nat.le_of_ble_eq_true rfl), _, rfl, rfl⟩
theorem hn_L_judge_0 {G : GT} {l : Launch} (hG : GOK G l) : Hnd G miL_judge 5 "java/util/NoSuchElementException" 1 := ⟨[], (0, 10, 13, 19), [(0, 10, 17, 48), (0, 10, 21, 13)], 13, 4, 2, 1, rfl, (fun _ h => absurd h List.not_mem_nil), by decide, by decide, gwd hG _ (tm_4 (List.mem_of_getElem? (i := 78) rfl)) rfl, gwd hG _ (tm_4 (List.mem_of_getElem? (i := 89) rfl)) rfl, rfl, rfl, Or.inr ⟨dL_judge_13, rfl⟩, (Nat.le_of_ble_eq_true rfl), dL_judge_15, rfl, dL_judge_16⟩
theorem hn_L_judge_1 {G : GT} {l : Launch} (hG : GOK G l) : Hnd G miL_judge 5 "java/lang/IllegalStateException" 2 := ⟨[(0, 10, 13, 19)], (0, 10, 17, 48), [(0, 10, 21, 13)], 17, 4, 2, 2, rfl, List.forall_mem_cons.mpr ⟨⟨by decide, "java/util/NoSuchElementException", gwd hG _ (tm_4 (List.mem_of_getElem? (i := 78) rfl)) rfl, hG.2.2.2.2.1.2.2.2.2.2.2.2.2.2.1 ("java/lang/IllegalStateException", "java/util/NoSuchElementException") (by decide +kernel)⟩, (fun _ h => absurd h List.not_mem_nil)⟩, by decide, by decide, gwd hG _ (tm_5 (List.mem_of_getElem? (i := 3) rfl)) rfl, gwd hG _ (tm_5 (List.mem_of_getElem? (i := 14) rfl)) rfl, rfl, rfl, Or.inr ⟨dL_judge_17, rfl⟩, (Nat.le_of_ble_eq_true rfl), dL_judge_19, rfl, dL_judge_20⟩
theorem hn_L_judge_2 {G : GT} {l : Launch} (hG : GOK G l) : Hnd G miL_judge 5 "java/lang/IllegalArgumentException" 3 := ⟨[(0, 10, 13, 19), (0, 10, 17, 48)], (0, 10, 21, 13), [], 21, 4, 2, 3, rfl, List.forall_mem_cons.mpr ⟨⟨by decide, "java/util/NoSuchElementException", gwd hG _ (tm_4 (List.mem_of_getElem? (i := 78) rfl)) rfl, hG.2.2.2.2.1.2.2.2.2.2.2.2.2.2.1 ("java/lang/IllegalArgumentException", "java/util/NoSuchElementException") (by decide +kernel)⟩, List.forall_mem_cons.mpr ⟨⟨by decide, "java/lang/IllegalStateException", gwd hG _ (tm_5 (List.mem_of_getElem? (i := 3) rfl)) rfl, hG.2.2.2.2.1.2.2.2.2.2.2.2.2.2.1 ("java/lang/IllegalArgumentException", "java/lang/IllegalStateException") (by decide +kernel)⟩, (fun _ h => absurd h List.not_mem_nil)⟩⟩, by decide, by decide, gwd hG _ (tm_3 (List.mem_of_getElem? (i := 20) rfl)) rfl, gwd hG _ (tm_3 (List.mem_of_getElem? (i := 27) rfl)) rfl, rfl, rfl, Or.inr ⟨dL_judge_21, rfl⟩, (Nat.le_of_ble_eq_true rfl), dL_judge_23, rfl, dL_judge_24⟩
def miL_perform : MI := (cL_perform, 4, RL, (some .int), 8, [(0, 9, 12, 19), (0, 9, 15, 48)])
theorem cV_L_68 {G : GT} {l : Launch} (hG : GOK G l) : CVK G RL 68 yX10_perform miX10_perform 1 10 := ⟨gwd hG _ (tm_5 (List.mem_of_getElem? (i := 147) rfl)) rfl, gwd hG _ (tm_5 (List.mem_of_getElem? (i := 148) rfl)) rfl, gwd hG _ (tm_5 (List.mem_of_getElem? (i := 149) rfl)) rfl, mo_X10_perform hG, (Nat.le_of_ble_eq_true rfl), _, rfl, rfl⟩
theorem hn_L_perform_0 {G : GT} {l : Launch} (hG : GOK G l) : Hnd G miL_perform 4 "java/util/NoSuchElementException" 1 := ⟨[], (0, 9, 12, 19), [(0, 9, 15, 48)], 12, 3, 1, 1, rfl, (fun _ h => absurd h List.not_mem_nil), by decide, by decide, gwd hG _ (tm_4 (List.mem_of_getElem? (i := 78) rfl)) rfl, gwd hG _ (tm_4 (List.mem_of_getElem? (i := 89) rfl)) rfl, rfl, rfl, Or.inl ⟨3, dL_perform_12, rfl, rfl⟩, (Nat.le_of_ble_eq_true rfl), dL_perform_13, rfl, dL_perform_14⟩
theorem hn_L_perform_1 {G : GT} {l : Launch} (hG : GOK G l) : Hnd G miL_perform 4 "java/lang/IllegalStateException" 2 := ⟨[(0, 9, 12, 19)], (0, 9, 15, 48), [], 15, 3, 1, 2, rfl, List.forall_mem_cons.mpr ⟨⟨by decide, "java/util/NoSuchElementException", gwd hG _ (tm_4 (List.mem_of_getElem? (i := 78) rfl)) rfl, hG.2.2.2.2.1.2.2.2.2.2.2.2.2.2.1 ("java/lang/IllegalStateException", "java/util/NoSuchElementException") (by decide +kernel)⟩, (fun _ h => absurd h List.not_mem_nil)⟩, by decide, by decide, gwd hG _ (tm_5 (List.mem_of_getElem? (i := 3) rfl)) rfl, gwd hG _ (tm_5 (List.mem_of_getElem? (i := 14) rfl)) rfl, rfl, rfl, Or.inl ⟨3, dL_perform_15, rfl, rfl⟩, (Nat.le_of_ble_eq_true rfl), dL_perform_16, rfl, dL_perform_17⟩
def miL_left : MI := (cL_left, 3, RL, (some .int), 8, [(0, 8, 11, 48)])
theorem cV_L_71 {G : GT} {l : Launch} (hG : GOK G l) : CVK G RL 71 yX10_left miX10_left 0 10 := ⟨gwd hG _ (tm_5 (List.mem_of_getElem? (i := 154) rfl)) rfl, gwd hG _ (tm_5 (List.mem_of_getElem? (i := 155) rfl)) rfl, gwd hG _ (tm_5 (List.mem_of_getElem? (i := 156) rfl)) rfl, mo_X10_left hG, (Nat.le_of_ble_eq_true rfl), _, rfl, rfl⟩
theorem hn_L_left_0 {G : GT} {l : Launch} (hG : GOK G l) : Hnd G miL_left 3 "java/lang/IllegalStateException" 1 := ⟨[], (0, 8, 11, 48), [], 11, 2, 1, 1, rfl, (fun _ h => absurd h List.not_mem_nil), by decide, by decide, gwd hG _ (tm_5 (List.mem_of_getElem? (i := 3) rfl)) rfl, gwd hG _ (tm_5 (List.mem_of_getElem? (i := 14) rfl)) rfl, rfl, rfl, Or.inl ⟨2, dL_left_11, rfl, rfl⟩, (Nat.le_of_ble_eq_true rfl), dL_left_12, rfl, dL_left_13⟩
def miL_barred : MI := (cL_barred, 4, RL, (some .int), 8, [(0, 9, 12, 48), (0, 9, 15, 13)])
theorem cV_L_74 {G : GT} {l : Launch} (hG : GOK G l) : CVK G RL 74 yX10_barred miX10_barred 1 10 := ⟨gwd hG _ (tm_5 (List.mem_of_getElem? (i := 161) rfl)) rfl, gwd hG _ (tm_5 (List.mem_of_getElem? (i := 162) rfl)) rfl, gwd hG _ (tm_5 (List.mem_of_getElem? (i := 163) rfl)) rfl, mo_X10_barred hG, (Nat.le_of_ble_eq_true rfl), _, rfl, rfl⟩
theorem hn_L_barred_0 {G : GT} {l : Launch} (hG : GOK G l) : Hnd G miL_barred 4 "java/lang/IllegalStateException" 1 := ⟨[], (0, 9, 12, 48), [(0, 9, 15, 13)], 12, 3, 1, 1, rfl, (fun _ h => absurd h List.not_mem_nil), by decide, by decide, gwd hG _ (tm_5 (List.mem_of_getElem? (i := 3) rfl)) rfl, gwd hG _ (tm_5 (List.mem_of_getElem? (i := 14) rfl)) rfl, rfl, rfl, Or.inl ⟨3, dL_barred_12, rfl, rfl⟩, (Nat.le_of_ble_eq_true rfl), dL_barred_13, rfl, dL_barred_14⟩
theorem hn_L_barred_1 {G : GT} {l : Launch} (hG : GOK G l) : Hnd G miL_barred 4 "java/lang/IllegalArgumentException" 2 := ⟨[(0, 9, 12, 48)], (0, 9, 15, 13), [], 15, 3, 1, 2, rfl, List.forall_mem_cons.mpr ⟨⟨by decide, "java/lang/IllegalStateException", gwd hG _ (tm_5 (List.mem_of_getElem? (i := 3) rfl)) rfl, hG.2.2.2.2.1.2.2.2.2.2.2.2.2.2.1 ("java/lang/IllegalArgumentException", "java/lang/IllegalStateException") (by decide +kernel)⟩, (fun _ h => absurd h List.not_mem_nil)⟩, by decide, by decide, gwd hG _ (tm_3 (List.mem_of_getElem? (i := 20) rfl)) rfl, gwd hG _ (tm_3 (List.mem_of_getElem? (i := 27) rfl)) rfl, rfl, rfl, Or.inl ⟨3, dL_barred_15, rfl, rfl⟩, (Nat.le_of_ble_eq_true rfl), dL_barred_16, rfl, dL_barred_17⟩
def miL_ending : MI := (cL_ending, 3, RL, (some .int), 8, [(0, 8, 11, 48)])
theorem cV_L_77 {G : GT} {l : Launch} (hG : GOK G l) : CVK G RL 77 yX10_ending miX10_ending 0 10 := ⟨gwd hG _ (tm_5 (List.mem_of_getElem? (i := 201) rfl)) rfl, gwd hG _ (tm_5 (List.mem_of_getElem? (i := 202) rfl)) rfl, gwd hG _ (tm_5 (List.mem_of_getElem? (i := 203) rfl)) rfl, mo_X10_ending hG, (Nat.le_of_ble_eq_true rfl), _, rfl, rfl⟩
theorem hn_L_ending_0 {G : GT} {l : Launch} (hG : GOK G l) : Hnd G miL_ending 3 "java/lang/IllegalStateException" 1 := ⟨[], (0, 8, 11, 48), [], 11, 2, 1, 1, rfl, (fun _ h => absurd h List.not_mem_nil), by decide, by decide, gwd hG _ (tm_5 (List.mem_of_getElem? (i := 3) rfl)) rfl, gwd hG _ (tm_5 (List.mem_of_getElem? (i := 14) rfl)) rfl, rfl, rfl, Or.inl ⟨2, dL_ending_11, rfl, rfl⟩, (Nat.le_of_ble_eq_true rfl), dL_ending_12, rfl, dL_ending_13⟩
def miL_working : MI := (cL_working, 4, RL, (some .int), 9, [(0, 9, 12, 48)])
theorem cV_L_80 {G : GT} {l : Launch} (hG : GOK G l) : CVK G RL 80 yX10_working miX10_working 1 10 := ⟨gwd hG _ (tm_5 (List.mem_of_getElem? (i := 208) rfl)) rfl, gwd hG _ (tm_5 (List.mem_of_getElem? (i := 209) rfl)) rfl, gwd hG _ (tm_5 (List.mem_of_getElem? (i := 210) rfl)) rfl, mo_X10_working hG, (Nat.le_of_ble_eq_true rfl), _, rfl, rfl⟩
theorem hn_L_working_0 {G : GT} {l : Launch} (hG : GOK G l) : Hnd G miL_working 4 "java/lang/IllegalStateException" 1 := ⟨[], (0, 9, 12, 48), [], 12, 3, 1, 1, rfl, (fun _ h => absurd h List.not_mem_nil), by decide, by decide, gwd hG _ (tm_5 (List.mem_of_getElem? (i := 3) rfl)) rfl, gwd hG _ (tm_5 (List.mem_of_getElem? (i := 14) rfl)) rfl, rfl, rfl, Or.inl ⟨3, dL_working_12, rfl, rfl⟩, (Nat.le_of_ble_eq_true rfl), dL_working_13, rfl, dL_working_14⟩
def miL_work : MI := (cL_work, 3, RL, (some .int), 9, [(0, 8, 11, 48)])
theorem cV_L_83 {G : GT} {l : Launch} (hG : GOK G l) : CVK G RL 83 yX10_work miX10_work 0 10 := ⟨gwd hG _ (tm_6 (List.mem_of_getElem? (i := 13) rfl)) rfl, gwd hG _ (tm_6 (List.mem_of_getElem? (i := 14) rfl)) rfl, gwd hG _ (tm_6 (List.mem_of_getElem? (i := 15) rfl)) rfl, mo_X10_work hG, (Nat.le_of_ble_eq_true rfl), _, rfl, rfl⟩
theorem hn_L_work_0 {G : GT} {l : Launch} (hG : GOK G l) : Hnd G miL_work 3 "java/lang/IllegalStateException" 1 := ⟨[], (0, 8, 11, 48), [], 11, 2, 1, 1, rfl, (fun _ h => absurd h List.not_mem_nil), by decide, by decide, gwd hG _ (tm_5 (List.mem_of_getElem? (i := 3) rfl)) rfl, gwd hG _ (tm_5 (List.mem_of_getElem? (i := 14) rfl)) rfl, rfl, rfl, Or.inl ⟨2, dL_work_11, rfl, rfl⟩, (Nat.le_of_ble_eq_true rfl), dL_work_12, rfl, dL_work_13⟩
def miL_ways : MI := (cL_ways, 3, RL, (some .int), 46, [(0, 8, 11, 48)])
theorem cV_L_86 {G : GT} {l : Launch} (hG : GOK G l) : CVK G RL 86 yX10_ways miX10_ways 0 10 := ⟨gwd hG _ (tm_6 (List.mem_of_getElem? (i := 20) rfl)) rfl, gwd hG _ (tm_6 (List.mem_of_getElem? (i := 21) rfl)) rfl, gwd hG _ (tm_6 (List.mem_of_getElem? (i := 22) rfl)) rfl, mo_X10_ways hG, (Nat.le_of_ble_eq_true rfl), _, rfl, rfl⟩
theorem hn_L_ways_0 {G : GT} {l : Launch} (hG : GOK G l) : Hnd G miL_ways 3 "java/lang/IllegalStateException" 1 := ⟨[], (0, 8, 11, 48), [], 11, 2, 1, 1, rfl, (fun _ h => absurd h List.not_mem_nil), by decide, by decide, gwd hG _ (tm_5 (List.mem_of_getElem? (i := 3) rfl)) rfl, gwd hG _ (tm_5 (List.mem_of_getElem? (i := 14) rfl)) rfl, rfl, rfl, Or.inl ⟨2, dL_ways_11, rfl, rfl⟩, (Nat.le_of_ble_eq_true rfl), dL_ways_12, rfl, dL_ways_13⟩
def miL_unpicked : MI := (cL_unpicked, 5, RL, (some .int), 12, [(0, 10, 13, 48), (0, 10, 17, 13)])
theorem cV_L_89 {G : GT} {l : Launch} (hG : GOK G l) : CVK G RL 89 yX10_unpicked miX10_unpicked 2 10 := ⟨gwd hG _ (tm_6 (List.mem_of_getElem? (i := 34) rfl)) rfl, gwd hG _ (tm_6 (List.mem_of_getElem? (i := 35) rfl)) rfl, gwd hG _ (tm_6 (List.mem_of_getElem? (i := 36) rfl)) rfl, mo_X10_unpicked hG, (Nat.le_of_ble_eq_true rfl), _, rfl, rfl⟩
theorem hn_L_unpicked_0 {G : GT} {l : Launch} (hG : GOK G l) : Hnd G miL_unpicked 5 "java/lang/IllegalStateException" 1 := ⟨[], (0, 10, 13, 48), [(0, 10, 17, 13)], 13, 4, 2, 1, rfl, (fun _ h => absurd h List.not_mem_nil), by decide, by decide, gwd hG _ (tm_5 (List.mem_of_getElem? (i := 3) rfl)) rfl, gwd hG _ (tm_5 (List.mem_of_getElem? (i := 14) rfl)) rfl, rfl, rfl, Or.inr ⟨dL_unpicked_13, rfl⟩, (Nat.le_of_ble_eq_true rfl), dL_unpicked_15, rfl, dL_unpicked_16⟩
theorem hn_L_unpicked_1 {G : GT} {l : Launch} (hG : GOK G l) : Hnd G miL_unpicked 5 "java/lang/IllegalArgumentException" 2 := ⟨[(0, 10, 13, 48)], (0, 10, 17, 13), [], 17, 4, 2, 2, rfl, List.forall_mem_cons.mpr ⟨⟨by decide, "java/lang/IllegalStateException", gwd hG _ (tm_5 (List.mem_of_getElem? (i := 3) rfl)) rfl, hG.2.2.2.2.1.2.2.2.2.2.2.2.2.2.1 ("java/lang/IllegalArgumentException", "java/lang/IllegalStateException") (by decide +kernel)⟩, (fun _ h => absurd h List.not_mem_nil)⟩, by decide, by decide, gwd hG _ (tm_3 (List.mem_of_getElem? (i := 20) rfl)) rfl, gwd hG _ (tm_3 (List.mem_of_getElem? (i := 27) rfl)) rfl, rfl, rfl, Or.inr ⟨dL_unpicked_17, rfl⟩, (Nat.le_of_ble_eq_true rfl), dL_unpicked_19, rfl, dL_unpicked_20⟩
def miL_places : MI := (cL_places, 4, RL, (some .int), 9, [(0, 9, 12, 13)])
theorem cV_L_93 {G : GT} {l : Launch} (hG : GOK G l) : CVK G RL 93 yX10_places miX10_places 1 10 := ⟨gwd hG _ (tm_6 (List.mem_of_getElem? (i := 72) rfl)) rfl, gwd hG _ (tm_6 (List.mem_of_getElem? (i := 73) rfl)) rfl, gwd hG _ (tm_6 (List.mem_of_getElem? (i := 74) rfl)) rfl, mo_X10_places hG, (Nat.le_of_ble_eq_true rfl), _, rfl, rfl⟩
theorem hn_L_places_0 {G : GT} {l : Launch} (hG : GOK G l) : Hnd G miL_places 4 "java/lang/IllegalArgumentException" 1 := ⟨[], (0, 9, 12, 13), [], 12, 3, 1, 1, rfl, (fun _ h => absurd h List.not_mem_nil), by decide, by decide, gwd hG _ (tm_3 (List.mem_of_getElem? (i := 20) rfl)) rfl, gwd hG _ (tm_3 (List.mem_of_getElem? (i := 27) rfl)) rfl, rfl, rfl, Or.inl ⟨3, dL_places_12, rfl, rfl⟩, (Nat.le_of_ble_eq_true rfl), dL_places_13, rfl, dL_places_14⟩
def miL_threads : MI := (cL_threads, 5, RL, (some .int), 12, [(0, 10, 13, 13)])
theorem cV_L_96 {G : GT} {l : Launch} (hG : GOK G l) : CVK G RL 96 yX10_threads miX10_threads 2 10 := ⟨gwd hG _ (tm_6 (List.mem_of_getElem? (i := 83) rfl)) rfl, gwd hG _ (tm_6 (List.mem_of_getElem? (i := 84) rfl)) rfl, gwd hG _ (tm_6 (List.mem_of_getElem? (i := 85) rfl)) rfl, mo_X10_threads hG, (Nat.le_of_ble_eq_true rfl), _, rfl, rfl⟩
theorem hn_L_threads_0 {G : GT} {l : Launch} (hG : GOK G l) : Hnd G miL_threads 5 "java/lang/IllegalArgumentException" 1 := ⟨[], (0, 10, 13, 13), [], 13, 4, 2, 1, rfl, (fun _ h => absurd h List.not_mem_nil), by decide, by decide, gwd hG _ (tm_3 (List.mem_of_getElem? (i := 20) rfl)) rfl, gwd hG _ (tm_3 (List.mem_of_getElem? (i := 27) rfl)) rfl, rfl, rfl, Or.inr ⟨dL_threads_13, rfl⟩, (Nat.le_of_ble_eq_true rfl), dL_threads_15, rfl, dL_threads_16⟩
def miL_sameAt : MI := (cL_sameAt, 4, RL, (some .int), 11, [(0, 9, 12, 48)])
theorem cV_L_99 {G : GT} {l : Launch} (hG : GOK G l) : CVK G RL 99 yX10_sameAt miX10_sameAt 1 10 := ⟨gwd hG _ (tm_6 (List.mem_of_getElem? (i := 147) rfl)) rfl, gwd hG _ (tm_6 (List.mem_of_getElem? (i := 148) rfl)) rfl, gwd hG _ (tm_6 (List.mem_of_getElem? (i := 149) rfl)) rfl, mo_X10_sameAt hG, (Nat.le_of_ble_eq_true rfl), _, rfl, rfl⟩
theorem hn_L_sameAt_0 {G : GT} {l : Launch} (hG : GOK G l) : Hnd G miL_sameAt 4 "java/lang/IllegalStateException" 1 := ⟨[], (0, 9, 12, 48), [], 12, 3, 1, 1, rfl, (fun _ h => absurd h List.not_mem_nil), by decide, by decide, gwd hG _ (tm_5 (List.mem_of_getElem? (i := 3) rfl)) rfl, gwd hG _ (tm_5 (List.mem_of_getElem? (i := 14) rfl)) rfl, rfl, rfl, Or.inl ⟨3, dL_sameAt_12, rfl, rfl⟩, (Nat.le_of_ble_eq_true rfl), dL_sameAt_13, rfl, dL_sameAt_14⟩
def miL_unlike : MI := (cL_unlike, 4, RL, (some .int), 8, [(0, 9, 12, 19)])
theorem cV_L_102 {G : GT} {l : Launch} (hG : GOK G l) : CVK G RL 102 yX10_unlike miX10_unlike 1 10 := ⟨gwd hG _ (tm_6 (List.mem_of_getElem? (i := 158) rfl)) rfl, gwd hG _ (tm_6 (List.mem_of_getElem? (i := 159) rfl)) rfl, gwd hG _ (tm_6 (List.mem_of_getElem? (i := 160) rfl)) rfl, mo_X10_unlike hG, (Nat.le_of_ble_eq_true rfl), _, rfl, rfl⟩
theorem hn_L_unlike_0 {G : GT} {l : Launch} (hG : GOK G l) : Hnd G miL_unlike 4 "java/util/NoSuchElementException" 1 := ⟨[], (0, 9, 12, 19), [], 12, 3, 1, 1, rfl, (fun _ h => absurd h List.not_mem_nil), by decide, by decide, gwd hG _ (tm_4 (List.mem_of_getElem? (i := 78) rfl)) rfl, gwd hG _ (tm_4 (List.mem_of_getElem? (i := 89) rfl)) rfl, rfl, rfl, Or.inl ⟨3, dL_unlike_12, rfl, rfl⟩, (Nat.le_of_ble_eq_true rfl), dL_unlike_13, rfl, dL_unlike_14⟩
def miL_tray : MI := (cL_tray, 5, RL, (some .int), 11, [(0, 7, 10, 19), (0, 7, 14, 13)])
theorem cV_L_105 {G : GT} {l : Launch} (hG : GOK G l) : CVK G RL 105 yX10_tray miX10_tray 3 10 := ⟨gwd hG _ (tm_6 (List.mem_of_getElem? (i := 165) rfl)) rfl, gwd hG _ (tm_6 (List.mem_of_getElem? (i := 166) rfl)) rfl, gwd hG _ (tm_6 (List.mem_of_getElem? (i := 167) rfl)) rfl, mo_X10_tray hG, (Nat.le_of_ble_eq_true rfl), _, rfl, rfl⟩
theorem hn_L_tray_0 {G : GT} {l : Launch} (hG : GOK G l) : Hnd G miL_tray 4 "java/util/NoSuchElementException" 1 := ⟨[], (0, 7, 10, 19), [(0, 7, 14, 13)], 10, 4, 2, 1, rfl, (fun _ h => absurd h List.not_mem_nil), by decide, by decide, gwd hG _ (tm_4 (List.mem_of_getElem? (i := 78) rfl)) rfl, gwd hG _ (tm_4 (List.mem_of_getElem? (i := 89) rfl)) rfl, rfl, rfl, Or.inr ⟨dL_tray_10, rfl⟩, (Nat.le_of_ble_eq_true rfl), dL_tray_12, rfl, dL_tray_13⟩
theorem hn_L_tray_1 {G : GT} {l : Launch} (hG : GOK G l) : Hnd G miL_tray 4 "java/lang/IllegalArgumentException" 2 := ⟨[(0, 7, 10, 19)], (0, 7, 14, 13), [], 14, 4, 2, 2, rfl, List.forall_mem_cons.mpr ⟨⟨by decide, "java/util/NoSuchElementException", gwd hG _ (tm_4 (List.mem_of_getElem? (i := 78) rfl)) rfl, hG.2.2.2.2.1.2.2.2.2.2.2.2.2.2.1 ("java/lang/IllegalArgumentException", "java/util/NoSuchElementException") (by decide +kernel)⟩, (fun _ h => absurd h List.not_mem_nil)⟩, by decide, by decide, gwd hG _ (tm_3 (List.mem_of_getElem? (i := 20) rfl)) rfl, gwd hG _ (tm_3 (List.mem_of_getElem? (i := 27) rfl)) rfl, rfl, rfl, Or.inr ⟨dL_tray_14, rfl⟩, (Nat.le_of_ble_eq_true rfl), dL_tray_16, rfl, dL_tray_17⟩
def miL_write : MI := (cL_write, 7, RL, (some .int), 8, [(0, 11, 14, 19), (0, 11, 18, 48), (0, 11, 22, 113)])
theorem cV_L_109 {G : GT} {l : Launch} (hG : GOK G l) : CVK G RL 109 yX10_write miX10_write 3 10 := ⟨gwd hG _ (tm_6 (List.mem_of_getElem? (i := 179) rfl)) rfl, gwd hG _ (tm_6 (List.mem_of_getElem? (i := 180) rfl)) rfl, gwd hG _ (tm_6 (List.mem_of_getElem? (i := 181) rfl)) rfl, mo_X10_write hG, (Nat.le_of_ble_eq_true rfl), _, rfl, rfl⟩
theorem hn_L_write_0 {G : GT} {l : Launch} (hG : GOK G l) : Hnd G miL_write 7 "java/util/NoSuchElementException" 1 := ⟨[], (0, 11, 14, 19), [(0, 11, 18, 48), (0, 11, 22, 113)], 14, 6, 2, 1, rfl, (fun _ h => absurd h List.not_mem_nil), by decide, by decide, gwd hG _ (tm_4 (List.mem_of_getElem? (i := 78) rfl)) rfl, gwd hG _ (tm_4 (List.mem_of_getElem? (i := 89) rfl)) rfl, rfl, rfl, Or.inr ⟨dL_write_14, rfl⟩, (Nat.le_of_ble_eq_true rfl), dL_write_16, rfl, dL_write_17⟩
theorem hn_L_write_1 {G : GT} {l : Launch} (hG : GOK G l) : Hnd G miL_write 7 "java/lang/IllegalStateException" 2 := ⟨[(0, 11, 14, 19)], (0, 11, 18, 48), [(0, 11, 22, 113)], 18, 6, 2, 2, rfl, List.forall_mem_cons.mpr ⟨⟨by decide, "java/util/NoSuchElementException", gwd hG _ (tm_4 (List.mem_of_getElem? (i := 78) rfl)) rfl, hG.2.2.2.2.1.2.2.2.2.2.2.2.2.2.1 ("java/lang/IllegalStateException", "java/util/NoSuchElementException") (by decide +kernel)⟩, (fun _ h => absurd h List.not_mem_nil)⟩, by decide, by decide, gwd hG _ (tm_5 (List.mem_of_getElem? (i := 3) rfl)) rfl, gwd hG _ (tm_5 (List.mem_of_getElem? (i := 14) rfl)) rfl, rfl, rfl, Or.inr ⟨dL_write_18, rfl⟩, (Nat.le_of_ble_eq_true rfl), dL_write_20, rfl, dL_write_21⟩
theorem hn_L_write_2 {G : GT} {l : Launch} (hG : GOK G l) : Hnd G miL_write 7 "java/lang/IndexOutOfBoundsException" 3 := ⟨[(0, 11, 14, 19), (0, 11, 18, 48)], (0, 11, 22, 113), [], 22, 6, 2, 3, rfl, List.forall_mem_cons.mpr ⟨⟨by decide, "java/util/NoSuchElementException", gwd hG _ (tm_4 (List.mem_of_getElem? (i := 78) rfl)) rfl, hG.2.2.2.2.1.2.2.2.2.2.2.2.2.2.1 ("java/lang/IndexOutOfBoundsException", "java/util/NoSuchElementException") (by decide +kernel)⟩, List.forall_mem_cons.mpr ⟨⟨by decide, "java/lang/IllegalStateException", gwd hG _ (tm_5 (List.mem_of_getElem? (i := 3) rfl)) rfl, hG.2.2.2.2.1.2.2.2.2.2.2.2.2.2.1 ("java/lang/IndexOutOfBoundsException", "java/lang/IllegalStateException") (by decide +kernel)⟩, (fun _ h => absurd h List.not_mem_nil)⟩⟩, by decide, by decide, gwd hG _ (tm_6 (List.mem_of_getElem? (i := 178) rfl)) rfl, gwd hG _ (tm_6 (List.mem_of_getElem? (i := 185) rfl)) rfl, rfl, rfl, Or.inr ⟨dL_write_22, rfl⟩, (Nat.le_of_ble_eq_true rfl), dL_write_24, rfl, dL_write_25⟩
def miL_image : MI := (cL_image, 3, RL, (some .int), 12, [(0, 5, 8, 19)])
theorem cV_L_115 {G : GT} {l : Launch} (hG : GOK G l) : CVK G RL 115 yX10_image miX10_image 1 10 := ⟨gwd hG _ (tm_6 (List.mem_of_getElem? (i := 210) rfl)) rfl, gwd hG _ (tm_6 (List.mem_of_getElem? (i := 211) rfl)) rfl, gwd hG _ (tm_6 (List.mem_of_getElem? (i := 212) rfl)) rfl, mo_X10_image hG, (Nat.le_of_ble_eq_true rfl), _, rfl, rfl⟩
theorem hn_L_image_0 {G : GT} {l : Launch} (hG : GOK G l) : Hnd G miL_image 2 "java/util/NoSuchElementException" 1 := ⟨[], (0, 5, 8, 19), [], 8, 2, 1, 1, rfl, (fun _ h => absurd h List.not_mem_nil), by decide, by decide, gwd hG _ (tm_4 (List.mem_of_getElem? (i := 78) rfl)) rfl, gwd hG _ (tm_4 (List.mem_of_getElem? (i := 89) rfl)) rfl, rfl, rfl, Or.inl ⟨2, dL_image_8, rfl, rfl⟩, (Nat.le_of_ble_eq_true rfl), dL_image_9, rfl, dL_image_10⟩
def miL_restore : MI := (cL_restore, 3, RL, (some .int), 11, [(0, 5, 8, 19), (0, 5, 11, 48)])
theorem cV_L_119 {G : GT} {l : Launch} (hG : GOK G l) : CVK G RL 119 yX10_restore miX10_restore 1 10 := ⟨gwd hG _ (tm_6 (List.mem_of_getElem? (i := 228) rfl)) rfl, gwd hG _ (tm_6 (List.mem_of_getElem? (i := 229) rfl)) rfl, gwd hG _ (tm_6 (List.mem_of_getElem? (i := 230) rfl)) rfl, mo_X10_restore hG, (Nat.le_of_ble_eq_true rfl), _, rfl, rfl⟩
theorem hn_L_restore_0 {G : GT} {l : Launch} (hG : GOK G l) : Hnd G miL_restore 2 "java/util/NoSuchElementException" 1 := ⟨[], (0, 5, 8, 19), [(0, 5, 11, 48)], 8, 2, 1, 1, rfl, (fun _ h => absurd h List.not_mem_nil), by decide, by decide, gwd hG _ (tm_4 (List.mem_of_getElem? (i := 78) rfl)) rfl, gwd hG _ (tm_4 (List.mem_of_getElem? (i := 89) rfl)) rfl, rfl, rfl, Or.inl ⟨2, dL_restore_8, rfl, rfl⟩, (Nat.le_of_ble_eq_true rfl), dL_restore_9, rfl, dL_restore_10⟩
theorem hn_L_restore_1 {G : GT} {l : Launch} (hG : GOK G l) : Hnd G miL_restore 2 "java/lang/IllegalStateException" 2 := ⟨[(0, 5, 8, 19)], (0, 5, 11, 48), [], 11, 2, 1, 2, rfl, List.forall_mem_cons.mpr ⟨⟨by decide, "java/util/NoSuchElementException", gwd hG _ (tm_4 (List.mem_of_getElem? (i := 78) rfl)) rfl, hG.2.2.2.2.1.2.2.2.2.2.2.2.2.2.1 ("java/lang/IllegalStateException", "java/util/NoSuchElementException") (by decide +kernel)⟩, (fun _ h => absurd h List.not_mem_nil)⟩, by decide, by decide, gwd hG _ (tm_5 (List.mem_of_getElem? (i := 3) rfl)) rfl, gwd hG _ (tm_5 (List.mem_of_getElem? (i := 14) rfl)) rfl, rfl, rfl, Or.inl ⟨2, dL_restore_11, rfl, rfl⟩, (Nat.le_of_ble_eq_true rfl), dL_restore_12, rfl, dL_restore_13⟩
def Lw_drawing (v1 : Int32) (P : PH) : Option (Int32 × PH) :=
  (Bs_drawing v1 P).bind fun (x : (String ⊕ Int32) × PH) =>
  Sum.elim (fun E => if E = "java/lang/IllegalArgumentException" then some ((1 : Int32), x.2) else none) (fun (w4 : Int32) =>
    gdI (0 : Int32) 1 <|
    (some (sL x.2 2 (0 : Int32).toNatClampNeg (w4.toInt64))).bind fun (P8 : PH) =>
    some ((0 : Int32), P8)) x.1
set_option maxRecDepth 100000 in
set_option maxHeartbeats 4000000 in
theorem Lw_drawing_ok {G : GT} {l : Launch} (hG : GOK G l) (v1 : Int32) (P : PH) : OkW G l yL_drawing miL_drawing 1 6 tIH [.ref (gA G 0), .int v1, .ref (gA G 2)] P (Lw_drawing v1 P) := by
  refine okW_of hG _ [(0, .ref (gA G 0)), (1, .int v1), (2, .ref (gA G 2))] rfl rfl rfl (Nat.le_of_ble_eq_true rfl) (by decide) ?_
  unfold Lw_drawing
  refine s_aload_n (pc := 0) 2 dL_drawing_0 rfl rfl ?_
  refine s_iconst (pc := 1) (v := 0) dL_drawing_1 rfl ?_
  refine s_aload_n (pc := 2) 0 dL_drawing_2 rfl rfl ?_
  refine s_iload_n (pc := 3) 1 dL_drawing_3 rfl rfl ?_
  refine s_callVTX (k := 0) (n := 0) (pc := 4) (st := [.int ((0 : Int32)), .ref (gA G 2)]) [.int v1] dL_drawing_4 (cV_L_7 hG) (Nat.le_of_ble_eq_true rfl) rfl kd_0 (Bs_drawing_ok hG v1 P) rfl (Nat.le_of_ble_eq_true rfl) rfl rfl (fun x E hE z hz => ?_) (fun x v hv => ?_)
  · obtain ⟨x, Q⟩ := x
    cases x with
    | inl e =>
      have hE2 : e = E := Sum.inr.inj hE
      replace hz : (if e = "java/lang/IllegalArgumentException" then some ((1 : Int32), Q) else none) = some z := hz
      rw [hE2] at hz
      by_cases h0 : E = "java/lang/IllegalArgumentException"
      · subst h0
        rw [if_pos rfl] at hz
        cases hz
        exact ⟨_, hn_L_drawing_0 hG, rfl⟩
      rw [if_neg h0] at hz
      cases hz
    | inr w => cases hE
  · obtain ⟨x, Q⟩ := x
    cases x with
    | inl e => cases hv
    | inr w4 =>
      cases hv
      show Sem G l miL_drawing 0 0 (rn tIH) 7 [(0, .ref (gA G 0)), (1, .int v1), (2, .ref (gA G 2))] [.int w4, .int ((0 : Int32)), .ref (gA G 2)] Q (gdI (0 : Int32) 1 <|
        (some (sL Q 2 (0 : Int32).toNatClampNeg (w4.toInt64))).bind fun (P8 : PH) =>
        some ((0 : Int32), P8))
      refine s_i2l (pc := 7) dL_drawing_7 ?_
      refine s_last (pc := 8) 1 dL_drawing_8 kd_2 ln_2 ?_
      refine s_letP (fun P8 => ?_)
      refine s_goto (pc := 9) 15 dL_drawing_9 rfl ?_
      refine s_iconst (pc := 15) (v := 0) dL_drawing_15 rfl ?_
      exact s_iret (pc := 16) dL_drawing_16 rfl rfl
def Lw_line (v1 : Int32) (v2 : Int32) (P : PH) : Option (Int32 × PH) :=
  (Bs_line v1 v2 P).bind fun (x : String ⊕ Int32) =>
  Sum.elim (fun E => if E = "java/util/NoSuchElementException" then some ((1 : Int32), P) else if E = "java/lang/IllegalArgumentException" then some ((2 : Int32), P) else none) (fun (w5 : Int32) =>
    gdI (0 : Int32) 1 <|
    (some (sL P 2 (0 : Int32).toNatClampNeg (w5.toInt64))).bind fun (P9 : PH) =>
    some ((0 : Int32), P9)) x
set_option maxRecDepth 100000 in
set_option maxHeartbeats 4000000 in
theorem Lw_line_ok {G : GT} {l : Launch} (hG : GOK G l) (v1 : Int32) (v2 : Int32) (P : PH) : OkW G l yL_line miL_line 2 12 tIH [.ref (gA G 0), .int v1, .int v2, .ref (gA G 2)] P (Lw_line v1 v2 P) := by
  refine okW_of hG _ [(0, .ref (gA G 0)), (1, .int v1), (2, .int v2), (3, .ref (gA G 2))] rfl rfl rfl (Nat.le_of_ble_eq_true rfl) (by decide) ?_
  unfold Lw_line
  refine s_aload_n (pc := 0) 3 dL_line_0 rfl rfl ?_
  refine s_iconst (pc := 1) (v := 0) dL_line_1 rfl ?_
  refine s_aload_n (pc := 2) 0 dL_line_2 rfl rfl ?_
  refine s_iload_n (pc := 3) 1 dL_line_3 rfl rfl ?_
  refine s_iload_n (pc := 4) 2 dL_line_4 rfl rfl ?_
  refine s_callVTX (k := 0) (n := 0) (pc := 5) (st := [.int ((0 : Int32)), .ref (gA G 2)]) [.int v1, .int v2] dL_line_5 (cV_L_15 hG) (Nat.le_of_ble_eq_true rfl) rfl kd_0 (Bs_line_ok hG v1 v2 P) rfl (Nat.le_of_ble_eq_true rfl) rfl rfl (fun x E hE z hz => ?_) (fun x v hv => ?_)
  · cases x with
    | inl e =>
      have hE2 : e = E := Sum.inr.inj hE
      replace hz : (if e = "java/util/NoSuchElementException" then some ((1 : Int32), P) else if e = "java/lang/IllegalArgumentException" then some ((2 : Int32), P) else none) = some z := hz
      rw [hE2] at hz
      by_cases h0 : E = "java/util/NoSuchElementException"
      · subst h0
        rw [if_pos rfl] at hz
        cases hz
        exact ⟨_, hn_L_line_0 hG, rfl⟩
      rw [if_neg h0] at hz
      by_cases h1 : E = "java/lang/IllegalArgumentException"
      · subst h1
        rw [if_pos rfl] at hz
        cases hz
        exact ⟨_, hn_L_line_1 hG, rfl⟩
      rw [if_neg h1] at hz
      cases hz
    | inr w => cases hE
  · cases x with
    | inl e => cases hv
    | inr w5 =>
      cases hv
      show Sem G l miL_line 0 0 (rn tIH) 8 [(0, .ref (gA G 0)), (1, .int v1), (2, .int v2), (3, .ref (gA G 2))] [.int w5, .int ((0 : Int32)), .ref (gA G 2)] P (gdI (0 : Int32) 1 <|
        (some (sL P 2 (0 : Int32).toNatClampNeg (w5.toInt64))).bind fun (P9 : PH) =>
        some ((0 : Int32), P9))
      refine s_i2l (pc := 8) dL_line_8 ?_
      refine s_last (pc := 9) 1 dL_line_9 kd_2 ln_2 ?_
      refine s_letP (fun P9 => ?_)
      refine s_goto (pc := 10) 21 dL_line_10 rfl ?_
      refine s_iconst (pc := 21) (v := 0) dL_line_21 rfl ?_
      exact s_iret (pc := 22) dL_line_22 rfl rfl
def Lw_lineAt (v1 : Int32) (v2 : Int32) (P : PH) : Option (Int32 × PH) :=
  (Bs_lineAt v1 v2 P).bind fun (x : String ⊕ Int32) =>
  Sum.elim (fun E => if E = "java/util/NoSuchElementException" then some ((1 : Int32), P) else none) (fun (w5 : Int32) =>
    gdI (0 : Int32) 1 <|
    (some (sL P 2 (0 : Int32).toNatClampNeg (w5.toInt64))).bind fun (P9 : PH) =>
    some ((0 : Int32), P9)) x
set_option maxRecDepth 100000 in
set_option maxHeartbeats 4000000 in
theorem Lw_lineAt_ok {G : GT} {l : Launch} (hG : GOK G l) (v1 : Int32) (v2 : Int32) (P : PH) : OkW G l yL_lineAt miL_lineAt 2 12 tIH [.ref (gA G 0), .int v1, .int v2, .ref (gA G 2)] P (Lw_lineAt v1 v2 P) := by
  refine okW_of hG _ [(0, .ref (gA G 0)), (1, .int v1), (2, .int v2), (3, .ref (gA G 2))] rfl rfl rfl (Nat.le_of_ble_eq_true rfl) (by decide) ?_
  unfold Lw_lineAt
  refine s_aload_n (pc := 0) 3 dL_lineAt_0 rfl rfl ?_
  refine s_iconst (pc := 1) (v := 0) dL_lineAt_1 rfl ?_
  refine s_aload_n (pc := 2) 0 dL_lineAt_2 rfl rfl ?_
  refine s_iload_n (pc := 3) 1 dL_lineAt_3 rfl rfl ?_
  refine s_iload_n (pc := 4) 2 dL_lineAt_4 rfl rfl ?_
  refine s_callVTX (k := 0) (n := 0) (pc := 5) (st := [.int ((0 : Int32)), .ref (gA G 2)]) [.int v1, .int v2] dL_lineAt_5 (cV_L_21 hG) (Nat.le_of_ble_eq_true rfl) rfl kd_0 (Bs_lineAt_ok hG v1 v2 P) rfl (Nat.le_of_ble_eq_true rfl) rfl rfl (fun x E hE z hz => ?_) (fun x v hv => ?_)
  · cases x with
    | inl e =>
      have hE2 : e = E := Sum.inr.inj hE
      replace hz : (if e = "java/util/NoSuchElementException" then some ((1 : Int32), P) else none) = some z := hz
      rw [hE2] at hz
      by_cases h0 : E = "java/util/NoSuchElementException"
      · subst h0
        rw [if_pos rfl] at hz
        cases hz
        exact ⟨_, hn_L_lineAt_0 hG, rfl⟩
      rw [if_neg h0] at hz
      cases hz
    | inr w => cases hE
  · cases x with
    | inl e => cases hv
    | inr w5 =>
      cases hv
      show Sem G l miL_lineAt 0 0 (rn tIH) 8 [(0, .ref (gA G 0)), (1, .int v1), (2, .int v2), (3, .ref (gA G 2))] [.int w5, .int ((0 : Int32)), .ref (gA G 2)] P (gdI (0 : Int32) 1 <|
        (some (sL P 2 (0 : Int32).toNatClampNeg (w5.toInt64))).bind fun (P9 : PH) =>
        some ((0 : Int32), P9))
      refine s_i2l (pc := 8) dL_lineAt_8 ?_
      refine s_last (pc := 9) 1 dL_lineAt_9 kd_2 ln_2 ?_
      refine s_letP (fun P9 => ?_)
      refine s_goto (pc := 10) 17 dL_lineAt_10 rfl ?_
      refine s_iconst (pc := 17) (v := 0) dL_lineAt_17 rfl ?_
      exact s_iret (pc := 18) dL_lineAt_18 rfl rfl
def Lw_ends (v1 : Int32) (v2 : Int32) (P : PH) : Option (Int32 × PH) :=
  (Bs_ends v1 v2 P).bind fun (x : String ⊕ Int32) =>
  Sum.elim (fun E => if E = "java/util/NoSuchElementException" then some ((1 : Int32), P) else if E = "java/lang/IllegalArgumentException" then some ((2 : Int32), P) else none) (fun (w5 : Int32) =>
    gdI (0 : Int32) 1 <|
    (some (sL P 2 (0 : Int32).toNatClampNeg (w5.toInt64))).bind fun (P9 : PH) =>
    some ((0 : Int32), P9)) x
set_option maxRecDepth 100000 in
set_option maxHeartbeats 4000000 in
theorem Lw_ends_ok {G : GT} {l : Launch} (hG : GOK G l) (v1 : Int32) (v2 : Int32) (P : PH) : OkW G l yL_ends miL_ends 2 12 tIH [.ref (gA G 0), .int v1, .int v2, .ref (gA G 2)] P (Lw_ends v1 v2 P) := by
  refine okW_of hG _ [(0, .ref (gA G 0)), (1, .int v1), (2, .int v2), (3, .ref (gA G 2))] rfl rfl rfl (Nat.le_of_ble_eq_true rfl) (by decide) ?_
  unfold Lw_ends
  refine s_aload_n (pc := 0) 3 dL_ends_0 rfl rfl ?_
  refine s_iconst (pc := 1) (v := 0) dL_ends_1 rfl ?_
  refine s_aload_n (pc := 2) 0 dL_ends_2 rfl rfl ?_
  refine s_iload_n (pc := 3) 1 dL_ends_3 rfl rfl ?_
  refine s_iload_n (pc := 4) 2 dL_ends_4 rfl rfl ?_
  refine s_callVTX (k := 0) (n := 0) (pc := 5) (st := [.int ((0 : Int32)), .ref (gA G 2)]) [.int v1, .int v2] dL_ends_5 (cV_L_24 hG) (Nat.le_of_ble_eq_true rfl) rfl kd_0 (Bs_ends_ok hG v1 v2 P) rfl (Nat.le_of_ble_eq_true rfl) rfl rfl (fun x E hE z hz => ?_) (fun x v hv => ?_)
  · cases x with
    | inl e =>
      have hE2 : e = E := Sum.inr.inj hE
      replace hz : (if e = "java/util/NoSuchElementException" then some ((1 : Int32), P) else if e = "java/lang/IllegalArgumentException" then some ((2 : Int32), P) else none) = some z := hz
      rw [hE2] at hz
      by_cases h0 : E = "java/util/NoSuchElementException"
      · subst h0
        rw [if_pos rfl] at hz
        cases hz
        exact ⟨_, hn_L_ends_0 hG, rfl⟩
      rw [if_neg h0] at hz
      by_cases h1 : E = "java/lang/IllegalArgumentException"
      · subst h1
        rw [if_pos rfl] at hz
        cases hz
        exact ⟨_, hn_L_ends_1 hG, rfl⟩
      rw [if_neg h1] at hz
      cases hz
    | inr w => cases hE
  · cases x with
    | inl e => cases hv
    | inr w5 =>
      cases hv
      show Sem G l miL_ends 0 0 (rn tIH) 8 [(0, .ref (gA G 0)), (1, .int v1), (2, .int v2), (3, .ref (gA G 2))] [.int w5, .int ((0 : Int32)), .ref (gA G 2)] P (gdI (0 : Int32) 1 <|
        (some (sL P 2 (0 : Int32).toNatClampNeg (w5.toInt64))).bind fun (P9 : PH) =>
        some ((0 : Int32), P9))
      refine s_i2l (pc := 8) dL_ends_8 ?_
      refine s_last (pc := 9) 1 dL_ends_9 kd_2 ln_2 ?_
      refine s_letP (fun P9 => ?_)
      refine s_goto (pc := 10) 21 dL_ends_10 rfl ?_
      refine s_iconst (pc := 21) (v := 0) dL_ends_21 rfl ?_
      exact s_iret (pc := 22) dL_ends_22 rfl rfl
def Lw_parts (v1 : Int32) (P : PH) : Option (Int32 × PH) :=
  (Bs_parts v1 P).bind fun (x : String ⊕ Int32) =>
  Sum.elim (fun E => if E = "java/lang/IllegalArgumentException" then some ((1 : Int32), P) else none) (fun (w4 : Int32) =>
    gdI (0 : Int32) 1 <|
    (some (sL P 2 (0 : Int32).toNatClampNeg (w4.toInt64))).bind fun (P8 : PH) =>
    some ((0 : Int32), P8)) x
set_option maxRecDepth 100000 in
set_option maxHeartbeats 4000000 in
theorem Lw_parts_ok {G : GT} {l : Launch} (hG : GOK G l) (v1 : Int32) (P : PH) : OkW G l yL_parts miL_parts 1 6 tIH [.ref (gA G 0), .int v1, .ref (gA G 2)] P (Lw_parts v1 P) := by
  refine okW_of hG _ [(0, .ref (gA G 0)), (1, .int v1), (2, .ref (gA G 2))] rfl rfl rfl (Nat.le_of_ble_eq_true rfl) (by decide) ?_
  unfold Lw_parts
  refine s_aload_n (pc := 0) 2 dL_parts_0 rfl rfl ?_
  refine s_iconst (pc := 1) (v := 0) dL_parts_1 rfl ?_
  refine s_aload_n (pc := 2) 0 dL_parts_2 rfl rfl ?_
  refine s_iload_n (pc := 3) 1 dL_parts_3 rfl rfl ?_
  refine s_callVTX (k := 0) (n := 0) (pc := 4) (st := [.int ((0 : Int32)), .ref (gA G 2)]) [.int v1] dL_parts_4 (cV_L_27 hG) (Nat.le_of_ble_eq_true rfl) rfl kd_0 (Bs_parts_ok hG v1 P) rfl (Nat.le_of_ble_eq_true rfl) rfl rfl (fun x E hE z hz => ?_) (fun x v hv => ?_)
  · cases x with
    | inl e =>
      have hE2 : e = E := Sum.inr.inj hE
      replace hz : (if e = "java/lang/IllegalArgumentException" then some ((1 : Int32), P) else none) = some z := hz
      rw [hE2] at hz
      by_cases h0 : E = "java/lang/IllegalArgumentException"
      · subst h0
        rw [if_pos rfl] at hz
        cases hz
        exact ⟨_, hn_L_parts_0 hG, rfl⟩
      rw [if_neg h0] at hz
      cases hz
    | inr w => cases hE
  · cases x with
    | inl e => cases hv
    | inr w4 =>
      cases hv
      show Sem G l miL_parts 0 0 (rn tIH) 7 [(0, .ref (gA G 0)), (1, .int v1), (2, .ref (gA G 2))] [.int w4, .int ((0 : Int32)), .ref (gA G 2)] P (gdI (0 : Int32) 1 <|
        (some (sL P 2 (0 : Int32).toNatClampNeg (w4.toInt64))).bind fun (P8 : PH) =>
        some ((0 : Int32), P8))
      refine s_i2l (pc := 7) dL_parts_7 ?_
      refine s_last (pc := 8) 1 dL_parts_8 kd_2 ln_2 ?_
      refine s_letP (fun P8 => ?_)
      refine s_goto (pc := 9) 15 dL_parts_9 rfl ?_
      refine s_iconst (pc := 15) (v := 0) dL_parts_15 rfl ?_
      exact s_iret (pc := 16) dL_parts_16 rfl rfl
def Lw_partOf (v1 : Int32) (P : PH) : Option (Int32 × PH) :=
  (Bs_partOf v1 P).bind fun (x : String ⊕ Int32) =>
  Sum.elim (fun E => if E = "java/util/NoSuchElementException" then some ((1 : Int32), P) else none) (fun (w4 : Int32) =>
    gdI (0 : Int32) 1 <|
    (some (sL P 2 (0 : Int32).toNatClampNeg (w4.toInt64))).bind fun (P8 : PH) =>
    some ((0 : Int32), P8)) x
set_option maxRecDepth 100000 in
set_option maxHeartbeats 4000000 in
theorem Lw_partOf_ok {G : GT} {l : Launch} (hG : GOK G l) (v1 : Int32) (P : PH) : OkW G l yL_partOf miL_partOf 1 6 tIH [.ref (gA G 0), .int v1, .ref (gA G 2)] P (Lw_partOf v1 P) := by
  refine okW_of hG _ [(0, .ref (gA G 0)), (1, .int v1), (2, .ref (gA G 2))] rfl rfl rfl (Nat.le_of_ble_eq_true rfl) (by decide) ?_
  unfold Lw_partOf
  refine s_aload_n (pc := 0) 2 dL_partOf_0 rfl rfl ?_
  refine s_iconst (pc := 1) (v := 0) dL_partOf_1 rfl ?_
  refine s_aload_n (pc := 2) 0 dL_partOf_2 rfl rfl ?_
  refine s_iload_n (pc := 3) 1 dL_partOf_3 rfl rfl ?_
  refine s_callVTX (k := 0) (n := 0) (pc := 4) (st := [.int ((0 : Int32)), .ref (gA G 2)]) [.int v1] dL_partOf_4 (cV_L_30 hG) (Nat.le_of_ble_eq_true rfl) rfl kd_0 (Bs_partOf_ok hG v1 P) rfl (Nat.le_of_ble_eq_true rfl) rfl rfl (fun x E hE z hz => ?_) (fun x v hv => ?_)
  · cases x with
    | inl e =>
      have hE2 : e = E := Sum.inr.inj hE
      replace hz : (if e = "java/util/NoSuchElementException" then some ((1 : Int32), P) else none) = some z := hz
      rw [hE2] at hz
      by_cases h0 : E = "java/util/NoSuchElementException"
      · subst h0
        rw [if_pos rfl] at hz
        cases hz
        exact ⟨_, hn_L_partOf_0 hG, rfl⟩
      rw [if_neg h0] at hz
      cases hz
    | inr w => cases hE
  · cases x with
    | inl e => cases hv
    | inr w4 =>
      cases hv
      show Sem G l miL_partOf 0 0 (rn tIH) 7 [(0, .ref (gA G 0)), (1, .int v1), (2, .ref (gA G 2))] [.int w4, .int ((0 : Int32)), .ref (gA G 2)] P (gdI (0 : Int32) 1 <|
        (some (sL P 2 (0 : Int32).toNatClampNeg (w4.toInt64))).bind fun (P8 : PH) =>
        some ((0 : Int32), P8))
      refine s_i2l (pc := 7) dL_partOf_7 ?_
      refine s_last (pc := 8) 1 dL_partOf_8 kd_2 ln_2 ?_
      refine s_letP (fun P8 => ?_)
      refine s_goto (pc := 9) 15 dL_partOf_9 rfl ?_
      refine s_iconst (pc := 15) (v := 0) dL_partOf_15 rfl ?_
      exact s_iret (pc := 16) dL_partOf_16 rfl rfl
def Lw_length (v1 : Int32) (P : PH) : Option (Int32 × PH) :=
  (Bs_length v1 P).bind fun (x : String ⊕ Int32) =>
  Sum.elim (fun E => if E = "java/lang/IllegalArgumentException" then some ((1 : Int32), P) else none) (fun (w4 : Int32) =>
    gdI (0 : Int32) 1 <|
    (some (sL P 2 (0 : Int32).toNatClampNeg (w4.toInt64))).bind fun (P8 : PH) =>
    some ((0 : Int32), P8)) x
set_option maxRecDepth 100000 in
set_option maxHeartbeats 4000000 in
theorem Lw_length_ok {G : GT} {l : Launch} (hG : GOK G l) (v1 : Int32) (P : PH) : OkW G l yL_length miL_length 1 6 tIH [.ref (gA G 0), .int v1, .ref (gA G 2)] P (Lw_length v1 P) := by
  refine okW_of hG _ [(0, .ref (gA G 0)), (1, .int v1), (2, .ref (gA G 2))] rfl rfl rfl (Nat.le_of_ble_eq_true rfl) (by decide) ?_
  unfold Lw_length
  refine s_aload_n (pc := 0) 2 dL_length_0 rfl rfl ?_
  refine s_iconst (pc := 1) (v := 0) dL_length_1 rfl ?_
  refine s_aload_n (pc := 2) 0 dL_length_2 rfl rfl ?_
  refine s_iload_n (pc := 3) 1 dL_length_3 rfl rfl ?_
  refine s_callVTX (k := 0) (n := 0) (pc := 4) (st := [.int ((0 : Int32)), .ref (gA G 2)]) [.int v1] dL_length_4 (cV_L_33 hG) (Nat.le_of_ble_eq_true rfl) rfl kd_0 (Bs_length_ok hG v1 P) rfl (Nat.le_of_ble_eq_true rfl) rfl rfl (fun x E hE z hz => ?_) (fun x v hv => ?_)
  · cases x with
    | inl e =>
      have hE2 : e = E := Sum.inr.inj hE
      replace hz : (if e = "java/lang/IllegalArgumentException" then some ((1 : Int32), P) else none) = some z := hz
      rw [hE2] at hz
      by_cases h0 : E = "java/lang/IllegalArgumentException"
      · subst h0
        rw [if_pos rfl] at hz
        cases hz
        exact ⟨_, hn_L_length_0 hG, rfl⟩
      rw [if_neg h0] at hz
      cases hz
    | inr w => cases hE
  · cases x with
    | inl e => cases hv
    | inr w4 =>
      cases hv
      show Sem G l miL_length 0 0 (rn tIH) 7 [(0, .ref (gA G 0)), (1, .int v1), (2, .ref (gA G 2))] [.int w4, .int ((0 : Int32)), .ref (gA G 2)] P (gdI (0 : Int32) 1 <|
        (some (sL P 2 (0 : Int32).toNatClampNeg (w4.toInt64))).bind fun (P8 : PH) =>
        some ((0 : Int32), P8))
      refine s_i2l (pc := 7) dL_length_7 ?_
      refine s_last (pc := 8) 1 dL_length_8 kd_2 ln_2 ?_
      refine s_letP (fun P8 => ?_)
      refine s_goto (pc := 9) 15 dL_length_9 rfl ?_
      refine s_iconst (pc := 15) (v := 0) dL_length_15 rfl ?_
      exact s_iret (pc := 16) dL_length_16 rfl rfl
def Lw_alike (v1 : Int32) (P : PH) : Option (Int32 × PH) :=
  (Bs_alike v1 P).bind fun (x : String ⊕ Int32) =>
  Sum.elim (fun E => if E = "java/lang/IllegalArgumentException" then some ((1 : Int32), P) else none) (fun (w4 : Int32) =>
    if w4 = 0 then
      gdI (0 : Int32) 1 <|
      (some (sL P 2 (0 : Int32).toNatClampNeg (0 : Int64))).bind fun (P15 : PH) =>
      some ((0 : Int32), P15)
    else
      gdI (0 : Int32) 1 <|
      (some (sL P 2 (0 : Int32).toNatClampNeg (1 : Int64))).bind fun (P15 : PH) =>
      some ((0 : Int32), P15)) x
set_option maxRecDepth 100000 in
set_option maxHeartbeats 4000000 in
theorem Lw_alike_ok {G : GT} {l : Launch} (hG : GOK G l) (v1 : Int32) (P : PH) : OkW G l yL_alike miL_alike 1 6 tIH [.ref (gA G 0), .int v1, .ref (gA G 2)] P (Lw_alike v1 P) := by
  refine okW_of hG _ [(0, .ref (gA G 0)), (1, .int v1), (2, .ref (gA G 2))] rfl rfl rfl (Nat.le_of_ble_eq_true rfl) (by decide) ?_
  unfold Lw_alike
  refine s_aload_n (pc := 0) 2 dL_alike_0 rfl rfl ?_
  refine s_iconst (pc := 1) (v := 0) dL_alike_1 rfl ?_
  refine s_aload_n (pc := 2) 0 dL_alike_2 rfl rfl ?_
  refine s_iload_n (pc := 3) 1 dL_alike_3 rfl rfl ?_
  refine s_callVTX (k := 0) (n := 0) (pc := 4) (st := [.int ((0 : Int32)), .ref (gA G 2)]) [.int v1] dL_alike_4 (cV_L_36 hG) (Nat.le_of_ble_eq_true rfl) rfl kd_0 (Bs_alike_ok hG v1 P) rfl (Nat.le_of_ble_eq_true rfl) rfl rfl (fun x E hE z hz => ?_) (fun x v hv => ?_)
  · cases x with
    | inl e =>
      have hE2 : e = E := Sum.inr.inj hE
      replace hz : (if e = "java/lang/IllegalArgumentException" then some ((1 : Int32), P) else none) = some z := hz
      rw [hE2] at hz
      by_cases h0 : E = "java/lang/IllegalArgumentException"
      · subst h0
        rw [if_pos rfl] at hz
        cases hz
        exact ⟨_, hn_L_alike_0 hG, rfl⟩
      rw [if_neg h0] at hz
      cases hz
    | inr w => cases hE
  · cases x with
    | inl e => cases hv
    | inr w4 =>
      cases hv
      show Sem G l miL_alike 0 0 (rn tIH) 7 [(0, .ref (gA G 0)), (1, .int v1), (2, .ref (gA G 2))] [.int w4, .int ((0 : Int32)), .ref (gA G 2)] P (if w4 = 0 then
          gdI (0 : Int32) 1 <|
          (some (sL P 2 (0 : Int32).toNatClampNeg (0 : Int64))).bind fun (P15 : PH) =>
          some ((0 : Int32), P15)
        else
          gdI (0 : Int32) 1 <|
          (some (sL P 2 (0 : Int32).toNatClampNeg (1 : Int64))).bind fun (P15 : PH) =>
          some ((0 : Int32), P15))
      refine s_if_eq (pc := 7) 14 dL_alike_7 rfl ?_ ?_
      · refine s_lconst (pc := 14) (v := 0) dL_alike_14 rfl ?_
        refine s_last (pc := 15) 1 dL_alike_15 kd_2 ln_2 ?_
        refine s_letP (fun P15 => ?_)
        refine s_goto (pc := 16) 22 dL_alike_16 rfl ?_
        refine s_iconst (pc := 22) (v := 0) dL_alike_22 rfl ?_
        exact s_iret (pc := 23) dL_alike_23 rfl rfl
      · refine s_lconst (pc := 10) (v := 1) dL_alike_10 rfl ?_
        refine s_goto (pc := 11) 15 dL_alike_11 rfl ?_
        refine s_last (pc := 15) 1 dL_alike_15 kd_2 ln_2 ?_
        refine s_letP (fun P15 => ?_)
        refine s_goto (pc := 16) 22 dL_alike_16 rfl ?_
        refine s_iconst (pc := 22) (v := 0) dL_alike_22 rfl ?_
        exact s_iret (pc := 23) dL_alike_23 rfl rfl
def Lw_begin (v1 : Int32) (v2 : Int32) (v3 : Int32) (P : PH) : Option (Int32 × PH) :=
  (Bs_begin v1 v2 v3 P).bind fun (x : (String ⊕ Unit) × PH) =>
  Sum.elim (fun E => if E = "java/util/NoSuchElementException" then some ((1 : Int32), x.2) else if E = "java/lang/IllegalArgumentException" then some ((2 : Int32), x.2) else none) (fun (w4 : Unit) =>
    some ((0 : Int32), x.2)) x.1
set_option maxRecDepth 100000 in
set_option maxHeartbeats 4000000 in
theorem Lw_begin_ok {G : GT} {l : Launch} (hG : GOK G l) (v1 : Int32) (v2 : Int32) (v3 : Int32) (P : PH) : OkW G l yL_begin miL_begin 2 12 tIH [.ref (gA G 0), .int v1, .int v2, .int v3] P (Lw_begin v1 v2 v3 P) := by
  refine okW_of hG _ [(0, .ref (gA G 0)), (1, .int v1), (2, .int v2), (3, .int v3)] rfl rfl rfl (Nat.le_of_ble_eq_true rfl) (by decide) ?_
  unfold Lw_begin
  refine s_aload_n (pc := 0) 0 dL_begin_0 rfl rfl ?_
  refine s_iload_n (pc := 1) 1 dL_begin_1 rfl rfl ?_
  refine s_iload_n (pc := 2) 2 dL_begin_2 rfl rfl ?_
  refine s_iload_n (pc := 3) 3 dL_begin_3 rfl rfl ?_
  refine s_callVTX (k := 0) (n := 0) (pc := 4) (st := []) [.int v1, .int v2, .int v3] dL_begin_4 (cV_L_40 hG) (Nat.le_of_ble_eq_true rfl) rfl kd_0 (Bs_begin_ok hG v1 v2 v3 P) rfl (Nat.le_of_ble_eq_true rfl) rfl rfl (fun x E hE z hz => ?_) (fun x v hv => ?_)
  · obtain ⟨x, Q⟩ := x
    cases x with
    | inl e =>
      have hE2 : e = E := Sum.inr.inj hE
      replace hz : (if e = "java/util/NoSuchElementException" then some ((1 : Int32), Q) else if e = "java/lang/IllegalArgumentException" then some ((2 : Int32), Q) else none) = some z := hz
      rw [hE2] at hz
      by_cases h0 : E = "java/util/NoSuchElementException"
      · subst h0
        rw [if_pos rfl] at hz
        cases hz
        exact ⟨_, hn_L_begin_0 hG, rfl⟩
      rw [if_neg h0] at hz
      by_cases h1 : E = "java/lang/IllegalArgumentException"
      · subst h1
        rw [if_pos rfl] at hz
        cases hz
        exact ⟨_, hn_L_begin_1 hG, rfl⟩
      rw [if_neg h1] at hz
      cases hz
    | inr w => cases hE
  · obtain ⟨x, Q⟩ := x
    cases x with
    | inl e => cases hv
    | inr w4 =>
      cases hv
      show Sem G l miL_begin 0 0 (rn tIH) 7 [(0, .ref (gA G 0)), (1, .int v1), (2, .int v2), (3, .int v3)] [] Q (some ((0 : Int32), Q))
      refine s_goto (pc := 7) 18 dL_begin_7 rfl ?_
      refine s_iconst (pc := 18) (v := 0) dL_begin_18 rfl ?_
      exact s_iret (pc := 19) dL_begin_19 rfl rfl
def Lw_cut  (P : PH) : Option (Int32 × PH) :=
  (Bs_cut  P).bind fun (x : (String ⊕ Int32) × PH) =>
  Sum.elim (fun E => if E = "java/lang/IllegalStateException" then some ((1 : Int32), x.2) else none) (fun (w3 : Int32) =>
    gdI (0 : Int32) 1 <|
    (some (sL x.2 2 (0 : Int32).toNatClampNeg (w3.toInt64))).bind fun (P7 : PH) =>
    some ((0 : Int32), P7)) x.1
set_option maxRecDepth 100000 in
set_option maxHeartbeats 4000000 in
theorem Lw_cut_ok {G : GT} {l : Launch} (hG : GOK G l)  (P : PH) : OkW G l yL_cut miL_cut 1 6 tIH [.ref (gA G 0), .ref (gA G 2)] P (Lw_cut  P) := by
  refine okW_of hG _ [(0, .ref (gA G 0)), (1, .ref (gA G 2))] rfl rfl rfl (Nat.le_of_ble_eq_true rfl) (by decide) ?_
  unfold Lw_cut
  refine s_aload_n (pc := 0) 1 dL_cut_0 rfl rfl ?_
  refine s_iconst (pc := 1) (v := 0) dL_cut_1 rfl ?_
  refine s_aload_n (pc := 2) 0 dL_cut_2 rfl rfl ?_
  refine s_callVTX (k := 0) (n := 0) (pc := 3) (st := [.int ((0 : Int32)), .ref (gA G 2)]) [] dL_cut_3 (cV_L_44 hG) (Nat.le_of_ble_eq_true rfl) rfl kd_0 (Bs_cut_ok hG  P) rfl (Nat.le_of_ble_eq_true rfl) rfl rfl (fun x E hE z hz => ?_) (fun x v hv => ?_)
  · obtain ⟨x, Q⟩ := x
    cases x with
    | inl e =>
      have hE2 : e = E := Sum.inr.inj hE
      replace hz : (if e = "java/lang/IllegalStateException" then some ((1 : Int32), Q) else none) = some z := hz
      rw [hE2] at hz
      by_cases h0 : E = "java/lang/IllegalStateException"
      · subst h0
        rw [if_pos rfl] at hz
        cases hz
        exact ⟨_, hn_L_cut_0 hG, rfl⟩
      rw [if_neg h0] at hz
      cases hz
    | inr w => cases hE
  · obtain ⟨x, Q⟩ := x
    cases x with
    | inl e => cases hv
    | inr w3 =>
      cases hv
      show Sem G l miL_cut 0 0 (rn tIH) 6 [(0, .ref (gA G 0)), (1, .ref (gA G 2))] [.int w3, .int ((0 : Int32)), .ref (gA G 2)] Q (gdI (0 : Int32) 1 <|
        (some (sL Q 2 (0 : Int32).toNatClampNeg (w3.toInt64))).bind fun (P7 : PH) =>
        some ((0 : Int32), P7))
      refine s_i2l (pc := 6) dL_cut_6 ?_
      refine s_last (pc := 7) 1 dL_cut_7 kd_2 ln_2 ?_
      refine s_letP (fun P7 => ?_)
      refine s_goto (pc := 8) 14 dL_cut_8 rfl ?_
      refine s_iconst (pc := 14) (v := 0) dL_cut_14 rfl ?_
      exact s_iret (pc := 15) dL_cut_15 rfl rfl
def Lw_may (v1 : Int32) (P : PH) : Option (Int32 × PH) :=
  (Bs_may v1 P).bind fun (x : String ⊕ Int32) =>
  Sum.elim (fun E => if E = "java/util/NoSuchElementException" then some ((1 : Int32), P) else none) (fun (w4 : Int32) =>
    gdI (0 : Int32) 1 <|
    (some (sL P 2 (0 : Int32).toNatClampNeg (w4.toInt64))).bind fun (P8 : PH) =>
    some ((0 : Int32), P8)) x
set_option maxRecDepth 100000 in
set_option maxHeartbeats 4000000 in
theorem Lw_may_ok {G : GT} {l : Launch} (hG : GOK G l) (v1 : Int32) (P : PH) : OkW G l yL_may miL_may 1 6 tIH [.ref (gA G 0), .int v1, .ref (gA G 2)] P (Lw_may v1 P) := by
  refine okW_of hG _ [(0, .ref (gA G 0)), (1, .int v1), (2, .ref (gA G 2))] rfl rfl rfl (Nat.le_of_ble_eq_true rfl) (by decide) ?_
  unfold Lw_may
  refine s_aload_n (pc := 0) 2 dL_may_0 rfl rfl ?_
  refine s_iconst (pc := 1) (v := 0) dL_may_1 rfl ?_
  refine s_aload_n (pc := 2) 0 dL_may_2 rfl rfl ?_
  refine s_iload_n (pc := 3) 1 dL_may_3 rfl rfl ?_
  refine s_callVTX (k := 0) (n := 0) (pc := 4) (st := [.int ((0 : Int32)), .ref (gA G 2)]) [.int v1] dL_may_4 (cV_L_50 hG) (Nat.le_of_ble_eq_true rfl) rfl kd_0 (Bs_may_ok hG v1 P) rfl (Nat.le_of_ble_eq_true rfl) rfl rfl (fun x E hE z hz => ?_) (fun x v hv => ?_)
  · cases x with
    | inl e =>
      have hE2 : e = E := Sum.inr.inj hE
      replace hz : (if e = "java/util/NoSuchElementException" then some ((1 : Int32), P) else none) = some z := hz
      rw [hE2] at hz
      by_cases h0 : E = "java/util/NoSuchElementException"
      · subst h0
        rw [if_pos rfl] at hz
        cases hz
        exact ⟨_, hn_L_may_0 hG, rfl⟩
      rw [if_neg h0] at hz
      cases hz
    | inr w => cases hE
  · cases x with
    | inl e => cases hv
    | inr w4 =>
      cases hv
      show Sem G l miL_may 0 0 (rn tIH) 7 [(0, .ref (gA G 0)), (1, .int v1), (2, .ref (gA G 2))] [.int w4, .int ((0 : Int32)), .ref (gA G 2)] P (gdI (0 : Int32) 1 <|
        (some (sL P 2 (0 : Int32).toNatClampNeg (w4.toInt64))).bind fun (P8 : PH) =>
        some ((0 : Int32), P8))
      refine s_i2l (pc := 7) dL_may_7 ?_
      refine s_last (pc := 8) 1 dL_may_8 kd_2 ln_2 ?_
      refine s_letP (fun P8 => ?_)
      refine s_goto (pc := 9) 15 dL_may_9 rfl ?_
      refine s_iconst (pc := 15) (v := 0) dL_may_15 rfl ?_
      exact s_iret (pc := 16) dL_may_16 rfl rfl
def Lw_stitch (v1 : Int32) (P : PH) : Option (Int32 × PH) :=
  (Bs_stitch v1 P).bind fun (x : (String ⊕ Int32) × PH) =>
  Sum.elim (fun E => if E = "java/util/NoSuchElementException" then some ((1 : Int32), x.2) else none) (fun (w4 : Int32) =>
    gdI (0 : Int32) 1 <|
    (some (sL x.2 2 (0 : Int32).toNatClampNeg (w4.toInt64))).bind fun (P8 : PH) =>
    some ((0 : Int32), P8)) x.1
set_option maxRecDepth 100000 in
set_option maxHeartbeats 4000000 in
theorem Lw_stitch_ok {G : GT} {l : Launch} (hG : GOK G l) (v1 : Int32) (P : PH) : OkW G l yL_stitch miL_stitch 1 6 tIH [.ref (gA G 0), .int v1, .ref (gA G 2)] P (Lw_stitch v1 P) := by
  refine okW_of hG _ [(0, .ref (gA G 0)), (1, .int v1), (2, .ref (gA G 2))] rfl rfl rfl (Nat.le_of_ble_eq_true rfl) (by decide) ?_
  unfold Lw_stitch
  refine s_aload_n (pc := 0) 2 dL_stitch_0 rfl rfl ?_
  refine s_iconst (pc := 1) (v := 0) dL_stitch_1 rfl ?_
  refine s_aload_n (pc := 2) 0 dL_stitch_2 rfl rfl ?_
  refine s_iload_n (pc := 3) 1 dL_stitch_3 rfl rfl ?_
  refine s_callVTX (k := 0) (n := 0) (pc := 4) (st := [.int ((0 : Int32)), .ref (gA G 2)]) [.int v1] dL_stitch_4 (cV_L_53 hG) (Nat.le_of_ble_eq_true rfl) rfl kd_0 (Bs_stitch_ok hG v1 P) rfl (Nat.le_of_ble_eq_true rfl) rfl rfl (fun x E hE z hz => ?_) (fun x v hv => ?_)
  · obtain ⟨x, Q⟩ := x
    cases x with
    | inl e =>
      have hE2 : e = E := Sum.inr.inj hE
      replace hz : (if e = "java/util/NoSuchElementException" then some ((1 : Int32), Q) else none) = some z := hz
      rw [hE2] at hz
      by_cases h0 : E = "java/util/NoSuchElementException"
      · subst h0
        rw [if_pos rfl] at hz
        cases hz
        exact ⟨_, hn_L_stitch_0 hG, rfl⟩
      rw [if_neg h0] at hz
      cases hz
    | inr w => cases hE
  · obtain ⟨x, Q⟩ := x
    cases x with
    | inl e => cases hv
    | inr w4 =>
      cases hv
      show Sem G l miL_stitch 0 0 (rn tIH) 7 [(0, .ref (gA G 0)), (1, .int v1), (2, .ref (gA G 2))] [.int w4, .int ((0 : Int32)), .ref (gA G 2)] Q (gdI (0 : Int32) 1 <|
        (some (sL Q 2 (0 : Int32).toNatClampNeg (w4.toInt64))).bind fun (P8 : PH) =>
        some ((0 : Int32), P8))
      refine s_i2l (pc := 7) dL_stitch_7 ?_
      refine s_last (pc := 8) 1 dL_stitch_8 kd_2 ln_2 ?_
      refine s_letP (fun P8 => ?_)
      refine s_goto (pc := 9) 15 dL_stitch_9 rfl ?_
      refine s_iconst (pc := 15) (v := 0) dL_stitch_15 rfl ?_
      exact s_iret (pc := 16) dL_stitch_16 rfl rfl
def Lw_unpick (v1 : Int32) (P : PH) : Option (Int32 × PH) :=
  (Bs_unpick v1 P).bind fun (x : (String ⊕ Int32) × PH) =>
  Sum.elim (fun E => if E = "java/lang/IllegalStateException" then some ((1 : Int32), x.2) else if E = "java/lang/IllegalArgumentException" then some ((2 : Int32), x.2) else none) (fun (w4 : Int32) =>
    gdI (0 : Int32) 1 <|
    (some (sL x.2 2 (0 : Int32).toNatClampNeg (w4.toInt64))).bind fun (P8 : PH) =>
    some ((0 : Int32), P8)) x.1
set_option maxRecDepth 100000 in
set_option maxHeartbeats 4000000 in
theorem Lw_unpick_ok {G : GT} {l : Launch} (hG : GOK G l) (v1 : Int32) (P : PH) : OkW G l yL_unpick miL_unpick 2 12 tIH [.ref (gA G 0), .int v1, .ref (gA G 2)] P (Lw_unpick v1 P) := by
  refine okW_of hG _ [(0, .ref (gA G 0)), (1, .int v1), (2, .ref (gA G 2))] rfl rfl rfl (Nat.le_of_ble_eq_true rfl) (by decide) ?_
  unfold Lw_unpick
  refine s_aload_n (pc := 0) 2 dL_unpick_0 rfl rfl ?_
  refine s_iconst (pc := 1) (v := 0) dL_unpick_1 rfl ?_
  refine s_aload_n (pc := 2) 0 dL_unpick_2 rfl rfl ?_
  refine s_iload_n (pc := 3) 1 dL_unpick_3 rfl rfl ?_
  refine s_callVTX (k := 0) (n := 0) (pc := 4) (st := [.int ((0 : Int32)), .ref (gA G 2)]) [.int v1] dL_unpick_4 (cV_L_56 hG) (Nat.le_of_ble_eq_true rfl) rfl kd_0 (Bs_unpick_ok hG v1 P) rfl (Nat.le_of_ble_eq_true rfl) rfl rfl (fun x E hE z hz => ?_) (fun x v hv => ?_)
  · obtain ⟨x, Q⟩ := x
    cases x with
    | inl e =>
      have hE2 : e = E := Sum.inr.inj hE
      replace hz : (if e = "java/lang/IllegalStateException" then some ((1 : Int32), Q) else if e = "java/lang/IllegalArgumentException" then some ((2 : Int32), Q) else none) = some z := hz
      rw [hE2] at hz
      by_cases h0 : E = "java/lang/IllegalStateException"
      · subst h0
        rw [if_pos rfl] at hz
        cases hz
        exact ⟨_, hn_L_unpick_0 hG, rfl⟩
      rw [if_neg h0] at hz
      by_cases h1 : E = "java/lang/IllegalArgumentException"
      · subst h1
        rw [if_pos rfl] at hz
        cases hz
        exact ⟨_, hn_L_unpick_1 hG, rfl⟩
      rw [if_neg h1] at hz
      cases hz
    | inr w => cases hE
  · obtain ⟨x, Q⟩ := x
    cases x with
    | inl e => cases hv
    | inr w4 =>
      cases hv
      show Sem G l miL_unpick 0 0 (rn tIH) 7 [(0, .ref (gA G 0)), (1, .int v1), (2, .ref (gA G 2))] [.int w4, .int ((0 : Int32)), .ref (gA G 2)] Q (gdI (0 : Int32) 1 <|
        (some (sL Q 2 (0 : Int32).toNatClampNeg (w4.toInt64))).bind fun (P8 : PH) =>
        some ((0 : Int32), P8))
      refine s_i2l (pc := 7) dL_unpick_7 ?_
      refine s_last (pc := 8) 1 dL_unpick_8 kd_2 ln_2 ?_
      refine s_letP (fun P8 => ?_)
      refine s_goto (pc := 9) 18 dL_unpick_9 rfl ?_
      refine s_iconst (pc := 18) (v := 0) dL_unpick_18 rfl ?_
      exact s_iret (pc := 19) dL_unpick_19 rfl rfl
def Lw_thread (v1 : Int32) (P : PH) : Option (Int32 × PH) :=
  (Bs_thread v1 P).bind fun (x : String ⊕ Int32) =>
  Sum.elim (fun E => if E = "java/lang/IllegalStateException" then some ((1 : Int32), P) else if E = "java/lang/IllegalArgumentException" then some ((2 : Int32), P) else none) (fun (w4 : Int32) =>
    gdI (0 : Int32) 1 <|
    (some (sL P 2 (0 : Int32).toNatClampNeg (w4.toInt64))).bind fun (P8 : PH) =>
    some ((0 : Int32), P8)) x
set_option maxRecDepth 100000 in
set_option maxHeartbeats 4000000 in
theorem Lw_thread_ok {G : GT} {l : Launch} (hG : GOK G l) (v1 : Int32) (P : PH) : OkW G l yL_thread miL_thread 2 12 tIH [.ref (gA G 0), .int v1, .ref (gA G 2)] P (Lw_thread v1 P) := by
  refine okW_of hG _ [(0, .ref (gA G 0)), (1, .int v1), (2, .ref (gA G 2))] rfl rfl rfl (Nat.le_of_ble_eq_true rfl) (by decide) ?_
  unfold Lw_thread
  refine s_aload_n (pc := 0) 2 dL_thread_0 rfl rfl ?_
  refine s_iconst (pc := 1) (v := 0) dL_thread_1 rfl ?_
  refine s_aload_n (pc := 2) 0 dL_thread_2 rfl rfl ?_
  refine s_iload_n (pc := 3) 1 dL_thread_3 rfl rfl ?_
  refine s_callVTX (k := 0) (n := 0) (pc := 4) (st := [.int ((0 : Int32)), .ref (gA G 2)]) [.int v1] dL_thread_4 (cV_L_59 hG) (Nat.le_of_ble_eq_true rfl) rfl kd_0 (Bs_thread_ok hG v1 P) rfl (Nat.le_of_ble_eq_true rfl) rfl rfl (fun x E hE z hz => ?_) (fun x v hv => ?_)
  · cases x with
    | inl e =>
      have hE2 : e = E := Sum.inr.inj hE
      replace hz : (if e = "java/lang/IllegalStateException" then some ((1 : Int32), P) else if e = "java/lang/IllegalArgumentException" then some ((2 : Int32), P) else none) = some z := hz
      rw [hE2] at hz
      by_cases h0 : E = "java/lang/IllegalStateException"
      · subst h0
        rw [if_pos rfl] at hz
        cases hz
        exact ⟨_, hn_L_thread_0 hG, rfl⟩
      rw [if_neg h0] at hz
      by_cases h1 : E = "java/lang/IllegalArgumentException"
      · subst h1
        rw [if_pos rfl] at hz
        cases hz
        exact ⟨_, hn_L_thread_1 hG, rfl⟩
      rw [if_neg h1] at hz
      cases hz
    | inr w => cases hE
  · cases x with
    | inl e => cases hv
    | inr w4 =>
      cases hv
      show Sem G l miL_thread 0 0 (rn tIH) 7 [(0, .ref (gA G 0)), (1, .int v1), (2, .ref (gA G 2))] [.int w4, .int ((0 : Int32)), .ref (gA G 2)] P (gdI (0 : Int32) 1 <|
        (some (sL P 2 (0 : Int32).toNatClampNeg (w4.toInt64))).bind fun (P8 : PH) =>
        some ((0 : Int32), P8))
      refine s_i2l (pc := 7) dL_thread_7 ?_
      refine s_last (pc := 8) 1 dL_thread_8 kd_2 ln_2 ?_
      refine s_letP (fun P8 => ?_)
      refine s_goto (pc := 9) 18 dL_thread_9 rfl ?_
      refine s_iconst (pc := 18) (v := 0) dL_thread_18 rfl ?_
      exact s_iret (pc := 19) dL_thread_19 rfl rfl
def Lw_done (v1 : Int32) (P : PH) : Option (Int32 × PH) :=
  (Bs_done v1 P).bind fun (x : String ⊕ Int32) =>
  Sum.elim (fun E => if E = "java/lang/IllegalStateException" then some ((1 : Int32), P) else none) (fun (w4 : Int32) =>
    gdI (0 : Int32) 1 <|
    (some (sL P 2 (0 : Int32).toNatClampNeg (w4.toInt64))).bind fun (P8 : PH) =>
    some ((0 : Int32), P8)) x
set_option maxRecDepth 100000 in
set_option maxHeartbeats 4000000 in
theorem Lw_done_ok {G : GT} {l : Launch} (hG : GOK G l) (v1 : Int32) (P : PH) : OkW G l yL_done miL_done 1 6 tIH [.ref (gA G 0), .int v1, .ref (gA G 2)] P (Lw_done v1 P) := by
  refine okW_of hG _ [(0, .ref (gA G 0)), (1, .int v1), (2, .ref (gA G 2))] rfl rfl rfl (Nat.le_of_ble_eq_true rfl) (by decide) ?_
  unfold Lw_done
  refine s_aload_n (pc := 0) 2 dL_done_0 rfl rfl ?_
  refine s_iconst (pc := 1) (v := 0) dL_done_1 rfl ?_
  refine s_aload_n (pc := 2) 0 dL_done_2 rfl rfl ?_
  refine s_iload_n (pc := 3) 1 dL_done_3 rfl rfl ?_
  refine s_callVTX (k := 0) (n := 0) (pc := 4) (st := [.int ((0 : Int32)), .ref (gA G 2)]) [.int v1] dL_done_4 (cV_L_62 hG) (Nat.le_of_ble_eq_true rfl) rfl kd_0 (Bs_done_ok hG v1 P) rfl (Nat.le_of_ble_eq_true rfl) rfl rfl (fun x E hE z hz => ?_) (fun x v hv => ?_)
  · cases x with
    | inl e =>
      have hE2 : e = E := Sum.inr.inj hE
      replace hz : (if e = "java/lang/IllegalStateException" then some ((1 : Int32), P) else none) = some z := hz
      rw [hE2] at hz
      by_cases h0 : E = "java/lang/IllegalStateException"
      · subst h0
        rw [if_pos rfl] at hz
        cases hz
        exact ⟨_, hn_L_done_0 hG, rfl⟩
      rw [if_neg h0] at hz
      cases hz
    | inr w => cases hE
  · cases x with
    | inl e => cases hv
    | inr w4 =>
      cases hv
      show Sem G l miL_done 0 0 (rn tIH) 7 [(0, .ref (gA G 0)), (1, .int v1), (2, .ref (gA G 2))] [.int w4, .int ((0 : Int32)), .ref (gA G 2)] P (gdI (0 : Int32) 1 <|
        (some (sL P 2 (0 : Int32).toNatClampNeg (w4.toInt64))).bind fun (P8 : PH) =>
        some ((0 : Int32), P8))
      refine s_i2l (pc := 7) dL_done_7 ?_
      refine s_last (pc := 8) 1 dL_done_8 kd_2 ln_2 ?_
      refine s_letP (fun P8 => ?_)
      refine s_goto (pc := 9) 15 dL_done_9 rfl ?_
      refine s_iconst (pc := 15) (v := 0) dL_done_15 rfl ?_
      exact s_iret (pc := 16) dL_done_16 rfl rfl
def Lw_judge (v1 : Int32) (v2 : Int32) (P : PH) : Option (Int32 × PH) :=
  (Bs_judge v1 v2 P).bind fun (x : (String ⊕ Int32) × PH) =>
  Sum.elim (fun E => if E = "java/util/NoSuchElementException" then some ((1 : Int32), x.2) else if E = "java/lang/IllegalStateException" then some ((2 : Int32), x.2) else if E = "java/lang/IllegalArgumentException" then some ((3 : Int32), x.2) else none) (fun (w5 : Int32) =>
    gdI (0 : Int32) 1 <|
    (some (sL x.2 2 (0 : Int32).toNatClampNeg (w5.toInt64))).bind fun (P9 : PH) =>
    some ((0 : Int32), P9)) x.1
set_option maxRecDepth 100000 in
set_option maxHeartbeats 4000000 in
theorem Lw_judge_ok {G : GT} {l : Launch} (hG : GOK G l) (v1 : Int32) (v2 : Int32) (P : PH) : OkW G l yL_judge miL_judge 4 24 tIH [.ref (gA G 0), .int v1, .int v2, .ref (gA G 2)] P (Lw_judge v1 v2 P) := by
  refine okW_of hG _ [(0, .ref (gA G 0)), (1, .int v1), (2, .int v2), (3, .ref (gA G 2))] rfl rfl rfl (Nat.le_of_ble_eq_true rfl) (by decide) ?_
  unfold Lw_judge
  refine s_aload_n (pc := 0) 3 dL_judge_0 rfl rfl ?_
  refine s_iconst (pc := 1) (v := 0) dL_judge_1 rfl ?_
  refine s_aload_n (pc := 2) 0 dL_judge_2 rfl rfl ?_
  refine s_iload_n (pc := 3) 1 dL_judge_3 rfl rfl ?_
  refine s_iload_n (pc := 4) 2 dL_judge_4 rfl rfl ?_
  refine s_callVTX (k := 0) (n := 0) (pc := 5) (st := [.int ((0 : Int32)), .ref (gA G 2)]) [.int v1, .int v2] dL_judge_5 (cV_L_65 hG) (Nat.le_of_ble_eq_true rfl) rfl kd_0 (Bs_judge_ok hG v1 v2 P) rfl (Nat.le_of_ble_eq_true rfl) rfl rfl (fun x E hE z hz => ?_) (fun x v hv => ?_)
  · obtain ⟨x, Q⟩ := x
    cases x with
    | inl e =>
      have hE2 : e = E := Sum.inr.inj hE
      replace hz : (if e = "java/util/NoSuchElementException" then some ((1 : Int32), Q) else if e = "java/lang/IllegalStateException" then some ((2 : Int32), Q) else if e = "java/lang/IllegalArgumentException" then some ((3 : Int32), Q) else none) = some z := hz
      rw [hE2] at hz
      by_cases h0 : E = "java/util/NoSuchElementException"
      · subst h0
        rw [if_pos rfl] at hz
        cases hz
        exact ⟨_, hn_L_judge_0 hG, rfl⟩
      rw [if_neg h0] at hz
      by_cases h1 : E = "java/lang/IllegalStateException"
      · subst h1
        rw [if_pos rfl] at hz
        cases hz
        exact ⟨_, hn_L_judge_1 hG, rfl⟩
      rw [if_neg h1] at hz
      by_cases h2 : E = "java/lang/IllegalArgumentException"
      · subst h2
        rw [if_pos rfl] at hz
        cases hz
        exact ⟨_, hn_L_judge_2 hG, rfl⟩
      rw [if_neg h2] at hz
      cases hz
    | inr w => cases hE
  · obtain ⟨x, Q⟩ := x
    cases x with
    | inl e => cases hv
    | inr w5 =>
      cases hv
      show Sem G l miL_judge 0 0 (rn tIH) 8 [(0, .ref (gA G 0)), (1, .int v1), (2, .int v2), (3, .ref (gA G 2))] [.int w5, .int ((0 : Int32)), .ref (gA G 2)] Q (gdI (0 : Int32) 1 <|
        (some (sL Q 2 (0 : Int32).toNatClampNeg (w5.toInt64))).bind fun (P9 : PH) =>
        some ((0 : Int32), P9))
      refine s_i2l (pc := 8) dL_judge_8 ?_
      refine s_last (pc := 9) 1 dL_judge_9 kd_2 ln_2 ?_
      refine s_letP (fun P9 => ?_)
      refine s_goto (pc := 10) 25 dL_judge_10 rfl ?_
      refine s_iconst (pc := 25) (v := 0) dL_judge_25 rfl ?_
      exact s_iret (pc := 26) dL_judge_26 rfl rfl
def Lw_perform (v1 : Int32) (P : PH) : Option (Int32 × PH) :=
  (Bs_perform v1 P).bind fun (x : (String ⊕ Int32) × PH) =>
  Sum.elim (fun E => if E = "java/util/NoSuchElementException" then some ((1 : Int32), x.2) else if E = "java/lang/IllegalStateException" then some ((2 : Int32), x.2) else none) (fun (w4 : Int32) =>
    gdI (0 : Int32) 1 <|
    (some (sL x.2 2 (0 : Int32).toNatClampNeg (w4.toInt64))).bind fun (P8 : PH) =>
    some ((0 : Int32), P8)) x.1
set_option maxRecDepth 100000 in
set_option maxHeartbeats 4000000 in
theorem Lw_perform_ok {G : GT} {l : Launch} (hG : GOK G l) (v1 : Int32) (P : PH) : OkW G l yL_perform miL_perform 3 18 tIH [.ref (gA G 0), .int v1, .ref (gA G 2)] P (Lw_perform v1 P) := by
  refine okW_of hG _ [(0, .ref (gA G 0)), (1, .int v1), (2, .ref (gA G 2))] rfl rfl rfl (Nat.le_of_ble_eq_true rfl) (by decide) ?_
  unfold Lw_perform
  refine s_aload_n (pc := 0) 2 dL_perform_0 rfl rfl ?_
  refine s_iconst (pc := 1) (v := 0) dL_perform_1 rfl ?_
  refine s_aload_n (pc := 2) 0 dL_perform_2 rfl rfl ?_
  refine s_iload_n (pc := 3) 1 dL_perform_3 rfl rfl ?_
  refine s_callVTX (k := 0) (n := 0) (pc := 4) (st := [.int ((0 : Int32)), .ref (gA G 2)]) [.int v1] dL_perform_4 (cV_L_68 hG) (Nat.le_of_ble_eq_true rfl) rfl kd_0 (Bs_perform_ok hG v1 P) rfl (Nat.le_of_ble_eq_true rfl) rfl rfl (fun x E hE z hz => ?_) (fun x v hv => ?_)
  · obtain ⟨x, Q⟩ := x
    cases x with
    | inl e =>
      have hE2 : e = E := Sum.inr.inj hE
      replace hz : (if e = "java/util/NoSuchElementException" then some ((1 : Int32), Q) else if e = "java/lang/IllegalStateException" then some ((2 : Int32), Q) else none) = some z := hz
      rw [hE2] at hz
      by_cases h0 : E = "java/util/NoSuchElementException"
      · subst h0
        rw [if_pos rfl] at hz
        cases hz
        exact ⟨_, hn_L_perform_0 hG, rfl⟩
      rw [if_neg h0] at hz
      by_cases h1 : E = "java/lang/IllegalStateException"
      · subst h1
        rw [if_pos rfl] at hz
        cases hz
        exact ⟨_, hn_L_perform_1 hG, rfl⟩
      rw [if_neg h1] at hz
      cases hz
    | inr w => cases hE
  · obtain ⟨x, Q⟩ := x
    cases x with
    | inl e => cases hv
    | inr w4 =>
      cases hv
      show Sem G l miL_perform 0 0 (rn tIH) 7 [(0, .ref (gA G 0)), (1, .int v1), (2, .ref (gA G 2))] [.int w4, .int ((0 : Int32)), .ref (gA G 2)] Q (gdI (0 : Int32) 1 <|
        (some (sL Q 2 (0 : Int32).toNatClampNeg (w4.toInt64))).bind fun (P8 : PH) =>
        some ((0 : Int32), P8))
      refine s_i2l (pc := 7) dL_perform_7 ?_
      refine s_last (pc := 8) 1 dL_perform_8 kd_2 ln_2 ?_
      refine s_letP (fun P8 => ?_)
      refine s_goto (pc := 9) 18 dL_perform_9 rfl ?_
      refine s_iconst (pc := 18) (v := 0) dL_perform_18 rfl ?_
      exact s_iret (pc := 19) dL_perform_19 rfl rfl
def Lw_left  (P : PH) : Option (Int32 × PH) :=
  (Bs_left  P).bind fun (x : String ⊕ Int32) =>
  Sum.elim (fun E => if E = "java/lang/IllegalStateException" then some ((1 : Int32), P) else none) (fun (w3 : Int32) =>
    gdI (0 : Int32) 1 <|
    (some (sL P 2 (0 : Int32).toNatClampNeg (w3.toInt64))).bind fun (P7 : PH) =>
    some ((0 : Int32), P7)) x
set_option maxRecDepth 100000 in
set_option maxHeartbeats 4000000 in
theorem Lw_left_ok {G : GT} {l : Launch} (hG : GOK G l)  (P : PH) : OkW G l yL_left miL_left 1 6 tIH [.ref (gA G 0), .ref (gA G 2)] P (Lw_left  P) := by
  refine okW_of hG _ [(0, .ref (gA G 0)), (1, .ref (gA G 2))] rfl rfl rfl (Nat.le_of_ble_eq_true rfl) (by decide) ?_
  unfold Lw_left
  refine s_aload_n (pc := 0) 1 dL_left_0 rfl rfl ?_
  refine s_iconst (pc := 1) (v := 0) dL_left_1 rfl ?_
  refine s_aload_n (pc := 2) 0 dL_left_2 rfl rfl ?_
  refine s_callVTX (k := 0) (n := 0) (pc := 3) (st := [.int ((0 : Int32)), .ref (gA G 2)]) [] dL_left_3 (cV_L_71 hG) (Nat.le_of_ble_eq_true rfl) rfl kd_0 (Bs_left_ok hG  P) rfl (Nat.le_of_ble_eq_true rfl) rfl rfl (fun x E hE z hz => ?_) (fun x v hv => ?_)
  · cases x with
    | inl e =>
      have hE2 : e = E := Sum.inr.inj hE
      replace hz : (if e = "java/lang/IllegalStateException" then some ((1 : Int32), P) else none) = some z := hz
      rw [hE2] at hz
      by_cases h0 : E = "java/lang/IllegalStateException"
      · subst h0
        rw [if_pos rfl] at hz
        cases hz
        exact ⟨_, hn_L_left_0 hG, rfl⟩
      rw [if_neg h0] at hz
      cases hz
    | inr w => cases hE
  · cases x with
    | inl e => cases hv
    | inr w3 =>
      cases hv
      show Sem G l miL_left 0 0 (rn tIH) 6 [(0, .ref (gA G 0)), (1, .ref (gA G 2))] [.int w3, .int ((0 : Int32)), .ref (gA G 2)] P (gdI (0 : Int32) 1 <|
        (some (sL P 2 (0 : Int32).toNatClampNeg (w3.toInt64))).bind fun (P7 : PH) =>
        some ((0 : Int32), P7))
      refine s_i2l (pc := 6) dL_left_6 ?_
      refine s_last (pc := 7) 1 dL_left_7 kd_2 ln_2 ?_
      refine s_letP (fun P7 => ?_)
      refine s_goto (pc := 8) 14 dL_left_8 rfl ?_
      refine s_iconst (pc := 14) (v := 0) dL_left_14 rfl ?_
      exact s_iret (pc := 15) dL_left_15 rfl rfl
def Lw_barred (v1 : Int32) (P : PH) : Option (Int32 × PH) :=
  (Bs_barred v1 P).bind fun (x : (String ⊕ Int32) × PH) =>
  Sum.elim (fun E => if E = "java/lang/IllegalStateException" then some ((1 : Int32), x.2) else if E = "java/lang/IllegalArgumentException" then some ((2 : Int32), x.2) else none) (fun (w4 : Int32) =>
    gdI (0 : Int32) 1 <|
    (some (sL x.2 2 (0 : Int32).toNatClampNeg (w4.toInt64))).bind fun (P8 : PH) =>
    some ((0 : Int32), P8)) x.1
set_option maxRecDepth 100000 in
set_option maxHeartbeats 4000000 in
theorem Lw_barred_ok {G : GT} {l : Launch} (hG : GOK G l) (v1 : Int32) (P : PH) : OkW G l yL_barred miL_barred 2 12 tIH [.ref (gA G 0), .int v1, .ref (gA G 2)] P (Lw_barred v1 P) := by
  refine okW_of hG _ [(0, .ref (gA G 0)), (1, .int v1), (2, .ref (gA G 2))] rfl rfl rfl (Nat.le_of_ble_eq_true rfl) (by decide) ?_
  unfold Lw_barred
  refine s_aload_n (pc := 0) 2 dL_barred_0 rfl rfl ?_
  refine s_iconst (pc := 1) (v := 0) dL_barred_1 rfl ?_
  refine s_aload_n (pc := 2) 0 dL_barred_2 rfl rfl ?_
  refine s_iload_n (pc := 3) 1 dL_barred_3 rfl rfl ?_
  refine s_callVTX (k := 0) (n := 0) (pc := 4) (st := [.int ((0 : Int32)), .ref (gA G 2)]) [.int v1] dL_barred_4 (cV_L_74 hG) (Nat.le_of_ble_eq_true rfl) rfl kd_0 (Bs_barred_ok hG v1 P) rfl (Nat.le_of_ble_eq_true rfl) rfl rfl (fun x E hE z hz => ?_) (fun x v hv => ?_)
  · obtain ⟨x, Q⟩ := x
    cases x with
    | inl e =>
      have hE2 : e = E := Sum.inr.inj hE
      replace hz : (if e = "java/lang/IllegalStateException" then some ((1 : Int32), Q) else if e = "java/lang/IllegalArgumentException" then some ((2 : Int32), Q) else none) = some z := hz
      rw [hE2] at hz
      by_cases h0 : E = "java/lang/IllegalStateException"
      · subst h0
        rw [if_pos rfl] at hz
        cases hz
        exact ⟨_, hn_L_barred_0 hG, rfl⟩
      rw [if_neg h0] at hz
      by_cases h1 : E = "java/lang/IllegalArgumentException"
      · subst h1
        rw [if_pos rfl] at hz
        cases hz
        exact ⟨_, hn_L_barred_1 hG, rfl⟩
      rw [if_neg h1] at hz
      cases hz
    | inr w => cases hE
  · obtain ⟨x, Q⟩ := x
    cases x with
    | inl e => cases hv
    | inr w4 =>
      cases hv
      show Sem G l miL_barred 0 0 (rn tIH) 7 [(0, .ref (gA G 0)), (1, .int v1), (2, .ref (gA G 2))] [.int w4, .int ((0 : Int32)), .ref (gA G 2)] Q (gdI (0 : Int32) 1 <|
        (some (sL Q 2 (0 : Int32).toNatClampNeg (w4.toInt64))).bind fun (P8 : PH) =>
        some ((0 : Int32), P8))
      refine s_i2l (pc := 7) dL_barred_7 ?_
      refine s_last (pc := 8) 1 dL_barred_8 kd_2 ln_2 ?_
      refine s_letP (fun P8 => ?_)
      refine s_goto (pc := 9) 18 dL_barred_9 rfl ?_
      refine s_iconst (pc := 18) (v := 0) dL_barred_18 rfl ?_
      exact s_iret (pc := 19) dL_barred_19 rfl rfl
def Lw_ending  (P : PH) : Option (Int32 × PH) :=
  (Bs_ending  P).bind fun (x : (String ⊕ Int32) × PH) =>
  Sum.elim (fun E => if E = "java/lang/IllegalStateException" then some ((1 : Int32), x.2) else none) (fun (w3 : Int32) =>
    gdI (0 : Int32) 1 <|
    (some (sL x.2 2 (0 : Int32).toNatClampNeg (w3.toInt64))).bind fun (P7 : PH) =>
    some ((0 : Int32), P7)) x.1
set_option maxRecDepth 100000 in
set_option maxHeartbeats 4000000 in
theorem Lw_ending_ok {G : GT} {l : Launch} (hG : GOK G l)  (P : PH) : OkW G l yL_ending miL_ending 1 6 tIH [.ref (gA G 0), .ref (gA G 2)] P (Lw_ending  P) := by
  refine okW_of hG _ [(0, .ref (gA G 0)), (1, .ref (gA G 2))] rfl rfl rfl (Nat.le_of_ble_eq_true rfl) (by decide) ?_
  unfold Lw_ending
  refine s_aload_n (pc := 0) 1 dL_ending_0 rfl rfl ?_
  refine s_iconst (pc := 1) (v := 0) dL_ending_1 rfl ?_
  refine s_aload_n (pc := 2) 0 dL_ending_2 rfl rfl ?_
  refine s_callVTX (k := 0) (n := 0) (pc := 3) (st := [.int ((0 : Int32)), .ref (gA G 2)]) [] dL_ending_3 (cV_L_77 hG) (Nat.le_of_ble_eq_true rfl) rfl kd_0 (Bs_ending_ok hG  P) rfl (Nat.le_of_ble_eq_true rfl) rfl rfl (fun x E hE z hz => ?_) (fun x v hv => ?_)
  · obtain ⟨x, Q⟩ := x
    cases x with
    | inl e =>
      have hE2 : e = E := Sum.inr.inj hE
      replace hz : (if e = "java/lang/IllegalStateException" then some ((1 : Int32), Q) else none) = some z := hz
      rw [hE2] at hz
      by_cases h0 : E = "java/lang/IllegalStateException"
      · subst h0
        rw [if_pos rfl] at hz
        cases hz
        exact ⟨_, hn_L_ending_0 hG, rfl⟩
      rw [if_neg h0] at hz
      cases hz
    | inr w => cases hE
  · obtain ⟨x, Q⟩ := x
    cases x with
    | inl e => cases hv
    | inr w3 =>
      cases hv
      show Sem G l miL_ending 0 0 (rn tIH) 6 [(0, .ref (gA G 0)), (1, .ref (gA G 2))] [.int w3, .int ((0 : Int32)), .ref (gA G 2)] Q (gdI (0 : Int32) 1 <|
        (some (sL Q 2 (0 : Int32).toNatClampNeg (w3.toInt64))).bind fun (P7 : PH) =>
        some ((0 : Int32), P7))
      refine s_i2l (pc := 6) dL_ending_6 ?_
      refine s_last (pc := 7) 1 dL_ending_7 kd_2 ln_2 ?_
      refine s_letP (fun P7 => ?_)
      refine s_goto (pc := 8) 14 dL_ending_8 rfl ?_
      refine s_iconst (pc := 14) (v := 0) dL_ending_14 rfl ?_
      exact s_iret (pc := 15) dL_ending_15 rfl rfl
def Lw_working (v1 : Int32) (P : PH) : Option (Int32 × PH) :=
  (Bs_working v1 P).bind fun (x : (String ⊕ Int32) × PH) =>
  Sum.elim (fun E => if E = "java/lang/IllegalStateException" then some ((1 : Int32), x.2) else none) (fun (w4 : Int32) =>
    gdI (0 : Int32) 1 <|
    (some (sL x.2 2 (0 : Int32).toNatClampNeg (w4.toInt64))).bind fun (P8 : PH) =>
    some ((0 : Int32), P8)) x.1
set_option maxRecDepth 100000 in
set_option maxHeartbeats 4000000 in
theorem Lw_working_ok {G : GT} {l : Launch} (hG : GOK G l) (v1 : Int32) (P : PH) : OkW G l yL_working miL_working 1 6 tIH [.ref (gA G 0), .int v1, .ref (gA G 2)] P (Lw_working v1 P) := by
  refine okW_of hG _ [(0, .ref (gA G 0)), (1, .int v1), (2, .ref (gA G 2))] rfl rfl rfl (Nat.le_of_ble_eq_true rfl) (by decide) ?_
  unfold Lw_working
  refine s_aload_n (pc := 0) 2 dL_working_0 rfl rfl ?_
  refine s_iconst (pc := 1) (v := 0) dL_working_1 rfl ?_
  refine s_aload_n (pc := 2) 0 dL_working_2 rfl rfl ?_
  refine s_iload_n (pc := 3) 1 dL_working_3 rfl rfl ?_
  refine s_callVTX (k := 0) (n := 0) (pc := 4) (st := [.int ((0 : Int32)), .ref (gA G 2)]) [.int v1] dL_working_4 (cV_L_80 hG) (Nat.le_of_ble_eq_true rfl) rfl kd_0 (Bs_working_ok hG v1 P) rfl (Nat.le_of_ble_eq_true rfl) rfl rfl (fun x E hE z hz => ?_) (fun x v hv => ?_)
  · obtain ⟨x, Q⟩ := x
    cases x with
    | inl e =>
      have hE2 : e = E := Sum.inr.inj hE
      replace hz : (if e = "java/lang/IllegalStateException" then some ((1 : Int32), Q) else none) = some z := hz
      rw [hE2] at hz
      by_cases h0 : E = "java/lang/IllegalStateException"
      · subst h0
        rw [if_pos rfl] at hz
        cases hz
        exact ⟨_, hn_L_working_0 hG, rfl⟩
      rw [if_neg h0] at hz
      cases hz
    | inr w => cases hE
  · obtain ⟨x, Q⟩ := x
    cases x with
    | inl e => cases hv
    | inr w4 =>
      cases hv
      show Sem G l miL_working 0 0 (rn tIH) 7 [(0, .ref (gA G 0)), (1, .int v1), (2, .ref (gA G 2))] [.int w4, .int ((0 : Int32)), .ref (gA G 2)] Q (gdI (0 : Int32) 1 <|
        (some (sL Q 2 (0 : Int32).toNatClampNeg (w4.toInt64))).bind fun (P8 : PH) =>
        some ((0 : Int32), P8))
      refine s_i2l (pc := 7) dL_working_7 ?_
      refine s_last (pc := 8) 1 dL_working_8 kd_2 ln_2 ?_
      refine s_letP (fun P8 => ?_)
      refine s_goto (pc := 9) 15 dL_working_9 rfl ?_
      refine s_iconst (pc := 15) (v := 0) dL_working_15 rfl ?_
      exact s_iret (pc := 16) dL_working_16 rfl rfl
def Lw_work  (P : PH) : Option (Int32 × PH) :=
  (Bs_work  P).bind fun (x : (String ⊕ Int32) × PH) =>
  Sum.elim (fun E => if E = "java/lang/IllegalStateException" then some ((1 : Int32), x.2) else none) (fun (w3 : Int32) =>
    gdI (0 : Int32) 1 <|
    (some (sL x.2 2 (0 : Int32).toNatClampNeg (w3.toInt64))).bind fun (P7 : PH) =>
    some ((0 : Int32), P7)) x.1
set_option maxRecDepth 100000 in
set_option maxHeartbeats 4000000 in
theorem Lw_work_ok {G : GT} {l : Launch} (hG : GOK G l)  (P : PH) : OkW G l yL_work miL_work 1 6 tIH [.ref (gA G 0), .ref (gA G 2)] P (Lw_work  P) := by
  refine okW_of hG _ [(0, .ref (gA G 0)), (1, .ref (gA G 2))] rfl rfl rfl (Nat.le_of_ble_eq_true rfl) (by decide) ?_
  unfold Lw_work
  refine s_aload_n (pc := 0) 1 dL_work_0 rfl rfl ?_
  refine s_iconst (pc := 1) (v := 0) dL_work_1 rfl ?_
  refine s_aload_n (pc := 2) 0 dL_work_2 rfl rfl ?_
  refine s_callVTX (k := 0) (n := 0) (pc := 3) (st := [.int ((0 : Int32)), .ref (gA G 2)]) [] dL_work_3 (cV_L_83 hG) (Nat.le_of_ble_eq_true rfl) rfl kd_0 (Bs_work_ok hG  P) rfl (Nat.le_of_ble_eq_true rfl) rfl rfl (fun x E hE z hz => ?_) (fun x v hv => ?_)
  · obtain ⟨x, Q⟩ := x
    cases x with
    | inl e =>
      have hE2 : e = E := Sum.inr.inj hE
      replace hz : (if e = "java/lang/IllegalStateException" then some ((1 : Int32), Q) else none) = some z := hz
      rw [hE2] at hz
      by_cases h0 : E = "java/lang/IllegalStateException"
      · subst h0
        rw [if_pos rfl] at hz
        cases hz
        exact ⟨_, hn_L_work_0 hG, rfl⟩
      rw [if_neg h0] at hz
      cases hz
    | inr w => cases hE
  · obtain ⟨x, Q⟩ := x
    cases x with
    | inl e => cases hv
    | inr w3 =>
      cases hv
      show Sem G l miL_work 0 0 (rn tIH) 6 [(0, .ref (gA G 0)), (1, .ref (gA G 2))] [.int w3, .int ((0 : Int32)), .ref (gA G 2)] Q (gdI (0 : Int32) 1 <|
        (some (sL Q 2 (0 : Int32).toNatClampNeg (w3.toInt64))).bind fun (P7 : PH) =>
        some ((0 : Int32), P7))
      refine s_i2l (pc := 6) dL_work_6 ?_
      refine s_last (pc := 7) 1 dL_work_7 kd_2 ln_2 ?_
      refine s_letP (fun P7 => ?_)
      refine s_goto (pc := 8) 14 dL_work_8 rfl ?_
      refine s_iconst (pc := 14) (v := 0) dL_work_14 rfl ?_
      exact s_iret (pc := 15) dL_work_15 rfl rfl
def Lw_ways  (P : PH) : Option (Int32 × PH) :=
  (Bs_ways  P).bind fun (x : (String ⊕ Int32) × PH) =>
  Sum.elim (fun E => if E = "java/lang/IllegalStateException" then some ((1 : Int32), x.2) else none) (fun (w3 : Int32) =>
    gdI (0 : Int32) 1 <|
    (some (sL x.2 2 (0 : Int32).toNatClampNeg (w3.toInt64))).bind fun (P7 : PH) =>
    some ((0 : Int32), P7)) x.1
set_option maxRecDepth 100000 in
set_option maxHeartbeats 4000000 in
theorem Lw_ways_ok {G : GT} {l : Launch} (hG : GOK G l)  (P : PH) : OkW G l yL_ways miL_ways 1 6 tIH [.ref (gA G 0), .ref (gA G 2)] P (Lw_ways  P) := by
  refine okW_of hG _ [(0, .ref (gA G 0)), (1, .ref (gA G 2))] rfl rfl rfl (Nat.le_of_ble_eq_true rfl) (by decide) ?_
  unfold Lw_ways
  refine s_aload_n (pc := 0) 1 dL_ways_0 rfl rfl ?_
  refine s_iconst (pc := 1) (v := 0) dL_ways_1 rfl ?_
  refine s_aload_n (pc := 2) 0 dL_ways_2 rfl rfl ?_
  refine s_callVTX (k := 0) (n := 0) (pc := 3) (st := [.int ((0 : Int32)), .ref (gA G 2)]) [] dL_ways_3 (cV_L_86 hG) (Nat.le_of_ble_eq_true rfl) rfl kd_0 (Bs_ways_ok hG  P) rfl (Nat.le_of_ble_eq_true rfl) rfl rfl (fun x E hE z hz => ?_) (fun x v hv => ?_)
  · obtain ⟨x, Q⟩ := x
    cases x with
    | inl e =>
      have hE2 : e = E := Sum.inr.inj hE
      replace hz : (if e = "java/lang/IllegalStateException" then some ((1 : Int32), Q) else none) = some z := hz
      rw [hE2] at hz
      by_cases h0 : E = "java/lang/IllegalStateException"
      · subst h0
        rw [if_pos rfl] at hz
        cases hz
        exact ⟨_, hn_L_ways_0 hG, rfl⟩
      rw [if_neg h0] at hz
      cases hz
    | inr w => cases hE
  · obtain ⟨x, Q⟩ := x
    cases x with
    | inl e => cases hv
    | inr w3 =>
      cases hv
      show Sem G l miL_ways 0 0 (rn tIH) 6 [(0, .ref (gA G 0)), (1, .ref (gA G 2))] [.int w3, .int ((0 : Int32)), .ref (gA G 2)] Q (gdI (0 : Int32) 1 <|
        (some (sL Q 2 (0 : Int32).toNatClampNeg (w3.toInt64))).bind fun (P7 : PH) =>
        some ((0 : Int32), P7))
      refine s_i2l (pc := 6) dL_ways_6 ?_
      refine s_last (pc := 7) 1 dL_ways_7 kd_2 ln_2 ?_
      refine s_letP (fun P7 => ?_)
      refine s_goto (pc := 8) 14 dL_ways_8 rfl ?_
      refine s_iconst (pc := 14) (v := 0) dL_ways_14 rfl ?_
      exact s_iret (pc := 15) dL_ways_15 rfl rfl
def Lw_unpicked (v1 : Int32) (v2 : Int32) (P : PH) : Option (Int32 × PH) :=
  (Bs_unpicked v1 v2 P).bind fun (x : (String ⊕ Int32) × PH) =>
  Sum.elim (fun E => if E = "java/lang/IllegalStateException" then some ((1 : Int32), x.2) else if E = "java/lang/IllegalArgumentException" then some ((2 : Int32), x.2) else none) (fun (w5 : Int32) =>
    gdI (0 : Int32) 1 <|
    (some (sL x.2 2 (0 : Int32).toNatClampNeg (w5.toInt64))).bind fun (P9 : PH) =>
    some ((0 : Int32), P9)) x.1
set_option maxRecDepth 100000 in
set_option maxHeartbeats 4000000 in
theorem Lw_unpicked_ok {G : GT} {l : Launch} (hG : GOK G l) (v1 : Int32) (v2 : Int32) (P : PH) : OkW G l yL_unpicked miL_unpicked 2 12 tIH [.ref (gA G 0), .int v1, .int v2, .ref (gA G 2)] P (Lw_unpicked v1 v2 P) := by
  refine okW_of hG _ [(0, .ref (gA G 0)), (1, .int v1), (2, .int v2), (3, .ref (gA G 2))] rfl rfl rfl (Nat.le_of_ble_eq_true rfl) (by decide) ?_
  unfold Lw_unpicked
  refine s_aload_n (pc := 0) 3 dL_unpicked_0 rfl rfl ?_
  refine s_iconst (pc := 1) (v := 0) dL_unpicked_1 rfl ?_
  refine s_aload_n (pc := 2) 0 dL_unpicked_2 rfl rfl ?_
  refine s_iload_n (pc := 3) 1 dL_unpicked_3 rfl rfl ?_
  refine s_iload_n (pc := 4) 2 dL_unpicked_4 rfl rfl ?_
  refine s_callVTX (k := 0) (n := 0) (pc := 5) (st := [.int ((0 : Int32)), .ref (gA G 2)]) [.int v1, .int v2] dL_unpicked_5 (cV_L_89 hG) (Nat.le_of_ble_eq_true rfl) rfl kd_0 (Bs_unpicked_ok hG v1 v2 P) rfl (Nat.le_of_ble_eq_true rfl) rfl rfl (fun x E hE z hz => ?_) (fun x v hv => ?_)
  · obtain ⟨x, Q⟩ := x
    cases x with
    | inl e =>
      have hE2 : e = E := Sum.inr.inj hE
      replace hz : (if e = "java/lang/IllegalStateException" then some ((1 : Int32), Q) else if e = "java/lang/IllegalArgumentException" then some ((2 : Int32), Q) else none) = some z := hz
      rw [hE2] at hz
      by_cases h0 : E = "java/lang/IllegalStateException"
      · subst h0
        rw [if_pos rfl] at hz
        cases hz
        exact ⟨_, hn_L_unpicked_0 hG, rfl⟩
      rw [if_neg h0] at hz
      by_cases h1 : E = "java/lang/IllegalArgumentException"
      · subst h1
        rw [if_pos rfl] at hz
        cases hz
        exact ⟨_, hn_L_unpicked_1 hG, rfl⟩
      rw [if_neg h1] at hz
      cases hz
    | inr w => cases hE
  · obtain ⟨x, Q⟩ := x
    cases x with
    | inl e => cases hv
    | inr w5 =>
      cases hv
      show Sem G l miL_unpicked 0 0 (rn tIH) 8 [(0, .ref (gA G 0)), (1, .int v1), (2, .int v2), (3, .ref (gA G 2))] [.int w5, .int ((0 : Int32)), .ref (gA G 2)] Q (gdI (0 : Int32) 1 <|
        (some (sL Q 2 (0 : Int32).toNatClampNeg (w5.toInt64))).bind fun (P9 : PH) =>
        some ((0 : Int32), P9))
      refine s_i2l (pc := 8) dL_unpicked_8 ?_
      refine s_last (pc := 9) 1 dL_unpicked_9 kd_2 ln_2 ?_
      refine s_letP (fun P9 => ?_)
      refine s_goto (pc := 10) 21 dL_unpicked_10 rfl ?_
      refine s_iconst (pc := 21) (v := 0) dL_unpicked_21 rfl ?_
      exact s_iret (pc := 22) dL_unpicked_22 rfl rfl
def Lw_places (v1 : Int32) (P : PH) : Option (Int32 × PH) :=
  (Bs_places v1 P).bind fun (x : (String ⊕ Int32) × PH) =>
  Sum.elim (fun E => if E = "java/lang/IllegalArgumentException" then some ((1 : Int32), x.2) else none) (fun (w4 : Int32) =>
    gdI (0 : Int32) 1 <|
    (some (sL x.2 2 (0 : Int32).toNatClampNeg (w4.toInt64))).bind fun (P8 : PH) =>
    some ((0 : Int32), P8)) x.1
set_option maxRecDepth 100000 in
set_option maxHeartbeats 4000000 in
theorem Lw_places_ok {G : GT} {l : Launch} (hG : GOK G l) (v1 : Int32) (P : PH) : OkW G l yL_places miL_places 1 6 tIH [.ref (gA G 0), .int v1, .ref (gA G 2)] P (Lw_places v1 P) := by
  refine okW_of hG _ [(0, .ref (gA G 0)), (1, .int v1), (2, .ref (gA G 2))] rfl rfl rfl (Nat.le_of_ble_eq_true rfl) (by decide) ?_
  unfold Lw_places
  refine s_aload_n (pc := 0) 2 dL_places_0 rfl rfl ?_
  refine s_iconst (pc := 1) (v := 0) dL_places_1 rfl ?_
  refine s_aload_n (pc := 2) 0 dL_places_2 rfl rfl ?_
  refine s_iload_n (pc := 3) 1 dL_places_3 rfl rfl ?_
  refine s_callVTX (k := 0) (n := 0) (pc := 4) (st := [.int ((0 : Int32)), .ref (gA G 2)]) [.int v1] dL_places_4 (cV_L_93 hG) (Nat.le_of_ble_eq_true rfl) rfl kd_0 (Bs_places_ok hG v1 P) rfl (Nat.le_of_ble_eq_true rfl) rfl rfl (fun x E hE z hz => ?_) (fun x v hv => ?_)
  · obtain ⟨x, Q⟩ := x
    cases x with
    | inl e =>
      have hE2 : e = E := Sum.inr.inj hE
      replace hz : (if e = "java/lang/IllegalArgumentException" then some ((1 : Int32), Q) else none) = some z := hz
      rw [hE2] at hz
      by_cases h0 : E = "java/lang/IllegalArgumentException"
      · subst h0
        rw [if_pos rfl] at hz
        cases hz
        exact ⟨_, hn_L_places_0 hG, rfl⟩
      rw [if_neg h0] at hz
      cases hz
    | inr w => cases hE
  · obtain ⟨x, Q⟩ := x
    cases x with
    | inl e => cases hv
    | inr w4 =>
      cases hv
      show Sem G l miL_places 0 0 (rn tIH) 7 [(0, .ref (gA G 0)), (1, .int v1), (2, .ref (gA G 2))] [.int w4, .int ((0 : Int32)), .ref (gA G 2)] Q (gdI (0 : Int32) 1 <|
        (some (sL Q 2 (0 : Int32).toNatClampNeg (w4.toInt64))).bind fun (P8 : PH) =>
        some ((0 : Int32), P8))
      refine s_i2l (pc := 7) dL_places_7 ?_
      refine s_last (pc := 8) 1 dL_places_8 kd_2 ln_2 ?_
      refine s_letP (fun P8 => ?_)
      refine s_goto (pc := 9) 15 dL_places_9 rfl ?_
      refine s_iconst (pc := 15) (v := 0) dL_places_15 rfl ?_
      exact s_iret (pc := 16) dL_places_16 rfl rfl
def Lw_threads (v1 : Int32) (v2 : Int32) (P : PH) : Option (Int32 × PH) :=
  (Bs_threads v1 v2 P).bind fun (x : (String ⊕ Int32) × PH) =>
  Sum.elim (fun E => if E = "java/lang/IllegalArgumentException" then some ((1 : Int32), x.2) else none) (fun (w5 : Int32) =>
    gdI (0 : Int32) 1 <|
    (some (sL x.2 2 (0 : Int32).toNatClampNeg (w5.toInt64))).bind fun (P9 : PH) =>
    some ((0 : Int32), P9)) x.1
set_option maxRecDepth 100000 in
set_option maxHeartbeats 4000000 in
theorem Lw_threads_ok {G : GT} {l : Launch} (hG : GOK G l) (v1 : Int32) (v2 : Int32) (P : PH) : OkW G l yL_threads miL_threads 2 12 tIH [.ref (gA G 0), .int v1, .int v2, .ref (gA G 2)] P (Lw_threads v1 v2 P) := by
  refine okW_of hG _ [(0, .ref (gA G 0)), (1, .int v1), (2, .int v2), (3, .ref (gA G 2))] rfl rfl rfl (Nat.le_of_ble_eq_true rfl) (by decide) ?_
  unfold Lw_threads
  refine s_aload_n (pc := 0) 3 dL_threads_0 rfl rfl ?_
  refine s_iconst (pc := 1) (v := 0) dL_threads_1 rfl ?_
  refine s_aload_n (pc := 2) 0 dL_threads_2 rfl rfl ?_
  refine s_iload_n (pc := 3) 1 dL_threads_3 rfl rfl ?_
  refine s_iload_n (pc := 4) 2 dL_threads_4 rfl rfl ?_
  refine s_callVTX (k := 0) (n := 0) (pc := 5) (st := [.int ((0 : Int32)), .ref (gA G 2)]) [.int v1, .int v2] dL_threads_5 (cV_L_96 hG) (Nat.le_of_ble_eq_true rfl) rfl kd_0 (Bs_threads_ok hG v1 v2 P) rfl (Nat.le_of_ble_eq_true rfl) rfl rfl (fun x E hE z hz => ?_) (fun x v hv => ?_)
  · obtain ⟨x, Q⟩ := x
    cases x with
    | inl e =>
      have hE2 : e = E := Sum.inr.inj hE
      replace hz : (if e = "java/lang/IllegalArgumentException" then some ((1 : Int32), Q) else none) = some z := hz
      rw [hE2] at hz
      by_cases h0 : E = "java/lang/IllegalArgumentException"
      · subst h0
        rw [if_pos rfl] at hz
        cases hz
        exact ⟨_, hn_L_threads_0 hG, rfl⟩
      rw [if_neg h0] at hz
      cases hz
    | inr w => cases hE
  · obtain ⟨x, Q⟩ := x
    cases x with
    | inl e => cases hv
    | inr w5 =>
      cases hv
      show Sem G l miL_threads 0 0 (rn tIH) 8 [(0, .ref (gA G 0)), (1, .int v1), (2, .int v2), (3, .ref (gA G 2))] [.int w5, .int ((0 : Int32)), .ref (gA G 2)] Q (gdI (0 : Int32) 1 <|
        (some (sL Q 2 (0 : Int32).toNatClampNeg (w5.toInt64))).bind fun (P9 : PH) =>
        some ((0 : Int32), P9))
      refine s_i2l (pc := 8) dL_threads_8 ?_
      refine s_last (pc := 9) 1 dL_threads_9 kd_2 ln_2 ?_
      refine s_letP (fun P9 => ?_)
      refine s_goto (pc := 10) 17 dL_threads_10 rfl ?_
      refine s_iconst (pc := 17) (v := 0) dL_threads_17 rfl ?_
      exact s_iret (pc := 18) dL_threads_18 rfl rfl
def Lw_sameAt (v1 : Int32) (P : PH) : Option (Int32 × PH) :=
  (Bs_sameAt v1 P).bind fun (x : (String ⊕ Int32) × PH) =>
  Sum.elim (fun E => if E = "java/lang/IllegalStateException" then some ((1 : Int32), x.2) else none) (fun (w4 : Int32) =>
    gdI (0 : Int32) 1 <|
    (some (sL x.2 2 (0 : Int32).toNatClampNeg (w4.toInt64))).bind fun (P8 : PH) =>
    some ((0 : Int32), P8)) x.1
set_option maxRecDepth 100000 in
set_option maxHeartbeats 4000000 in
theorem Lw_sameAt_ok {G : GT} {l : Launch} (hG : GOK G l) (v1 : Int32) (P : PH) : OkW G l yL_sameAt miL_sameAt 1 6 tIH [.ref (gA G 0), .int v1, .ref (gA G 2)] P (Lw_sameAt v1 P) := by
  refine okW_of hG _ [(0, .ref (gA G 0)), (1, .int v1), (2, .ref (gA G 2))] rfl rfl rfl (Nat.le_of_ble_eq_true rfl) (by decide) ?_
  unfold Lw_sameAt
  refine s_aload_n (pc := 0) 2 dL_sameAt_0 rfl rfl ?_
  refine s_iconst (pc := 1) (v := 0) dL_sameAt_1 rfl ?_
  refine s_aload_n (pc := 2) 0 dL_sameAt_2 rfl rfl ?_
  refine s_iload_n (pc := 3) 1 dL_sameAt_3 rfl rfl ?_
  refine s_callVTX (k := 0) (n := 0) (pc := 4) (st := [.int ((0 : Int32)), .ref (gA G 2)]) [.int v1] dL_sameAt_4 (cV_L_99 hG) (Nat.le_of_ble_eq_true rfl) rfl kd_0 (Bs_sameAt_ok hG v1 P) rfl (Nat.le_of_ble_eq_true rfl) rfl rfl (fun x E hE z hz => ?_) (fun x v hv => ?_)
  · obtain ⟨x, Q⟩ := x
    cases x with
    | inl e =>
      have hE2 : e = E := Sum.inr.inj hE
      replace hz : (if e = "java/lang/IllegalStateException" then some ((1 : Int32), Q) else none) = some z := hz
      rw [hE2] at hz
      by_cases h0 : E = "java/lang/IllegalStateException"
      · subst h0
        rw [if_pos rfl] at hz
        cases hz
        exact ⟨_, hn_L_sameAt_0 hG, rfl⟩
      rw [if_neg h0] at hz
      cases hz
    | inr w => cases hE
  · obtain ⟨x, Q⟩ := x
    cases x with
    | inl e => cases hv
    | inr w4 =>
      cases hv
      show Sem G l miL_sameAt 0 0 (rn tIH) 7 [(0, .ref (gA G 0)), (1, .int v1), (2, .ref (gA G 2))] [.int w4, .int ((0 : Int32)), .ref (gA G 2)] Q (gdI (0 : Int32) 1 <|
        (some (sL Q 2 (0 : Int32).toNatClampNeg (w4.toInt64))).bind fun (P8 : PH) =>
        some ((0 : Int32), P8))
      refine s_i2l (pc := 7) dL_sameAt_7 ?_
      refine s_last (pc := 8) 1 dL_sameAt_8 kd_2 ln_2 ?_
      refine s_letP (fun P8 => ?_)
      refine s_goto (pc := 9) 15 dL_sameAt_9 rfl ?_
      refine s_iconst (pc := 15) (v := 0) dL_sameAt_15 rfl ?_
      exact s_iret (pc := 16) dL_sameAt_16 rfl rfl
def Lw_unlike (v1 : Int32) (P : PH) : Option (Int32 × PH) :=
  (Bs_unlike v1 P).bind fun (x : String ⊕ Int32) =>
  Sum.elim (fun E => if E = "java/util/NoSuchElementException" then some ((1 : Int32), P) else none) (fun (w4 : Int32) =>
    gdI (0 : Int32) 1 <|
    (some (sL P 2 (0 : Int32).toNatClampNeg (w4.toInt64))).bind fun (P8 : PH) =>
    some ((0 : Int32), P8)) x
set_option maxRecDepth 100000 in
set_option maxHeartbeats 4000000 in
theorem Lw_unlike_ok {G : GT} {l : Launch} (hG : GOK G l) (v1 : Int32) (P : PH) : OkW G l yL_unlike miL_unlike 1 6 tIH [.ref (gA G 0), .int v1, .ref (gA G 2)] P (Lw_unlike v1 P) := by
  refine okW_of hG _ [(0, .ref (gA G 0)), (1, .int v1), (2, .ref (gA G 2))] rfl rfl rfl (Nat.le_of_ble_eq_true rfl) (by decide) ?_
  unfold Lw_unlike
  refine s_aload_n (pc := 0) 2 dL_unlike_0 rfl rfl ?_
  refine s_iconst (pc := 1) (v := 0) dL_unlike_1 rfl ?_
  refine s_aload_n (pc := 2) 0 dL_unlike_2 rfl rfl ?_
  refine s_iload_n (pc := 3) 1 dL_unlike_3 rfl rfl ?_
  refine s_callVTX (k := 0) (n := 0) (pc := 4) (st := [.int ((0 : Int32)), .ref (gA G 2)]) [.int v1] dL_unlike_4 (cV_L_102 hG) (Nat.le_of_ble_eq_true rfl) rfl kd_0 (Bs_unlike_ok hG v1 P) rfl (Nat.le_of_ble_eq_true rfl) rfl rfl (fun x E hE z hz => ?_) (fun x v hv => ?_)
  · cases x with
    | inl e =>
      have hE2 : e = E := Sum.inr.inj hE
      replace hz : (if e = "java/util/NoSuchElementException" then some ((1 : Int32), P) else none) = some z := hz
      rw [hE2] at hz
      by_cases h0 : E = "java/util/NoSuchElementException"
      · subst h0
        rw [if_pos rfl] at hz
        cases hz
        exact ⟨_, hn_L_unlike_0 hG, rfl⟩
      rw [if_neg h0] at hz
      cases hz
    | inr w => cases hE
  · cases x with
    | inl e => cases hv
    | inr w4 =>
      cases hv
      show Sem G l miL_unlike 0 0 (rn tIH) 7 [(0, .ref (gA G 0)), (1, .int v1), (2, .ref (gA G 2))] [.int w4, .int ((0 : Int32)), .ref (gA G 2)] P (gdI (0 : Int32) 1 <|
        (some (sL P 2 (0 : Int32).toNatClampNeg (w4.toInt64))).bind fun (P8 : PH) =>
        some ((0 : Int32), P8))
      refine s_i2l (pc := 7) dL_unlike_7 ?_
      refine s_last (pc := 8) 1 dL_unlike_8 kd_2 ln_2 ?_
      refine s_letP (fun P8 => ?_)
      refine s_goto (pc := 9) 15 dL_unlike_9 rfl ?_
      refine s_iconst (pc := 15) (v := 0) dL_unlike_15 rfl ?_
      exact s_iret (pc := 16) dL_unlike_16 rfl rfl
def Lw_tray (v1 : Int32) (v2 : Int32) (v3 : Int32) (P : PH) : Option (Int32 × PH) :=
  (Bs_tray v1 v2 v3 P).bind fun (x : (String ⊕ Unit) × PH) =>
  Sum.elim (fun E => if E = "java/util/NoSuchElementException" then some ((1 : Int32), x.2) else if E = "java/lang/IllegalArgumentException" then some ((2 : Int32), x.2) else none) (fun (w4 : Unit) =>
    some ((0 : Int32), x.2)) x.1
set_option maxRecDepth 100000 in
set_option maxHeartbeats 4000000 in
theorem Lw_tray_ok {G : GT} {l : Launch} (hG : GOK G l) (v1 : Int32) (v2 : Int32) (v3 : Int32) (P : PH) : OkW G l yL_tray miL_tray 2 12 tIH [.ref (gA G 0), .int v1, .int v2, .int v3] P (Lw_tray v1 v2 v3 P) := by
  refine okW_of hG _ [(0, .ref (gA G 0)), (1, .int v1), (2, .int v2), (3, .int v3)] rfl rfl rfl (Nat.le_of_ble_eq_true rfl) (by decide) ?_
  unfold Lw_tray
  refine s_aload_n (pc := 0) 0 dL_tray_0 rfl rfl ?_
  refine s_iload_n (pc := 1) 1 dL_tray_1 rfl rfl ?_
  refine s_iload_n (pc := 2) 2 dL_tray_2 rfl rfl ?_
  refine s_iload_n (pc := 3) 3 dL_tray_3 rfl rfl ?_
  refine s_callVTX (k := 0) (n := 0) (pc := 4) (st := []) [.int v1, .int v2, .int v3] dL_tray_4 (cV_L_105 hG) (Nat.le_of_ble_eq_true rfl) rfl kd_0 (Bs_tray_ok hG v1 v2 v3 P) rfl (Nat.le_of_ble_eq_true rfl) rfl rfl (fun x E hE z hz => ?_) (fun x v hv => ?_)
  · obtain ⟨x, Q⟩ := x
    cases x with
    | inl e =>
      have hE2 : e = E := Sum.inr.inj hE
      replace hz : (if e = "java/util/NoSuchElementException" then some ((1 : Int32), Q) else if e = "java/lang/IllegalArgumentException" then some ((2 : Int32), Q) else none) = some z := hz
      rw [hE2] at hz
      by_cases h0 : E = "java/util/NoSuchElementException"
      · subst h0
        rw [if_pos rfl] at hz
        cases hz
        exact ⟨_, hn_L_tray_0 hG, rfl⟩
      rw [if_neg h0] at hz
      by_cases h1 : E = "java/lang/IllegalArgumentException"
      · subst h1
        rw [if_pos rfl] at hz
        cases hz
        exact ⟨_, hn_L_tray_1 hG, rfl⟩
      rw [if_neg h1] at hz
      cases hz
    | inr w => cases hE
  · obtain ⟨x, Q⟩ := x
    cases x with
    | inl e => cases hv
    | inr w4 =>
      cases hv
      show Sem G l miL_tray 0 0 (rn tIH) 7 [(0, .ref (gA G 0)), (1, .int v1), (2, .int v2), (3, .int v3)] [] Q (some ((0 : Int32), Q))
      refine s_goto (pc := 7) 18 dL_tray_7 rfl ?_
      refine s_iconst (pc := 18) (v := 0) dL_tray_18 rfl ?_
      exact s_iret (pc := 19) dL_tray_19 rfl rfl
def Lw_write (v1 : Int32) (v2 : Int32) (v3 : Int64) (P : PH) : Option (Int32 × PH) :=
  (Bs_write v1 v2 v3 P).bind fun (x : (String ⊕ Int64) × PH) =>
  Sum.elim (fun E => if E = "java/util/NoSuchElementException" then some ((1 : Int32), x.2) else if E = "java/lang/IllegalStateException" then some ((2 : Int32), x.2) else if E = "java/lang/IndexOutOfBoundsException" then some ((3 : Int32), x.2) else none) (fun (w7 : Int64) =>
    gdI (0 : Int32) 1 <|
    (some (sL x.2 2 (0 : Int32).toNatClampNeg w7)).bind fun (P10 : PH) =>
    some ((0 : Int32), P10)) x.1
set_option maxRecDepth 100000 in
set_option maxHeartbeats 4000000 in
theorem Lw_write_ok {G : GT} {l : Launch} (hG : GOK G l) (v1 : Int32) (v2 : Int32) (v3 : Int64) (P : PH) : OkW G l yL_write miL_write 3 18 tIH [.ref (gA G 0), .int v1, .int v2, .long v3, .ref (gA G 2)] P (Lw_write v1 v2 v3 P) := by
  refine okW_of hG _ [(0, .ref (gA G 0)), (1, .int v1), (2, .int v2), (3, .long v3), (5, .ref (gA G 2))] rfl rfl rfl (Nat.le_of_ble_eq_true rfl) (by decide) ?_
  unfold Lw_write
  refine s_aload (pc := 0) 4 dL_write_0 rfl ?_
  refine s_iconst (pc := 2) (v := 0) dL_write_2 rfl ?_
  refine s_aload_n (pc := 3) 0 dL_write_3 rfl rfl ?_
  refine s_iload_n (pc := 4) 1 dL_write_4 rfl rfl ?_
  refine s_iload_n (pc := 5) 2 dL_write_5 rfl rfl ?_
  refine s_lload_n (pc := 6) 3 dL_write_6 rfl rfl ?_
  refine s_callVTX (k := 0) (n := 0) (pc := 7) (st := [.int ((0 : Int32)), .ref (gA G 2)]) [.int v1, .int v2, .long v3] dL_write_7 (cV_L_109 hG) (Nat.le_of_ble_eq_true rfl) rfl kd_0 (Bs_write_ok hG v1 v2 v3 P) rfl (Nat.le_of_ble_eq_true rfl) rfl rfl (fun x E hE z hz => ?_) (fun x v hv => ?_)
  · obtain ⟨x, Q⟩ := x
    cases x with
    | inl e =>
      have hE2 : e = E := Sum.inr.inj hE
      replace hz : (if e = "java/util/NoSuchElementException" then some ((1 : Int32), Q) else if e = "java/lang/IllegalStateException" then some ((2 : Int32), Q) else if e = "java/lang/IndexOutOfBoundsException" then some ((3 : Int32), Q) else none) = some z := hz
      rw [hE2] at hz
      by_cases h0 : E = "java/util/NoSuchElementException"
      · subst h0
        rw [if_pos rfl] at hz
        cases hz
        exact ⟨_, hn_L_write_0 hG, rfl⟩
      rw [if_neg h0] at hz
      by_cases h1 : E = "java/lang/IllegalStateException"
      · subst h1
        rw [if_pos rfl] at hz
        cases hz
        exact ⟨_, hn_L_write_1 hG, rfl⟩
      rw [if_neg h1] at hz
      by_cases h2 : E = "java/lang/IndexOutOfBoundsException"
      · subst h2
        rw [if_pos rfl] at hz
        cases hz
        exact ⟨_, hn_L_write_2 hG, rfl⟩
      rw [if_neg h2] at hz
      cases hz
    | inr w => cases hE
  · obtain ⟨x, Q⟩ := x
    cases x with
    | inl e => cases hv
    | inr w7 =>
      cases hv
      show Sem G l miL_write 0 0 (rn tIH) 10 [(0, .ref (gA G 0)), (1, .int v1), (2, .int v2), (3, .long v3), (5, .ref (gA G 2))] [.long w7, .int ((0 : Int32)), .ref (gA G 2)] Q (gdI (0 : Int32) 1 <|
        (some (sL Q 2 (0 : Int32).toNatClampNeg w7)).bind fun (P10 : PH) =>
        some ((0 : Int32), P10))
      refine s_last (pc := 10) 1 dL_write_10 kd_2 ln_2 ?_
      refine s_letP (fun P10 => ?_)
      refine s_goto (pc := 11) 26 dL_write_11 rfl ?_
      refine s_iconst (pc := 26) (v := 0) dL_write_26 rfl ?_
      exact s_iret (pc := 27) dL_write_27 rfl rfl
def Lw_image (v1 : Int32) (P : PH) : Option (Int32 × PH) :=
  (Bs_image v1 P).bind fun (x : (String ⊕ Unit) × PH) =>
  Sum.elim (fun E => if E = "java/util/NoSuchElementException" then some ((1 : Int32), x.2) else none) (fun (w2 : Unit) =>
    some ((0 : Int32), x.2)) x.1
set_option maxRecDepth 100000 in
set_option maxHeartbeats 4000000 in
theorem Lw_image_ok {G : GT} {l : Launch} (hG : GOK G l) (v1 : Int32) (P : PH) : OkW G l yL_image miL_image 1 6 tIH [.ref (gA G 0), .int v1] P (Lw_image v1 P) := by
  refine okW_of hG _ [(0, .ref (gA G 0)), (1, .int v1)] rfl rfl rfl (Nat.le_of_ble_eq_true rfl) (by decide) ?_
  unfold Lw_image
  refine s_aload_n (pc := 0) 0 dL_image_0 rfl rfl ?_
  refine s_iload_n (pc := 1) 1 dL_image_1 rfl rfl ?_
  refine s_callVTX (k := 0) (n := 0) (pc := 2) (st := []) [.int v1] dL_image_2 (cV_L_115 hG) (Nat.le_of_ble_eq_true rfl) rfl kd_0 (Bs_image_ok hG v1 P) rfl (Nat.le_of_ble_eq_true rfl) rfl rfl (fun x E hE z hz => ?_) (fun x v hv => ?_)
  · obtain ⟨x, Q⟩ := x
    cases x with
    | inl e =>
      have hE2 : e = E := Sum.inr.inj hE
      replace hz : (if e = "java/util/NoSuchElementException" then some ((1 : Int32), Q) else none) = some z := hz
      rw [hE2] at hz
      by_cases h0 : E = "java/util/NoSuchElementException"
      · subst h0
        rw [if_pos rfl] at hz
        cases hz
        exact ⟨_, hn_L_image_0 hG, rfl⟩
      rw [if_neg h0] at hz
      cases hz
    | inr w => cases hE
  · obtain ⟨x, Q⟩ := x
    cases x with
    | inl e => cases hv
    | inr w2 =>
      cases hv
      show Sem G l miL_image 0 0 (rn tIH) 5 [(0, .ref (gA G 0)), (1, .int v1)] [] Q (some ((0 : Int32), Q))
      refine s_goto (pc := 5) 11 dL_image_5 rfl ?_
      refine s_iconst (pc := 11) (v := 0) dL_image_11 rfl ?_
      exact s_iret (pc := 12) dL_image_12 rfl rfl
def Lw_restore (v1 : Int32) (P : PH) : Option (Int32 × PH) :=
  (Bs_restore v1 P).bind fun (x : (String ⊕ Unit) × PH) =>
  Sum.elim (fun E => if E = "java/util/NoSuchElementException" then some ((1 : Int32), x.2) else if E = "java/lang/IllegalStateException" then some ((2 : Int32), x.2) else none) (fun (w2 : Unit) =>
    some ((0 : Int32), x.2)) x.1
set_option maxRecDepth 100000 in
set_option maxHeartbeats 4000000 in
theorem Lw_restore_ok {G : GT} {l : Launch} (hG : GOK G l) (v1 : Int32) (P : PH) : OkW G l yL_restore miL_restore 2 12 tIH [.ref (gA G 0), .int v1] P (Lw_restore v1 P) := by
  refine okW_of hG _ [(0, .ref (gA G 0)), (1, .int v1)] rfl rfl rfl (Nat.le_of_ble_eq_true rfl) (by decide) ?_
  unfold Lw_restore
  refine s_aload_n (pc := 0) 0 dL_restore_0 rfl rfl ?_
  refine s_iload_n (pc := 1) 1 dL_restore_1 rfl rfl ?_
  refine s_callVTX (k := 0) (n := 0) (pc := 2) (st := []) [.int v1] dL_restore_2 (cV_L_119 hG) (Nat.le_of_ble_eq_true rfl) rfl kd_0 (Bs_restore_ok hG v1 P) rfl (Nat.le_of_ble_eq_true rfl) rfl rfl (fun x E hE z hz => ?_) (fun x v hv => ?_)
  · obtain ⟨x, Q⟩ := x
    cases x with
    | inl e =>
      have hE2 : e = E := Sum.inr.inj hE
      replace hz : (if e = "java/util/NoSuchElementException" then some ((1 : Int32), Q) else if e = "java/lang/IllegalStateException" then some ((2 : Int32), Q) else none) = some z := hz
      rw [hE2] at hz
      by_cases h0 : E = "java/util/NoSuchElementException"
      · subst h0
        rw [if_pos rfl] at hz
        cases hz
        exact ⟨_, hn_L_restore_0 hG, rfl⟩
      rw [if_neg h0] at hz
      by_cases h1 : E = "java/lang/IllegalStateException"
      · subst h1
        rw [if_pos rfl] at hz
        cases hz
        exact ⟨_, hn_L_restore_1 hG, rfl⟩
      rw [if_neg h1] at hz
      cases hz
    | inr w => cases hE
  · obtain ⟨x, Q⟩ := x
    cases x with
    | inl e => cases hv
    | inr w2 =>
      cases hv
      show Sem G l miL_restore 0 0 (rn tIH) 5 [(0, .ref (gA G 0)), (1, .int v1)] [] Q (some ((0 : Int32), Q))
      refine s_goto (pc := 5) 14 dL_restore_5 rfl ?_
      refine s_iconst (pc := 14) (v := 0) dL_restore_14 rfl ?_
      exact s_iret (pc := 15) dL_restore_15 rfl rfl
