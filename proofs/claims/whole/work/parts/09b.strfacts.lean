theorem slW_in : ∀ w ∈ slW, w ∈ lw_tbl ∧ okWord w = true := by decide +kernel
theorem saW_in : ∀ w ∈ saW, w ∈ lw_tbl ∧ okWord w = true := by decide +kernel
theorem sl_X11_160 {G : GT} {l : Launch} (hG : GOK G l) : SLK G RX11 160 := ⟨gwd hG _ (tm_7 (List.mem_of_getElem? (i := 180) rfl)) rfl, gwd hG _ (tm_3 (List.mem_of_getElem? (i := 163) rfl)) rfl, fun w h => gwd hG w (slW_in w h).1 (slW_in w h).2⟩
theorem sa_X11_166 {G : GT} {l : Launch} (hG : GOK G l) : SAK G RX11 166 := ⟨gwd hG _ (tm_7 (List.mem_of_getElem? (i := 181) rfl)) rfl, fun w h => gwd hG w (saW_in w h).1 (saW_in w h).2⟩
theorem sl_X4_127 {G : GT} {l : Launch} (hG : GOK G l) : SLK G RX4 127 := ⟨gwd hG _ (tm_3 (List.mem_of_getElem? (i := 159) rfl)) rfl, gwd hG _ (tm_3 (List.mem_of_getElem? (i := 163) rfl)) rfl, fun w h => gwd hG w (slW_in w h).1 (slW_in w h).2⟩
theorem sa_X4_132 {G : GT} {l : Launch} (hG : GOK G l) : SAK G RX4 132 := ⟨gwd hG _ (tm_3 (List.mem_of_getElem? (i := 169) rfl)) rfl, fun w h => gwd hG w (saW_in w h).1 (saW_in w h).2⟩
