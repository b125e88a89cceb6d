set_option maxRecDepth 100000 in
theorem wf_RX5_70 : Cond.fieldLink RX5 70 (TX5 14).1 (TX5 14).2.1 (TX5 14).2.2.1 ∈ k_tbl := k_in (List.mem_append_right _ (List.mem_of_getElem? (i := 666) (by decide +kernel))) (by decide +kernel)
theorem flW_RX5_70 : k_flW RX5 70 5 14 .int := ⟨_, _, _, tyX5, rfl, kinX5, tyX5_ok, nmX5, by decide, wf_RX5_70, rfl, by decide +kernel⟩
set_option maxRecDepth 100000 in
theorem wf_RX5_22 : Cond.fieldLink RX5 22 (TX5 5).1 (TX5 5).2.1 (TX5 5).2.2.1 ∈ k_tbl := k_in (List.mem_append_right _ (List.mem_of_getElem? (i := 657) (by decide +kernel))) (by decide +kernel)
theorem fl_RX5_22 : k_fl RX5 22 5 5 := ⟨_, _, _, rfl, kinX5, by decide, wf_RX5_22⟩
set_option maxRecDepth 100000 in
theorem wf_RX5_34 : Cond.fieldLink RX5 34 (TX5 9).1 (TX5 9).2.1 (TX5 9).2.2.1 ∈ k_tbl := k_in (List.mem_append_right _ (List.mem_of_getElem? (i := 661) (by decide +kernel))) (by decide +kernel)
theorem fl_RX5_34 : k_fl RX5 34 5 9 := ⟨_, _, _, rfl, kinX5, by decide, wf_RX5_34⟩
set_option maxRecDepth 100000 in
theorem wm_RX5_118 : Cond.methodLink RX5 118 yX5_copies ∈ k_tbl := k_in (List.mem_append_right _ (List.mem_of_getElem? (i := 807) (by decide +kernel))) (by decide +kernel)
set_option maxRecDepth 100000 in
theorem wc_X5_copies : Cond.code yX5_copies cX5_copies 6 none ∈ k_tbl := k_in (List.mem_append_right _ (List.mem_of_getElem? (i := 809) (by decide +kernel))) (by decide +kernel)
set_option maxRecDepth 100000 in
theorem wi_RX5 : Cond.initialized RX5 ∈ k_tbl := k_in (List.mem_append_right _ (List.mem_of_getElem? (i := 7) (by decide +kernel))) (by decide +kernel)
set_option maxRecDepth 100000 in
theorem wt_X5_copies : Cond.static yX5_copies ∈ k_tbl := k_in (List.mem_append_right _ (List.mem_of_getElem? (i := 808) (by decide +kernel))) (by decide +kernel)
theorem lkS_RX5_118 : k_lkS RX5 118 yX5_copies cX5_copies 6 none 5 := ⟨⟨wm_RX5_118, wi_RX5, wc_X5_copies, by decide +kernel, by decide⟩, wt_X5_copies⟩
theorem fl_RX5_70 : k_fl RX5 70 5 14 := ⟨_, _, _, rfl, kinX5, by decide, wf_RX5_70⟩
set_option maxRecDepth 100000 in
theorem cn_RX5_73 : Cond.constantLong RX5 73 (5) ∈ k_tbl := k_in (List.mem_append_right _ (List.mem_of_getElem? (i := 742) (by decide +kernel))) (by decide +kernel)
set_option maxRecDepth 100000 in
theorem wm_RX5_75 : Cond.methodLink RX5 75 yX5_in ∈ k_tbl := k_in (List.mem_append_right _ (List.mem_of_getElem? (i := 743) (by decide +kernel))) (by decide +kernel)
set_option maxRecDepth 100000 in
theorem wc_X5_in : Cond.code yX5_in cX5_in 6 (some .boolean) ∈ k_tbl := k_in (List.mem_append_right _ (List.mem_of_getElem? (i := 745) (by decide +kernel))) (by decide +kernel)
set_option maxRecDepth 100000 in
theorem wt_X5_in : Cond.static yX5_in ∈ k_tbl := k_in (List.mem_append_right _ (List.mem_of_getElem? (i := 744) (by decide +kernel))) (by decide +kernel)
theorem lkS_RX5_75 : k_lkS RX5 75 yX5_in cX5_in 6 (some .boolean) 3 := ⟨⟨wm_RX5_75, wi_RX5, wc_X5_in, by decide +kernel, by decide⟩, wt_X5_in⟩
set_option maxRecDepth 100000 in
theorem wf_RX5_66 : Cond.fieldLink RX5 66 (TX5 17).1 (TX5 17).2.1 (TX5 17).2.2.1 ∈ k_tbl := k_in (List.mem_append_right _ (List.mem_of_getElem? (i := 669) (by decide +kernel))) (by decide +kernel)
theorem flW_RX5_66 : k_flW RX5 66 5 17 .int := ⟨_, _, _, tyX5, rfl, kinX5, tyX5_ok, nmX5, by decide, wf_RX5_66, rfl, by decide +kernel⟩
set_option maxRecDepth 100000 in
theorem wf_RX5_51 : Cond.fieldLink RX5 51 (TX5 18).1 (TX5 18).2.1 (TX5 18).2.2.1 ∈ k_tbl := k_in (List.mem_append_right _ (List.mem_of_getElem? (i := 670) (by decide +kernel))) (by decide +kernel)
theorem fl_RX5_51 : k_fl RX5 51 5 18 := ⟨_, _, _, rfl, kinX5, by decide, wf_RX5_51⟩
set_option maxRecDepth 100000 in
theorem wm_RX5_81 : Cond.methodLink RX5 81 yX5_isRow ∈ k_tbl := k_in (List.mem_append_right _ (List.mem_of_getElem? (i := 739) (by decide +kernel))) (by decide +kernel)
set_option maxRecDepth 100000 in
theorem wc_X5_isRow : Cond.code yX5_isRow cX5_isRow 1 (some .boolean) ∈ k_tbl := k_in (List.mem_append_right _ (List.mem_of_getElem? (i := 741) (by decide +kernel))) (by decide +kernel)
set_option maxRecDepth 100000 in
theorem wt_X5_isRow : Cond.static yX5_isRow ∈ k_tbl := k_in (List.mem_append_right _ (List.mem_of_getElem? (i := 740) (by decide +kernel))) (by decide +kernel)
theorem lkS_RX5_81 : k_lkS RX5 81 yX5_isRow cX5_isRow 1 (some .boolean) 1 := ⟨⟨wm_RX5_81, wi_RX5, wc_X5_isRow, by decide +kernel, by decide⟩, wt_X5_isRow⟩
set_option maxRecDepth 100000 in
theorem wf_RX5_7 : Cond.fieldLink RX5 7 (TX5 0).1 (TX5 0).2.1 (TX5 0).2.2.1 ∈ k_tbl := k_in (List.mem_append_right _ (List.mem_of_getElem? (i := 652) (by decide +kernel))) (by decide +kernel)
theorem fl_RX5_7 : k_fl RX5 7 5 0 := ⟨_, _, _, rfl, kinX5, by decide, wf_RX5_7⟩
set_option maxRecDepth 100000 in
theorem wm_RX5_85 : Cond.methodLink RX5 85 yX5_found ∈ k_tbl := k_in (List.mem_append_right _ (List.mem_of_getElem? (i := 746) (by decide +kernel))) (by decide +kernel)
set_option maxRecDepth 100000 in
theorem wc_X5_found : Cond.code yX5_found cX5_found 2 (some .int) ∈ k_tbl := k_in (List.mem_append_right _ (List.mem_of_getElem? (i := 749) (by decide +kernel))) (by decide +kernel)
set_option maxRecDepth 100000 in
theorem wn_X5_found : Cond.instanceMethod yX5_found ∈ k_tbl := k_in (List.mem_append_right _ (List.mem_of_getElem? (i := 748) (by decide +kernel))) (by decide +kernel)
set_option maxRecDepth 100000 in
theorem ws_X5_found : Cond.selects RX5 yX5_found yX5_found ∈ k_tbl := k_in (List.mem_append_left _ (List.mem_of_getElem? (i := 22) (by decide +kernel))) (by decide +kernel)
theorem lkV_RX5_85 : k_lkV RX5 85 5 yX5_found cX5_found 2 (some .int) 1 := ⟨⟨wm_RX5_85, wi_RX5, wc_X5_found, by decide +kernel, by decide⟩, wn_X5_found, ws_X5_found, _, _, rfl⟩
set_option maxRecDepth 100000 in
theorem wf_RX5_13 : Cond.fieldLink RX5 13 (TX5 1).1 (TX5 1).2.1 (TX5 1).2.2.1 ∈ k_tbl := k_in (List.mem_append_right _ (List.mem_of_getElem? (i := 653) (by decide +kernel))) (by decide +kernel)
theorem fl_RX5_13 : k_fl RX5 13 5 1 := ⟨_, _, _, rfl, kinX5, by decide, wf_RX5_13⟩
set_option maxRecDepth 100000 in
theorem wm_RX5_89 : Cond.methodLink RX5 89 yX5_tell ∈ k_tbl := k_in (List.mem_append_right _ (List.mem_of_getElem? (i := 754) (by decide +kernel))) (by decide +kernel)
set_option maxRecDepth 100000 in
theorem wc_X5_tell : Cond.code yX5_tell cX5_tell 2 (some .int) ∈ k_tbl := k_in (List.mem_append_right _ (List.mem_of_getElem? (i := 757) (by decide +kernel))) (by decide +kernel)
set_option maxRecDepth 100000 in
theorem wn_X5_tell : Cond.instanceMethod yX5_tell ∈ k_tbl := k_in (List.mem_append_right _ (List.mem_of_getElem? (i := 756) (by decide +kernel))) (by decide +kernel)
set_option maxRecDepth 100000 in
theorem ws_X5_tell : Cond.selects RX5 yX5_tell yX5_tell ∈ k_tbl := k_in (List.mem_append_left _ (List.mem_of_getElem? (i := 23) (by decide +kernel))) (by decide +kernel)
theorem lkV_RX5_89 : k_lkV RX5 89 5 yX5_tell cX5_tell 2 (some .int) 1 := ⟨⟨wm_RX5_89, wi_RX5, wc_X5_tell, by decide +kernel, by decide⟩, wn_X5_tell, ws_X5_tell, _, _, rfl⟩
set_option maxRecDepth 100000 in
theorem wf_RX5_28 : Cond.fieldLink RX5 28 (TX5 7).1 (TX5 7).2.1 (TX5 7).2.2.1 ∈ k_tbl := k_in (List.mem_append_right _ (List.mem_of_getElem? (i := 659) (by decide +kernel))) (by decide +kernel)
theorem fl_RX5_28 : k_fl RX5 28 5 7 := ⟨_, _, _, rfl, kinX5, by decide, wf_RX5_28⟩
set_option maxRecDepth 100000 in
theorem wf_RX5_31 : Cond.fieldLink RX5 31 (TX5 8).1 (TX5 8).2.1 (TX5 8).2.2.1 ∈ k_tbl := k_in (List.mem_append_right _ (List.mem_of_getElem? (i := 660) (by decide +kernel))) (by decide +kernel)
theorem fl_RX5_31 : k_fl RX5 31 5 8 := ⟨_, _, _, rfl, kinX5, by decide, wf_RX5_31⟩
set_option maxRecDepth 100000 in
theorem wm_RX5_139 : Cond.methodLink RX5 139 yX5_has ∈ k_tbl := k_in (List.mem_append_right _ (List.mem_of_getElem? (i := 831) (by decide +kernel))) (by decide +kernel)
set_option maxRecDepth 100000 in
theorem wc_X5_has : Cond.code yX5_has cX5_has 2 (some .boolean) ∈ k_tbl := k_in (List.mem_append_right _ (List.mem_of_getElem? (i := 833) (by decide +kernel))) (by decide +kernel)
set_option maxRecDepth 100000 in
theorem wt_X5_has : Cond.static yX5_has ∈ k_tbl := k_in (List.mem_append_right _ (List.mem_of_getElem? (i := 832) (by decide +kernel))) (by decide +kernel)
theorem lkS_RX5_139 : k_lkS RX5 139 yX5_has cX5_has 2 (some .boolean) 2 := ⟨⟨wm_RX5_139, wi_RX5, wc_X5_has, by decide +kernel, by decide⟩, wt_X5_has⟩
set_option maxRecDepth 100000 in
theorem wf_RX5_115 : Cond.fieldLink RX5 115 (TX5 4).1 (TX5 4).2.1 (TX5 4).2.2.1 ∈ k_tbl := k_in (List.mem_append_right _ (List.mem_of_getElem? (i := 656) (by decide +kernel))) (by decide +kernel)
theorem fl_RX5_115 : k_fl RX5 115 5 4 := ⟨_, _, _, rfl, kinX5, by decide, wf_RX5_115⟩
set_option maxRecDepth 100000 in
theorem wf_RX5_132 : Cond.fieldLink RX5 132 (TX5 23).1 (TX5 23).2.1 (TX5 23).2.2.1 ∈ k_tbl := k_in (List.mem_append_right _ (List.mem_of_getElem? (i := 675) (by decide +kernel))) (by decide +kernel)
theorem fl_RX5_132 : k_fl RX5 132 5 23 := ⟨_, _, _, rfl, kinX5, by decide, wf_RX5_132⟩
theorem flW_RX5_132 : k_flW RX5 132 5 23 .int := ⟨_, _, _, tyX5, rfl, kinX5, tyX5_ok, nmX5, by decide, wf_RX5_132, rfl, by decide +kernel⟩
set_option maxRecDepth 100000 in
theorem wf_RX5_129 : Cond.fieldLink RX5 129 (TX5 24).1 (TX5 24).2.1 (TX5 24).2.2.1 ∈ k_tbl := k_in (List.mem_append_right _ (List.mem_of_getElem? (i := 676) (by decide +kernel))) (by decide +kernel)
theorem fl_RX5_129 : k_fl RX5 129 5 24 := ⟨_, _, _, rfl, kinX5, by decide, wf_RX5_129⟩
theorem flW_RX5_129 : k_flW RX5 129 5 24 .int := ⟨_, _, _, tyX5, rfl, kinX5, tyX5_ok, nmX5, by decide, wf_RX5_129, rfl, by decide +kernel⟩
set_option maxRecDepth 100000 in
theorem wm_RX5_135 : Cond.methodLink RX5 135 yX5_tripsOn ∈ k_tbl := k_in (List.mem_append_right _ (List.mem_of_getElem? (i := 869) (by decide +kernel))) (by decide +kernel)
set_option maxRecDepth 100000 in
theorem wc_X5_tripsOn : Cond.code yX5_tripsOn cX5_tripsOn 4 none ∈ k_tbl := k_in (List.mem_append_right _ (List.mem_of_getElem? (i := 872) (by decide +kernel))) (by decide +kernel)
set_option maxRecDepth 100000 in
theorem wn_X5_tripsOn : Cond.instanceMethod yX5_tripsOn ∈ k_tbl := k_in (List.mem_append_right _ (List.mem_of_getElem? (i := 871) (by decide +kernel))) (by decide +kernel)
set_option maxRecDepth 100000 in
theorem ws_X5_tripsOn : Cond.selects RX5 yX5_tripsOn yX5_tripsOn ∈ k_tbl := k_in (List.mem_append_left _ (List.mem_of_getElem? (i := 35) (by decide +kernel))) (by decide +kernel)
theorem lkV_RX5_135 : k_lkV RX5 135 5 yX5_tripsOn cX5_tripsOn 4 none 2 := ⟨⟨wm_RX5_135, wi_RX5, wc_X5_tripsOn, by decide +kernel, by decide⟩, wn_X5_tripsOn, ws_X5_tripsOn, _, _, rfl⟩
set_option maxRecDepth 100000 in
theorem wm_RX5_142 : Cond.methodLink RX5 142 yX5_whoCalls ∈ k_tbl := k_in (List.mem_append_right _ (List.mem_of_getElem? (i := 854) (by decide +kernel))) (by decide +kernel)
set_option maxRecDepth 100000 in
theorem wc_X5_whoCalls : Cond.code yX5_whoCalls cX5_whoCalls 6 (some .int) ∈ k_tbl := k_in (List.mem_append_right _ (List.mem_of_getElem? (i := 857) (by decide +kernel))) (by decide +kernel)
set_option maxRecDepth 100000 in
theorem wn_X5_whoCalls : Cond.instanceMethod yX5_whoCalls ∈ k_tbl := k_in (List.mem_append_right _ (List.mem_of_getElem? (i := 856) (by decide +kernel))) (by decide +kernel)
set_option maxRecDepth 100000 in
theorem ws_X5_whoCalls : Cond.selects RX5 yX5_whoCalls yX5_whoCalls ∈ k_tbl := k_in (List.mem_append_left _ (List.mem_of_getElem? (i := 32) (by decide +kernel))) (by decide +kernel)
theorem lkV_RX5_142 : k_lkV RX5 142 5 yX5_whoCalls cX5_whoCalls 6 (some .int) 2 := ⟨⟨wm_RX5_142, wi_RX5, wc_X5_whoCalls, by decide +kernel, by decide⟩, wn_X5_whoCalls, ws_X5_whoCalls, _, _, rfl⟩
set_option maxRecDepth 100000 in
theorem wm_RX5_146 : Cond.methodLink RX5 146 yX5_bits ∈ k_tbl := k_in (List.mem_append_right _ (List.mem_of_getElem? (i := 858) (by decide +kernel))) (by decide +kernel)
set_option maxRecDepth 100000 in
theorem wc_X5_bits : Cond.code yX5_bits cX5_bits 3 (some .int) ∈ k_tbl := k_in (List.mem_append_right _ (List.mem_of_getElem? (i := 860) (by decide +kernel))) (by decide +kernel)
set_option maxRecDepth 100000 in
theorem wt_X5_bits : Cond.static yX5_bits ∈ k_tbl := k_in (List.mem_append_right _ (List.mem_of_getElem? (i := 859) (by decide +kernel))) (by decide +kernel)
theorem lkS_RX5_146 : k_lkS RX5 146 yX5_bits cX5_bits 3 (some .int) 1 := ⟨⟨wm_RX5_146, wi_RX5, wc_X5_bits, by decide +kernel, by decide⟩, wt_X5_bits⟩
set_option maxRecDepth 100000 in
theorem wm_RX5_155 : Cond.methodLink RX5 155 yX5_isAtRest ∈ k_tbl := k_in (List.mem_append_right _ (List.mem_of_getElem? (i := 873) (by decide +kernel))) (by decide +kernel)
set_option maxRecDepth 100000 in
theorem wc_X5_isAtRest : Cond.code yX5_isAtRest cX5_isAtRest 4 none ∈ k_tbl := k_in (List.mem_append_right _ (List.mem_of_getElem? (i := 876) (by decide +kernel))) (by decide +kernel)
set_option maxRecDepth 100000 in
theorem wn_X5_isAtRest : Cond.instanceMethod yX5_isAtRest ∈ k_tbl := k_in (List.mem_append_right _ (List.mem_of_getElem? (i := 875) (by decide +kernel))) (by decide +kernel)
set_option maxRecDepth 100000 in
theorem ws_X5_isAtRest : Cond.selects RX5 yX5_isAtRest yX5_isAtRest ∈ k_tbl := k_in (List.mem_append_left _ (List.mem_of_getElem? (i := 36) (by decide +kernel))) (by decide +kernel)
theorem lkV_RX5_155 : k_lkV RX5 155 5 yX5_isAtRest cX5_isAtRest 4 none 2 := ⟨⟨wm_RX5_155, wi_RX5, wc_X5_isAtRest, by decide +kernel, by decide⟩, wn_X5_isAtRest, ws_X5_isAtRest, _, _, rfl⟩
set_option maxRecDepth 100000 in
theorem wm_RX5_152 : Cond.methodLink RX5 152 yX5_hasFault ∈ k_tbl := k_in (List.mem_append_right _ (List.mem_of_getElem? (i := 865) (by decide +kernel))) (by decide +kernel)
set_option maxRecDepth 100000 in
theorem wc_X5_hasFault : Cond.code yX5_hasFault cX5_hasFault 3 none ∈ k_tbl := k_in (List.mem_append_right _ (List.mem_of_getElem? (i := 868) (by decide +kernel))) (by decide +kernel)
set_option maxRecDepth 100000 in
theorem wn_X5_hasFault : Cond.instanceMethod yX5_hasFault ∈ k_tbl := k_in (List.mem_append_right _ (List.mem_of_getElem? (i := 867) (by decide +kernel))) (by decide +kernel)
set_option maxRecDepth 100000 in
theorem ws_X5_hasFault : Cond.selects RX5 yX5_hasFault yX5_hasFault ∈ k_tbl := k_in (List.mem_append_left _ (List.mem_of_getElem? (i := 34) (by decide +kernel))) (by decide +kernel)
theorem lkV_RX5_152 : k_lkV RX5 152 5 yX5_hasFault cX5_hasFault 3 none 2 := ⟨⟨wm_RX5_152, wi_RX5, wc_X5_hasFault, by decide +kernel, by decide⟩, wn_X5_hasFault, ws_X5_hasFault, _, _, rfl⟩
set_option maxRecDepth 100000 in
theorem wm_RX5_149 : Cond.methodLink RX5 149 yX5_isAnswered ∈ k_tbl := k_in (List.mem_append_right _ (List.mem_of_getElem? (i := 861) (by decide +kernel))) (by decide +kernel)
set_option maxRecDepth 100000 in
theorem wc_X5_isAnswered : Cond.code yX5_isAnswered cX5_isAnswered 4 none ∈ k_tbl := k_in (List.mem_append_right _ (List.mem_of_getElem? (i := 864) (by decide +kernel))) (by decide +kernel)
set_option maxRecDepth 100000 in
theorem wn_X5_isAnswered : Cond.instanceMethod yX5_isAnswered ∈ k_tbl := k_in (List.mem_append_right _ (List.mem_of_getElem? (i := 863) (by decide +kernel))) (by decide +kernel)
set_option maxRecDepth 100000 in
theorem ws_X5_isAnswered : Cond.selects RX5 yX5_isAnswered yX5_isAnswered ∈ k_tbl := k_in (List.mem_append_left _ (List.mem_of_getElem? (i := 33) (by decide +kernel))) (by decide +kernel)
theorem lkV_RX5_149 : k_lkV RX5 149 5 yX5_isAnswered cX5_isAnswered 4 none 2 := ⟨⟨wm_RX5_149, wi_RX5, wc_X5_isAnswered, by decide +kernel, by decide⟩, wn_X5_isAnswered, ws_X5_isAnswered, _, _, rfl⟩
set_option maxRecDepth 100000 in
theorem wm_RX5_158 : Cond.methodLink RX5 158 yX5_isUp ∈ k_tbl := k_in (List.mem_append_right _ (List.mem_of_getElem? (i := 846) (by decide +kernel))) (by decide +kernel)
set_option maxRecDepth 100000 in
theorem wc_X5_isUp : Cond.code yX5_isUp cX5_isUp 2 (some .boolean) ∈ k_tbl := k_in (List.mem_append_right _ (List.mem_of_getElem? (i := 849) (by decide +kernel))) (by decide +kernel)
set_option maxRecDepth 100000 in
theorem wn_X5_isUp : Cond.instanceMethod yX5_isUp ∈ k_tbl := k_in (List.mem_append_right _ (List.mem_of_getElem? (i := 848) (by decide +kernel))) (by decide +kernel)
set_option maxRecDepth 100000 in
theorem ws_X5_isUp : Cond.selects RX5 yX5_isUp yX5_isUp ∈ k_tbl := k_in (List.mem_append_left _ (List.mem_of_getElem? (i := 30) (by decide +kernel))) (by decide +kernel)
theorem lkV_RX5_158 : k_lkV RX5 158 5 yX5_isUp cX5_isUp 2 (some .boolean) 1 := ⟨⟨wm_RX5_158, wi_RX5, wc_X5_isUp, by decide +kernel, by decide⟩, wn_X5_isUp, ws_X5_isUp, _, _, rfl⟩
set_option maxRecDepth 100000 in
theorem wm_RX5_162 : Cond.methodLink RX5 162 yX5_goes ∈ k_tbl := k_in (List.mem_append_right _ (List.mem_of_getElem? (i := 850) (by decide +kernel))) (by decide +kernel)
set_option maxRecDepth 100000 in
theorem wc_X5_goes : Cond.code yX5_goes cX5_goes 7 (some .int) ∈ k_tbl := k_in (List.mem_append_right _ (List.mem_of_getElem? (i := 853) (by decide +kernel))) (by decide +kernel)
set_option maxRecDepth 100000 in
theorem wn_X5_goes : Cond.instanceMethod yX5_goes ∈ k_tbl := k_in (List.mem_append_right _ (List.mem_of_getElem? (i := 852) (by decide +kernel))) (by decide +kernel)
set_option maxRecDepth 100000 in
theorem ws_X5_goes : Cond.selects RX5 yX5_goes yX5_goes ∈ k_tbl := k_in (List.mem_append_left _ (List.mem_of_getElem? (i := 31) (by decide +kernel))) (by decide +kernel)
theorem lkV_RX5_162 : k_lkV RX5 162 5 yX5_goes cX5_goes 7 (some .int) 3 := ⟨⟨wm_RX5_162, wi_RX5, wc_X5_goes, by decide +kernel, by decide⟩, wn_X5_goes, ws_X5_goes, _, _, rfl⟩
set_option maxRecDepth 100000 in
theorem wm_RX5_174 : Cond.methodLink RX5 174 yX5_asKinds ∈ k_tbl := k_in (List.mem_append_right _ (List.mem_of_getElem? (i := 842) (by decide +kernel))) (by decide +kernel)
set_option maxRecDepth 100000 in
theorem wc_X5_asKinds : Cond.code yX5_asKinds cX5_asKinds 1 none ∈ k_tbl := k_in (List.mem_append_right _ (List.mem_of_getElem? (i := 845) (by decide +kernel))) (by decide +kernel)
set_option maxRecDepth 100000 in
theorem wn_X5_asKinds : Cond.instanceMethod yX5_asKinds ∈ k_tbl := k_in (List.mem_append_right _ (List.mem_of_getElem? (i := 844) (by decide +kernel))) (by decide +kernel)
set_option maxRecDepth 100000 in
theorem ws_X5_asKinds : Cond.selects RX5 yX5_asKinds yX5_asKinds ∈ k_tbl := k_in (List.mem_append_left _ (List.mem_of_getElem? (i := 29) (by decide +kernel))) (by decide +kernel)
theorem lkV_RX5_174 : k_lkV RX5 174 5 yX5_asKinds cX5_asKinds 1 none 0 := ⟨⟨wm_RX5_174, wi_RX5, wc_X5_asKinds, by decide +kernel, by decide⟩, wn_X5_asKinds, ws_X5_asKinds, _, _, rfl⟩
set_option maxRecDepth 100000 in
theorem wm_RX5_189 : Cond.methodLink RX5 189 yX5_answer ∈ k_tbl := k_in (List.mem_append_right _ (List.mem_of_getElem? (i := 918) (by decide +kernel))) (by decide +kernel)
set_option maxRecDepth 100000 in
theorem wc_X5_answer : Cond.code yX5_answer cX5_answer 3 (some .int) ∈ k_tbl := k_in (List.mem_append_right _ (List.mem_of_getElem? (i := 921) (by decide +kernel))) (by decide +kernel)
set_option maxRecDepth 100000 in
theorem wn_X5_answer : Cond.instanceMethod yX5_answer ∈ k_tbl := k_in (List.mem_append_right _ (List.mem_of_getElem? (i := 920) (by decide +kernel))) (by decide +kernel)
set_option maxRecDepth 100000 in
theorem ws_X5_answer : Cond.selects RX5 yX5_answer yX5_answer ∈ k_tbl := k_in (List.mem_append_left _ (List.mem_of_getElem? (i := 37) (by decide +kernel))) (by decide +kernel)
theorem lkV_RX5_189 : k_lkV RX5 189 5 yX5_answer cX5_answer 3 (some .int) 2 := ⟨⟨wm_RX5_189, wi_RX5, wc_X5_answer, by decide +kernel, by decide⟩, wn_X5_answer, ws_X5_answer, _, _, rfl⟩
set_option maxRecDepth 100000 in
theorem wm_RX5_195 : Cond.methodLink RX5 195 yX5_laysAside ∈ k_tbl := k_in (List.mem_append_right _ (List.mem_of_getElem? (i := 927) (by decide +kernel))) (by decide +kernel)
set_option maxRecDepth 100000 in
theorem wc_X5_laysAside : Cond.code yX5_laysAside cX5_laysAside 1 none ∈ k_tbl := k_in (List.mem_append_right _ (List.mem_of_getElem? (i := 930) (by decide +kernel))) (by decide +kernel)
set_option maxRecDepth 100000 in
theorem wn_X5_laysAside : Cond.instanceMethod yX5_laysAside ∈ k_tbl := k_in (List.mem_append_right _ (List.mem_of_getElem? (i := 929) (by decide +kernel))) (by decide +kernel)
set_option maxRecDepth 100000 in
theorem ws_X5_laysAside : Cond.selects RX5 yX5_laysAside yX5_laysAside ∈ k_tbl := k_in (List.mem_append_left _ (List.mem_of_getElem? (i := 38) (by decide +kernel))) (by decide +kernel)
theorem lkV_RX5_195 : k_lkV RX5 195 5 yX5_laysAside cX5_laysAside 1 none 0 := ⟨⟨wm_RX5_195, wi_RX5, wc_X5_laysAside, by decide +kernel, by decide⟩, wn_X5_laysAside, ws_X5_laysAside, _, _, rfl⟩
set_option maxRecDepth 100000 in
theorem wm_RX5_198 : Cond.methodLink RX5 198 yX5_goesOn ∈ k_tbl := k_in (List.mem_append_right _ (List.mem_of_getElem? (i := 931) (by decide +kernel))) (by decide +kernel)
set_option maxRecDepth 100000 in
theorem wc_X5_goesOn : Cond.code yX5_goesOn cX5_goesOn 5 (some .int) ∈ k_tbl := k_in (List.mem_append_right _ (List.mem_of_getElem? (i := 934) (by decide +kernel))) (by decide +kernel)
set_option maxRecDepth 100000 in
theorem wn_X5_goesOn : Cond.instanceMethod yX5_goesOn ∈ k_tbl := k_in (List.mem_append_right _ (List.mem_of_getElem? (i := 933) (by decide +kernel))) (by decide +kernel)
set_option maxRecDepth 100000 in
theorem ws_X5_goesOn : Cond.selects RX5 yX5_goesOn yX5_goesOn ∈ k_tbl := k_in (List.mem_append_left _ (List.mem_of_getElem? (i := 39) (by decide +kernel))) (by decide +kernel)
theorem lkV_RX5_198 : k_lkV RX5 198 5 yX5_goesOn cX5_goesOn 5 (some .int) 2 := ⟨⟨wm_RX5_198, wi_RX5, wc_X5_goesOn, by decide +kernel, by decide⟩, wn_X5_goesOn, ws_X5_goesOn, _, _, rfl⟩
set_option maxRecDepth 100000 in
theorem cn_RX5_201 : Cond.constantLong RX5 201 (40) ∈ k_tbl := k_in (List.mem_append_right _ (List.mem_of_getElem? (i := 947) (by decide +kernel))) (by decide +kernel)
set_option maxRecDepth 100000 in
theorem wm_RX5_203 : Cond.methodLink RX5 203 yX5_bestOf ∈ k_tbl := k_in (List.mem_append_right _ (List.mem_of_getElem? (i := 948) (by decide +kernel))) (by decide +kernel)
set_option maxRecDepth 100000 in
theorem wc_X5_bestOf : Cond.code yX5_bestOf cX5_bestOf 7 (some .int) ∈ k_tbl := k_in (List.mem_append_right _ (List.mem_of_getElem? (i := 951) (by decide +kernel))) (by decide +kernel)
set_option maxRecDepth 100000 in
theorem wn_X5_bestOf : Cond.instanceMethod yX5_bestOf ∈ k_tbl := k_in (List.mem_append_right _ (List.mem_of_getElem? (i := 950) (by decide +kernel))) (by decide +kernel)
set_option maxRecDepth 100000 in
theorem ws_X5_bestOf : Cond.selects RX5 yX5_bestOf yX5_bestOf ∈ k_tbl := k_in (List.mem_append_left _ (List.mem_of_getElem? (i := 40) (by decide +kernel))) (by decide +kernel)
theorem lkV_RX5_203 : k_lkV RX5 203 5 yX5_bestOf cX5_bestOf 7 (some .int) 2 := ⟨⟨wm_RX5_203, wi_RX5, wc_X5_bestOf, by decide +kernel, by decide⟩, wn_X5_bestOf, ws_X5_bestOf, _, _, rfl⟩
set_option maxRecDepth 100000 in
theorem wm_RX5_166 : Cond.methodLink RX5 166 yX5_isCaller ∈ k_tbl := k_in (List.mem_append_right _ (List.mem_of_getElem? (i := 818) (by decide +kernel))) (by decide +kernel)
set_option maxRecDepth 100000 in
theorem wc_X5_isCaller : Cond.code yX5_isCaller cX5_isCaller 2 (some .boolean) ∈ k_tbl := k_in (List.mem_append_right _ (List.mem_of_getElem? (i := 821) (by decide +kernel))) (by decide +kernel)
set_option maxRecDepth 100000 in
theorem wn_X5_isCaller : Cond.instanceMethod yX5_isCaller ∈ k_tbl := k_in (List.mem_append_right _ (List.mem_of_getElem? (i := 820) (by decide +kernel))) (by decide +kernel)
set_option maxRecDepth 100000 in
theorem ws_X5_isCaller : Cond.selects RX5 yX5_isCaller yX5_isCaller ∈ k_tbl := k_in (List.mem_append_left _ (List.mem_of_getElem? (i := 27) (by decide +kernel))) (by decide +kernel)
theorem lkV_RX5_166 : k_lkV RX5 166 5 yX5_isCaller cX5_isCaller 2 (some .boolean) 1 := ⟨⟨wm_RX5_166, wi_RX5, wc_X5_isCaller, by decide +kernel, by decide⟩, wn_X5_isCaller, ws_X5_isCaller, _, _, rfl⟩
set_option maxRecDepth 100000 in
theorem wf_RX5_25 : Cond.fieldLink RX5 25 (TX5 6).1 (TX5 6).2.1 (TX5 6).2.2.1 ∈ k_tbl := k_in (List.mem_append_right _ (List.mem_of_getElem? (i := 658) (by decide +kernel))) (by decide +kernel)
theorem fl_RX5_25 : k_fl RX5 25 5 6 := ⟨_, _, _, rfl, kinX5, by decide, wf_RX5_25⟩
set_option maxRecDepth 100000 in
theorem wf_RX5_222 : Cond.fieldLink RX5 222 (TX5 15).1 (TX5 15).2.1 (TX5 15).2.2.1 ∈ k_tbl := k_in (List.mem_append_right _ (List.mem_of_getElem? (i := 667) (by decide +kernel))) (by decide +kernel)
theorem flW_RX5_222 : k_flW RX5 222 5 15 .long := ⟨_, _, _, tyX5, rfl, kinX5, tyX5_ok, nmX5, by decide, wf_RX5_222, rfl, by decide +kernel⟩
set_option maxRecDepth 100000 in
theorem wf_RX5_47 : Cond.fieldLink RX5 47 (TX5 16).1 (TX5 16).2.1 (TX5 16).2.2.1 ∈ k_tbl := k_in (List.mem_append_right _ (List.mem_of_getElem? (i := 668) (by decide +kernel))) (by decide +kernel)
theorem flW_RX5_47 : k_flW RX5 47 5 16 .long := ⟨_, _, _, tyX5, rfl, kinX5, tyX5_ok, nmX5, by decide, wf_RX5_47, rfl, by decide +kernel⟩
set_option maxRecDepth 100000 in
theorem cn_RX5_225 : Cond.constantLong RX5 225 (12) ∈ k_tbl := k_in (List.mem_append_right _ (List.mem_of_getElem? (i := 1006) (by decide +kernel))) (by decide +kernel)
set_option maxRecDepth 100000 in
theorem cn_RX5_236 : Cond.constantLong RX5 236 (2985984) ∈ k_tbl := k_in (List.mem_append_right _ (List.mem_of_getElem? (i := 1015) (by decide +kernel))) (by decide +kernel)
set_option maxRecDepth 100000 in
theorem wm_RX5_238 : Cond.methodLink RX5 238 yX5_tellsPart ∈ k_tbl := k_in (List.mem_append_right _ (List.mem_of_getElem? (i := 1016) (by decide +kernel))) (by decide +kernel)
set_option maxRecDepth 100000 in
theorem wc_X5_tellsPart : Cond.code yX5_tellsPart cX5_tellsPart 11 none ∈ k_tbl := k_in (List.mem_append_right _ (List.mem_of_getElem? (i := 1019) (by decide +kernel))) (by decide +kernel)
set_option maxRecDepth 100000 in
theorem wn_X5_tellsPart : Cond.instanceMethod yX5_tellsPart ∈ k_tbl := k_in (List.mem_append_right _ (List.mem_of_getElem? (i := 1018) (by decide +kernel))) (by decide +kernel)
set_option maxRecDepth 100000 in
theorem ws_X5_tellsPart : Cond.selects RX5 yX5_tellsPart yX5_tellsPart ∈ k_tbl := k_in (List.mem_append_left _ (List.mem_of_getElem? (i := 47) (by decide +kernel))) (by decide +kernel)
theorem lkV_RX5_238 : k_lkV RX5 238 5 yX5_tellsPart cX5_tellsPart 11 none 2 := ⟨⟨wm_RX5_238, wi_RX5, wc_X5_tellsPart, by decide +kernel, by decide⟩, wn_X5_tellsPart, ws_X5_tellsPart, _, _, rfl⟩
set_option maxRecDepth 100000 in
theorem wm_RX5_229 : Cond.methodLink RX5 229 yX5_sixBy ∈ k_tbl := k_in (List.mem_append_right _ (List.mem_of_getElem? (i := 1008) (by decide +kernel))) (by decide +kernel)
set_option maxRecDepth 100000 in
theorem wc_X5_sixBy : Cond.code yX5_sixBy cX5_sixBy 4 (some .int) ∈ k_tbl := k_in (List.mem_append_right _ (List.mem_of_getElem? (i := 1011) (by decide +kernel))) (by decide +kernel)
set_option maxRecDepth 100000 in
theorem wn_X5_sixBy : Cond.instanceMethod yX5_sixBy ∈ k_tbl := k_in (List.mem_append_right _ (List.mem_of_getElem? (i := 1010) (by decide +kernel))) (by decide +kernel)
set_option maxRecDepth 100000 in
theorem ws_X5_sixBy : Cond.selects RX5 yX5_sixBy yX5_sixBy ∈ k_tbl := k_in (List.mem_append_left _ (List.mem_of_getElem? (i := 46) (by decide +kernel))) (by decide +kernel)
theorem lkV_RX5_229 : k_lkV RX5 229 5 yX5_sixBy cX5_sixBy 4 (some .int) 1 := ⟨⟨wm_RX5_229, wi_RX5, wc_X5_sixBy, by decide +kernel, by decide⟩, wn_X5_sixBy, ws_X5_sixBy, _, _, rfl⟩
set_option maxRecDepth 100000 in
theorem wm_RX5_232 : Cond.methodLink RX5 232 yX5_weigh ∈ k_tbl := k_in (List.mem_append_right _ (List.mem_of_getElem? (i := 1012) (by decide +kernel))) (by decide +kernel)
set_option maxRecDepth 100000 in
theorem wc_X5_weigh : Cond.code yX5_weigh cX5_weigh 5 (some .long) ∈ k_tbl := k_in (List.mem_append_right _ (List.mem_of_getElem? (i := 1014) (by decide +kernel))) (by decide +kernel)
set_option maxRecDepth 100000 in
theorem wt_X5_weigh : Cond.static yX5_weigh ∈ k_tbl := k_in (List.mem_append_right _ (List.mem_of_getElem? (i := 1013) (by decide +kernel))) (by decide +kernel)
theorem lkS_RX5_232 : k_lkS RX5 232 yX5_weigh cX5_weigh 5 (some .long) 2 := ⟨⟨wm_RX5_232, wi_RX5, wc_X5_weigh, by decide +kernel, by decide⟩, wt_X5_weigh⟩
set_option maxRecDepth 100000 in
theorem cn_RX5_227 : Cond.constantLong RX5 227 (42) ∈ k_tbl := k_in (List.mem_append_right _ (List.mem_of_getElem? (i := 1007) (by decide +kernel))) (by decide +kernel)
set_option maxRecDepth 100000 in
theorem wf_RX5_126 : Cond.fieldLink RX5 126 (TX5 11).1 (TX5 11).2.1 (TX5 11).2.2.1 ∈ k_tbl := k_in (List.mem_append_right _ (List.mem_of_getElem? (i := 663) (by decide +kernel))) (by decide +kernel)
theorem fl_RX5_126 : k_fl RX5 126 5 11 := ⟨_, _, _, rfl, kinX5, by decide, wf_RX5_126⟩
set_option maxRecDepth 100000 in
theorem wm_RX5_254 : Cond.methodLink RX5 254 yX5_opens ∈ k_tbl := k_in (List.mem_append_right _ (List.mem_of_getElem? (i := 1048) (by decide +kernel))) (by decide +kernel)
set_option maxRecDepth 100000 in
theorem wc_X5_opens : Cond.code yX5_opens cX5_opens 3 (some .int) ∈ k_tbl := k_in (List.mem_append_right _ (List.mem_of_getElem? (i := 1051) (by decide +kernel))) (by decide +kernel)
set_option maxRecDepth 100000 in
theorem wn_X5_opens : Cond.instanceMethod yX5_opens ∈ k_tbl := k_in (List.mem_append_right _ (List.mem_of_getElem? (i := 1050) (by decide +kernel))) (by decide +kernel)
set_option maxRecDepth 100000 in
theorem ws_X5_opens : Cond.selects RX5 yX5_opens yX5_opens ∈ k_tbl := k_in (List.mem_append_left _ (List.mem_of_getElem? (i := 48) (by decide +kernel))) (by decide +kernel)
theorem lkV_RX5_254 : k_lkV RX5 254 5 yX5_opens cX5_opens 3 (some .int) 0 := ⟨⟨wm_RX5_254, wi_RX5, wc_X5_opens, by decide +kernel, by decide⟩, wn_X5_opens, ws_X5_opens, _, _, rfl⟩
set_option maxRecDepth 100000 in
theorem wm_RX5_258 : Cond.methodLink RX5 258 yX5_there ∈ k_tbl := k_in (List.mem_append_right _ (List.mem_of_getElem? (i := 1052) (by decide +kernel))) (by decide +kernel)
set_option maxRecDepth 100000 in
theorem wc_X5_there : Cond.code yX5_there cX5_there 4 (some .int) ∈ k_tbl := k_in (List.mem_append_right _ (List.mem_of_getElem? (i := 1054) (by decide +kernel))) (by decide +kernel)
set_option maxRecDepth 100000 in
theorem wt_X5_there : Cond.static yX5_there ∈ k_tbl := k_in (List.mem_append_right _ (List.mem_of_getElem? (i := 1053) (by decide +kernel))) (by decide +kernel)
theorem lkS_RX5_258 : k_lkS RX5 258 yX5_there cX5_there 4 (some .int) 2 := ⟨⟨wm_RX5_258, wi_RX5, wc_X5_there, by decide +kernel, by decide⟩, wt_X5_there⟩
set_option maxRecDepth 100000 in
theorem wf_RX5_16 : Cond.fieldLink RX5 16 (TX5 2).1 (TX5 2).2.1 (TX5 2).2.2.1 ∈ k_tbl := k_in (List.mem_append_right _ (List.mem_of_getElem? (i := 654) (by decide +kernel))) (by decide +kernel)
theorem fl_RX5_16 : k_fl RX5 16 5 2 := ⟨_, _, _, rfl, kinX5, by decide, wf_RX5_16⟩
set_option maxRecDepth 100000 in
theorem wf_RX5_43 : Cond.fieldLink RX5 43 (TX5 13).1 (TX5 13).2.1 (TX5 13).2.2.1 ∈ k_tbl := k_in (List.mem_append_right _ (List.mem_of_getElem? (i := 665) (by decide +kernel))) (by decide +kernel)
theorem fl_RX5_43 : k_fl RX5 43 5 13 := ⟨_, _, _, rfl, kinX5, by decide, wf_RX5_43⟩
set_option maxRecDepth 100000 in
theorem wm_RX5_261 : Cond.methodLink RX5 261 yX5_of ∈ k_tbl := k_in (List.mem_append_right _ (List.mem_of_getElem? (i := 1055) (by decide +kernel))) (by decide +kernel)
set_option maxRecDepth 100000 in
theorem wc_X5_of : Cond.code yX5_of cX5_of 5 (some .int) ∈ k_tbl := k_in (List.mem_append_right _ (List.mem_of_getElem? (i := 1058) (by decide +kernel))) (by decide +kernel)
set_option maxRecDepth 100000 in
theorem wn_X5_of : Cond.instanceMethod yX5_of ∈ k_tbl := k_in (List.mem_append_right _ (List.mem_of_getElem? (i := 1057) (by decide +kernel))) (by decide +kernel)
set_option maxRecDepth 100000 in
theorem ws_X5_of : Cond.selects RX5 yX5_of yX5_of ∈ k_tbl := k_in (List.mem_append_left _ (List.mem_of_getElem? (i := 49) (by decide +kernel))) (by decide +kernel)
theorem lkV_RX5_261 : k_lkV RX5 261 5 yX5_of cX5_of 5 (some .int) 2 := ⟨⟨wm_RX5_261, wi_RX5, wc_X5_of, by decide +kernel, by decide⟩, wn_X5_of, ws_X5_of, _, _, rfl⟩
set_option maxRecDepth 100000 in
theorem cn_RX5_264 : Cond.constantLong RX5 264 (17) ∈ k_tbl := k_in (List.mem_append_right _ (List.mem_of_getElem? (i := 1071) (by decide +kernel))) (by decide +kernel)
set_option maxRecDepth 100000 in
theorem cn_RX5_266 : Cond.constantLong RX5 266 (31) ∈ k_tbl := k_in (List.mem_append_right _ (List.mem_of_getElem? (i := 1072) (by decide +kernel))) (by decide +kernel)
set_option maxRecDepth 100000 in
theorem wf_RX5_19 : Cond.fieldLink RX5 19 (TX5 3).1 (TX5 3).2.1 (TX5 3).2.2.1 ∈ k_tbl := k_in (List.mem_append_right _ (List.mem_of_getElem? (i := 655) (by decide +kernel))) (by decide +kernel)
theorem fl_RX5_19 : k_fl RX5 19 5 3 := ⟨_, _, _, rfl, kinX5, by decide, wf_RX5_19⟩
set_option maxRecDepth 100000 in
theorem wf_RX5_40 : Cond.fieldLink RX5 40 (TX5 12).1 (TX5 12).2.1 (TX5 12).2.2.1 ∈ k_tbl := k_in (List.mem_append_right _ (List.mem_of_getElem? (i := 664) (by decide +kernel))) (by decide +kernel)
theorem fl_RX5_40 : k_fl RX5 40 5 12 := ⟨_, _, _, rfl, kinX5, by decide, wf_RX5_40⟩
set_option maxRecDepth 100000 in
theorem wm_RX5_268 : Cond.methodLink RX5 268 yX5_count ∈ k_tbl := k_in (List.mem_append_right _ (List.mem_of_getElem? (i := 1073) (by decide +kernel))) (by decide +kernel)
set_option maxRecDepth 100000 in
theorem wc_X5_count : Cond.code yX5_count cX5_count 2 (some .int) ∈ k_tbl := k_in (List.mem_append_right _ (List.mem_of_getElem? (i := 1047) (by decide +kernel))) (by decide +kernel)
set_option maxRecDepth 100000 in
theorem wn_X5_count : Cond.instanceMethod yX5_count ∈ k_tbl := k_in (List.mem_append_right _ (List.mem_of_getElem? (i := 1045) (by decide +kernel))) (by decide +kernel)
set_option maxRecDepth 100000 in
theorem ws_X5_count : Cond.selects RX5 yX5_count yX5_count ∈ k_tbl := k_in (List.mem_append_right _ (List.mem_of_getElem? (i := 1046) (by decide +kernel))) (by decide +kernel)
theorem lkV_RX5_268 : k_lkV RX5 268 5 yX5_count cX5_count 2 (some .int) 1 := ⟨⟨wm_RX5_268, wi_RX5, wc_X5_count, by decide +kernel, by decide⟩, wn_X5_count, ws_X5_count, _, _, rfl⟩
set_option maxRecDepth 100000 in
theorem cn_RX5_217 : Cond.constantLong RX5 217 (4) ∈ k_tbl := k_in (List.mem_append_right _ (List.mem_of_getElem? (i := 993) (by decide +kernel))) (by decide +kernel)
set_option maxRecDepth 100000 in
theorem wf_RX5_63 : Cond.fieldLink RX5 63 (TX5 26).1 (TX5 26).2.1 (TX5 26).2.2.1 ∈ k_tbl := k_in (List.mem_append_right _ (List.mem_of_getElem? (i := 678) (by decide +kernel))) (by decide +kernel)
theorem fl_RX5_63 : k_fl RX5 63 5 26 := ⟨_, _, _, rfl, kinX5, by decide, wf_RX5_63⟩
set_option maxRecDepth 100000 in
theorem wm_RX5_219 : Cond.methodLink RX5 219 yX5_patternBy ∈ k_tbl := k_in (List.mem_append_right _ (List.mem_of_getElem? (i := 994) (by decide +kernel))) (by decide +kernel)
set_option maxRecDepth 100000 in
theorem wc_X5_patternBy : Cond.code yX5_patternBy cX5_patternBy 7 (some .int) ∈ k_tbl := k_in (List.mem_append_right _ (List.mem_of_getElem? (i := 997) (by decide +kernel))) (by decide +kernel)
set_option maxRecDepth 100000 in
theorem wn_X5_patternBy : Cond.instanceMethod yX5_patternBy ∈ k_tbl := k_in (List.mem_append_right _ (List.mem_of_getElem? (i := 996) (by decide +kernel))) (by decide +kernel)
set_option maxRecDepth 100000 in
theorem ws_X5_patternBy : Cond.selects RX5 yX5_patternBy yX5_patternBy ∈ k_tbl := k_in (List.mem_append_left _ (List.mem_of_getElem? (i := 44) (by decide +kernel))) (by decide +kernel)
theorem lkV_RX5_219 : k_lkV RX5 219 5 yX5_patternBy cX5_patternBy 7 (some .int) 2 := ⟨⟨wm_RX5_219, wi_RX5, wc_X5_patternBy, by decide +kernel, by decide⟩, wn_X5_patternBy, ws_X5_patternBy, _, _, rfl⟩
set_option maxRecDepth 100000 in
theorem cn_RX5_79 : Cond.constantLong RX5 79 (3) ∈ k_tbl := k_in (List.mem_append_right _ (List.mem_of_getElem? (i := 781) (by decide +kernel))) (by decide +kernel)
set_option maxRecDepth 100000 in
theorem cn_RX5_95 : Cond.constantLong RX5 95 (49) ∈ k_tbl := k_in (List.mem_append_right _ (List.mem_of_getElem? (i := 798) (by decide +kernel))) (by decide +kernel)
set_option maxRecDepth 100000 in
theorem cn_RX5_97 : Cond.constantLong RX5 97 (57) ∈ k_tbl := k_in (List.mem_append_right _ (List.mem_of_getElem? (i := 799) (by decide +kernel))) (by decide +kernel)
set_option maxRecDepth 100000 in
theorem wf_RX5_99 : Cond.fieldLink RX5 99 (TX5 19).1 (TX5 19).2.1 (TX5 19).2.2.1 ∈ k_tbl := k_in (List.mem_append_right _ (List.mem_of_getElem? (i := 671) (by decide +kernel))) (by decide +kernel)
theorem flW_RX5_99 : k_flW RX5 99 5 19 .int := ⟨_, _, _, tyX5, rfl, kinX5, tyX5_ok, nmX5, by decide, wf_RX5_99, rfl, by decide +kernel⟩
set_option maxRecDepth 100000 in
theorem wf_RX5_102 : Cond.fieldLink RX5 102 (TX5 20).1 (TX5 20).2.1 (TX5 20).2.2.1 ∈ k_tbl := k_in (List.mem_append_right _ (List.mem_of_getElem? (i := 672) (by decide +kernel))) (by decide +kernel)
theorem flW_RX5_102 : k_flW RX5 102 5 20 .int := ⟨_, _, _, tyX5, rfl, kinX5, tyX5_ok, nmX5, by decide, wf_RX5_102, rfl, by decide +kernel⟩
theorem fl_RX5_102 : k_fl RX5 102 5 20 := ⟨_, _, _, rfl, kinX5, by decide, wf_RX5_102⟩
set_option maxRecDepth 100000 in
theorem wm_RX5_109 : Cond.methodLink RX5 109 yX5_kindOf ∈ k_tbl := k_in (List.mem_append_right _ (List.mem_of_getElem? (i := 800) (by decide +kernel))) (by decide +kernel)
set_option maxRecDepth 100000 in
theorem wc_X5_kindOf : Cond.code yX5_kindOf cX5_kindOf 1 (some .int) ∈ k_tbl := k_in (List.mem_append_right _ (List.mem_of_getElem? (i := 802) (by decide +kernel))) (by decide +kernel)
set_option maxRecDepth 100000 in
theorem wt_X5_kindOf : Cond.static yX5_kindOf ∈ k_tbl := k_in (List.mem_append_right _ (List.mem_of_getElem? (i := 801) (by decide +kernel))) (by decide +kernel)
theorem lkS_RX5_109 : k_lkS RX5 109 yX5_kindOf cX5_kindOf 1 (some .int) 1 := ⟨⟨wm_RX5_109, wi_RX5, wc_X5_kindOf, by decide +kernel, by decide⟩, wt_X5_kindOf⟩
set_option maxRecDepth 100000 in
theorem wf_RX5_54 : Cond.fieldLink RX5 54 (TX5 21).1 (TX5 21).2.1 (TX5 21).2.2.1 ∈ k_tbl := k_in (List.mem_append_right _ (List.mem_of_getElem? (i := 673) (by decide +kernel))) (by decide +kernel)
theorem fl_RX5_54 : k_fl RX5 54 5 21 := ⟨_, _, _, rfl, kinX5, by decide, wf_RX5_54⟩
set_option maxRecDepth 100000 in
theorem wm_RX5_105 : Cond.methodLink RX5 105 yX5_isFigure ∈ k_tbl := k_in (List.mem_append_right _ (List.mem_of_getElem? (i := 794) (by decide +kernel))) (by decide +kernel)
set_option maxRecDepth 100000 in
theorem wc_X5_isFigure : Cond.code yX5_isFigure cX5_isFigure 3 (some .boolean) ∈ k_tbl := k_in (List.mem_append_right _ (List.mem_of_getElem? (i := 797) (by decide +kernel))) (by decide +kernel)
set_option maxRecDepth 100000 in
theorem wn_X5_isFigure : Cond.instanceMethod yX5_isFigure ∈ k_tbl := k_in (List.mem_append_right _ (List.mem_of_getElem? (i := 796) (by decide +kernel))) (by decide +kernel)
set_option maxRecDepth 100000 in
theorem ws_X5_isFigure : Cond.selects RX5 yX5_isFigure yX5_isFigure ∈ k_tbl := k_in (List.mem_append_left _ (List.mem_of_getElem? (i := 25) (by decide +kernel))) (by decide +kernel)
theorem lkV_RX5_105 : k_lkV RX5 105 5 yX5_isFigure cX5_isFigure 3 (some .boolean) 2 := ⟨⟨wm_RX5_105, wi_RX5, wc_X5_isFigure, by decide +kernel, by decide⟩, wn_X5_isFigure, ws_X5_isFigure, _, _, rfl⟩
set_option maxRecDepth 100000 in
theorem wf_RX5_57 : Cond.fieldLink RX5 57 (TX5 22).1 (TX5 22).2.1 (TX5 22).2.2.1 ∈ k_tbl := k_in (List.mem_append_right _ (List.mem_of_getElem? (i := 674) (by decide +kernel))) (by decide +kernel)
theorem fl_RX5_57 : k_fl RX5 57 5 22 := ⟨_, _, _, rfl, kinX5, by decide, wf_RX5_57⟩
theorem fl_RX5_99 : k_fl RX5 99 5 19 := ⟨_, _, _, rfl, kinX5, by decide, wf_RX5_99⟩
set_option maxRecDepth 100000 in
theorem wm_RX5_92 : Cond.methodLink RX5 92 yX5_isText ∈ k_tbl := k_in (List.mem_append_right _ (List.mem_of_getElem? (i := 778) (by decide +kernel))) (by decide +kernel)
set_option maxRecDepth 100000 in
theorem wc_X5_isText : Cond.code yX5_isText cX5_isText 1 (some .boolean) ∈ k_tbl := k_in (List.mem_append_right _ (List.mem_of_getElem? (i := 780) (by decide +kernel))) (by decide +kernel)
set_option maxRecDepth 100000 in
theorem wt_X5_isText : Cond.static yX5_isText ∈ k_tbl := k_in (List.mem_append_right _ (List.mem_of_getElem? (i := 779) (by decide +kernel))) (by decide +kernel)
theorem lkS_RX5_92 : k_lkS RX5 92 yX5_isText cX5_isText 1 (some .boolean) 1 := ⟨⟨wm_RX5_92, wi_RX5, wc_X5_isText, by decide +kernel, by decide⟩, wt_X5_isText⟩
set_option maxRecDepth 100000 in
theorem wm_RX5_112 : Cond.methodLink RX5 112 yX5_reads ∈ k_tbl := k_in (List.mem_append_right _ (List.mem_of_getElem? (i := 790) (by decide +kernel))) (by decide +kernel)
set_option maxRecDepth 100000 in
theorem wc_X5_reads : Cond.code yX5_reads cX5_reads 6 (some .int) ∈ k_tbl := k_in (List.mem_append_right _ (List.mem_of_getElem? (i := 793) (by decide +kernel))) (by decide +kernel)
set_option maxRecDepth 100000 in
theorem wn_X5_reads : Cond.instanceMethod yX5_reads ∈ k_tbl := k_in (List.mem_append_right _ (List.mem_of_getElem? (i := 792) (by decide +kernel))) (by decide +kernel)
set_option maxRecDepth 100000 in
theorem ws_X5_reads : Cond.selects RX5 yX5_reads yX5_reads ∈ k_tbl := k_in (List.mem_append_left _ (List.mem_of_getElem? (i := 24) (by decide +kernel))) (by decide +kernel)
theorem lkV_RX5_112 : k_lkV RX5 112 5 yX5_reads cX5_reads 6 (some .int) 1 := ⟨⟨wm_RX5_112, wi_RX5, wc_X5_reads, by decide +kernel, by decide⟩, wn_X5_reads, ws_X5_reads, _, _, rfl⟩
theorem fl_RX5_66 : k_fl RX5 66 5 17 := ⟨_, _, _, rfl, kinX5, by decide, wf_RX5_66⟩
set_option maxRecDepth 100000 in
theorem wf_RX5_37 : Cond.fieldLink RX5 37 (TX5 10).1 (TX5 10).2.1 (TX5 10).2.2.1 ∈ k_tbl := k_in (List.mem_append_right _ (List.mem_of_getElem? (i := 662) (by decide +kernel))) (by decide +kernel)
theorem fl_RX5_37 : k_fl RX5 37 5 10 := ⟨_, _, _, rfl, kinX5, by decide, wf_RX5_37⟩
theorem flW_RX5_126 : k_flW RX5 126 5 11 .int := ⟨_, _, _, tyX5, rfl, kinX5, tyX5_ok, nmX5, by decide, wf_RX5_126, rfl, by decide +kernel⟩
set_option maxRecDepth 100000 in
theorem cn_RX5_177 : Cond.constantLong RX5 177 (7) ∈ k_tbl := k_in (List.mem_append_right _ (List.mem_of_getElem? (i := 881) (by decide +kernel))) (by decide +kernel)
set_option maxRecDepth 100000 in
theorem wm_RX5_171 : Cond.methodLink RX5 171 yX5_remembers ∈ k_tbl := k_in (List.mem_append_right _ (List.mem_of_getElem? (i := 838) (by decide +kernel))) (by decide +kernel)
set_option maxRecDepth 100000 in
theorem wc_X5_remembers : Cond.code yX5_remembers cX5_remembers 1 none ∈ k_tbl := k_in (List.mem_append_right _ (List.mem_of_getElem? (i := 841) (by decide +kernel))) (by decide +kernel)
set_option maxRecDepth 100000 in
theorem wn_X5_remembers : Cond.instanceMethod yX5_remembers ∈ k_tbl := k_in (List.mem_append_right _ (List.mem_of_getElem? (i := 840) (by decide +kernel))) (by decide +kernel)
set_option maxRecDepth 100000 in
theorem ws_X5_remembers : Cond.selects RX5 yX5_remembers yX5_remembers ∈ k_tbl := k_in (List.mem_append_left _ (List.mem_of_getElem? (i := 28) (by decide +kernel))) (by decide +kernel)
theorem lkV_RX5_171 : k_lkV RX5 171 5 yX5_remembers cX5_remembers 1 none 0 := ⟨⟨wm_RX5_171, wi_RX5, wc_X5_remembers, by decide +kernel, by decide⟩, wn_X5_remembers, ws_X5_remembers, _, _, rfl⟩
theorem flW_RX5_115 : k_flW RX5 115 5 4 .int := ⟨_, _, _, tyX5, rfl, kinX5, tyX5_ok, nmX5, by decide, wf_RX5_115, rfl, by decide +kernel⟩
set_option maxRecDepth 100000 in
theorem wm_RX5_122 : Cond.methodLink RX5 122 yX5_resets ∈ k_tbl := k_in (List.mem_append_right _ (List.mem_of_getElem? (i := 810) (by decide +kernel))) (by decide +kernel)
set_option maxRecDepth 100000 in
theorem wc_X5_resets : Cond.code yX5_resets cX5_resets 2 none ∈ k_tbl := k_in (List.mem_append_right _ (List.mem_of_getElem? (i := 813) (by decide +kernel))) (by decide +kernel)
set_option maxRecDepth 100000 in
theorem wn_X5_resets : Cond.instanceMethod yX5_resets ∈ k_tbl := k_in (List.mem_append_right _ (List.mem_of_getElem? (i := 812) (by decide +kernel))) (by decide +kernel)
set_option maxRecDepth 100000 in
theorem ws_X5_resets : Cond.selects RX5 yX5_resets yX5_resets ∈ k_tbl := k_in (List.mem_append_left _ (List.mem_of_getElem? (i := 26) (by decide +kernel))) (by decide +kernel)
theorem lkV_RX5_122 : k_lkV RX5 122 5 yX5_resets cX5_resets 2 none 1 := ⟨⟨wm_RX5_122, wi_RX5, wc_X5_resets, by decide +kernel, by decide⟩, wn_X5_resets, ws_X5_resets, _, _, rfl⟩
set_option maxRecDepth 100000 in
theorem cn_RX5_206 : Cond.constantLong RX5 206 (20) ∈ k_tbl := k_in (List.mem_append_right _ (List.mem_of_getElem? (i := 964) (by decide +kernel))) (by decide +kernel)
set_option maxRecDepth 100000 in
theorem cn_RX5_179 : Cond.constantLong RX5 179 (9) ∈ k_tbl := k_in (List.mem_append_right _ (List.mem_of_getElem? (i := 889) (by decide +kernel))) (by decide +kernel)
set_option maxRecDepth 100000 in
theorem cn_RX5_184 : Cond.constantLong RX5 184 (2) ∈ k_tbl := k_in (List.mem_append_right _ (List.mem_of_getElem? (i := 909) (by decide +kernel))) (by decide +kernel)
set_option maxRecDepth 100000 in
theorem wm_RX5_186 : Cond.methodLink RX5 186 yX5_isPlace ∈ k_tbl := k_in (List.mem_append_right _ (List.mem_of_getElem? (i := 906) (by decide +kernel))) (by decide +kernel)
set_option maxRecDepth 100000 in
theorem wc_X5_isPlace : Cond.code yX5_isPlace cX5_isPlace 1 (some .boolean) ∈ k_tbl := k_in (List.mem_append_right _ (List.mem_of_getElem? (i := 908) (by decide +kernel))) (by decide +kernel)
set_option maxRecDepth 100000 in
theorem wt_X5_isPlace : Cond.static yX5_isPlace ∈ k_tbl := k_in (List.mem_append_right _ (List.mem_of_getElem? (i := 907) (by decide +kernel))) (by decide +kernel)
theorem lkS_RX5_186 : k_lkS RX5 186 yX5_isPlace cX5_isPlace 1 (some .boolean) 1 := ⟨⟨wm_RX5_186, wi_RX5, wc_X5_isPlace, by decide +kernel, by decide⟩, wt_X5_isPlace⟩
set_option maxRecDepth 100000 in
theorem wm_RX5_211 : Cond.methodLink RX5 211 yX5_comesSo ∈ k_tbl := k_in (List.mem_append_right _ (List.mem_of_getElem? (i := 973) (by decide +kernel))) (by decide +kernel)
set_option maxRecDepth 100000 in
theorem wc_X5_comesSo : Cond.code yX5_comesSo cX5_comesSo 3 (some .boolean) ∈ k_tbl := k_in (List.mem_append_right _ (List.mem_of_getElem? (i := 976) (by decide +kernel))) (by decide +kernel)
set_option maxRecDepth 100000 in
theorem wn_X5_comesSo : Cond.instanceMethod yX5_comesSo ∈ k_tbl := k_in (List.mem_append_right _ (List.mem_of_getElem? (i := 975) (by decide +kernel))) (by decide +kernel)
set_option maxRecDepth 100000 in
theorem ws_X5_comesSo : Cond.selects RX5 yX5_comesSo yX5_comesSo ∈ k_tbl := k_in (List.mem_append_left _ (List.mem_of_getElem? (i := 42) (by decide +kernel))) (by decide +kernel)
theorem lkV_RX5_211 : k_lkV RX5 211 5 yX5_comesSo cX5_comesSo 3 (some .boolean) 1 := ⟨⟨wm_RX5_211, wi_RX5, wc_X5_comesSo, by decide +kernel, by decide⟩, wn_X5_comesSo, ws_X5_comesSo, _, _, rfl⟩
set_option maxRecDepth 100000 in
theorem wm_RX5_208 : Cond.methodLink RX5 208 yX5_seen ∈ k_tbl := k_in (List.mem_append_right _ (List.mem_of_getElem? (i := 969) (by decide +kernel))) (by decide +kernel)
set_option maxRecDepth 100000 in
theorem wc_X5_seen : Cond.code yX5_seen cX5_seen 3 (some .int) ∈ k_tbl := k_in (List.mem_append_right _ (List.mem_of_getElem? (i := 972) (by decide +kernel))) (by decide +kernel)
set_option maxRecDepth 100000 in
theorem wn_X5_seen : Cond.instanceMethod yX5_seen ∈ k_tbl := k_in (List.mem_append_right _ (List.mem_of_getElem? (i := 971) (by decide +kernel))) (by decide +kernel)
set_option maxRecDepth 100000 in
theorem ws_X5_seen : Cond.selects RX5 yX5_seen yX5_seen ∈ k_tbl := k_in (List.mem_append_left _ (List.mem_of_getElem? (i := 41) (by decide +kernel))) (by decide +kernel)
theorem lkV_RX5_208 : k_lkV RX5 208 5 yX5_seen cX5_seen 3 (some .int) 1 := ⟨⟨wm_RX5_208, wi_RX5, wc_X5_seen, by decide +kernel, by decide⟩, wn_X5_seen, ws_X5_seen, _, _, rfl⟩
set_option maxRecDepth 100000 in
theorem wm_RX5_214 : Cond.methodLink RX5 214 yX5_kindsBy ∈ k_tbl := k_in (List.mem_append_right _ (List.mem_of_getElem? (i := 981) (by decide +kernel))) (by decide +kernel)
set_option maxRecDepth 100000 in
theorem wc_X5_kindsBy : Cond.code yX5_kindsBy cX5_kindsBy 5 (some .int) ∈ k_tbl := k_in (List.mem_append_right _ (List.mem_of_getElem? (i := 984) (by decide +kernel))) (by decide +kernel)
set_option maxRecDepth 100000 in
theorem wn_X5_kindsBy : Cond.instanceMethod yX5_kindsBy ∈ k_tbl := k_in (List.mem_append_right _ (List.mem_of_getElem? (i := 983) (by decide +kernel))) (by decide +kernel)
set_option maxRecDepth 100000 in
theorem ws_X5_kindsBy : Cond.selects RX5 yX5_kindsBy yX5_kindsBy ∈ k_tbl := k_in (List.mem_append_left _ (List.mem_of_getElem? (i := 43) (by decide +kernel))) (by decide +kernel)
theorem lkV_RX5_214 : k_lkV RX5 214 5 yX5_kindsBy cX5_kindsBy 5 (some .int) 2 := ⟨⟨wm_RX5_214, wi_RX5, wc_X5_kindsBy, by decide +kernel, by decide⟩, wn_X5_kindsBy, ws_X5_kindsBy, _, _, rfl⟩
set_option maxRecDepth 100000 in
theorem cn_RX5_193 : Cond.constantLong RX5 193 (60) ∈ k_tbl := k_in (List.mem_append_right _ (List.mem_of_getElem? (i := 926) (by decide +kernel))) (by decide +kernel)
set_option maxRecDepth 100000 in
theorem wm_RX5_181 : Cond.methodLink RX5 181 yX5_isNumber ∈ k_tbl := k_in (List.mem_append_right _ (List.mem_of_getElem? (i := 886) (by decide +kernel))) (by decide +kernel)
set_option maxRecDepth 100000 in
theorem wc_X5_isNumber : Cond.code yX5_isNumber cX5_isNumber 1 (some .boolean) ∈ k_tbl := k_in (List.mem_append_right _ (List.mem_of_getElem? (i := 888) (by decide +kernel))) (by decide +kernel)
set_option maxRecDepth 100000 in
theorem wt_X5_isNumber : Cond.static yX5_isNumber ∈ k_tbl := k_in (List.mem_append_right _ (List.mem_of_getElem? (i := 887) (by decide +kernel))) (by decide +kernel)
theorem lkS_RX5_181 : k_lkS RX5 181 yX5_isNumber cX5_isNumber 1 (some .boolean) 1 := ⟨⟨wm_RX5_181, wi_RX5, wc_X5_isNumber, by decide +kernel, by decide⟩, wt_X5_isNumber⟩
set_option maxRecDepth 100000 in
theorem cn_RX5_246 : Cond.constantLong RX5 246 (2147483646) ∈ k_tbl := k_in (List.mem_append_right _ (List.mem_of_getElem? (i := 1028) (by decide +kernel))) (by decide +kernel)
set_option maxRecDepth 100000 in
theorem cn_RX5_248 : Cond.constantLong RX5 248 (48271) ∈ k_tbl := k_in (List.mem_append_right _ (List.mem_of_getElem? (i := 1029) (by decide +kernel))) (by decide +kernel)
set_option maxRecDepth 100000 in
theorem cn_RX5_250 : Cond.constantLong RX5 250 (2147483647) ∈ k_tbl := k_in (List.mem_append_right _ (List.mem_of_getElem? (i := 1030) (by decide +kernel))) (by decide +kernel)
set_option maxRecDepth 100000 in
theorem cn_RX5_252 : Cond.constantLong RX5 252 (8) ∈ k_tbl := k_in (List.mem_append_right _ (List.mem_of_getElem? (i := 1031) (by decide +kernel))) (by decide +kernel)
theorem fl_RX5_47 : k_fl RX5 47 5 16 := ⟨_, _, _, rfl, kinX5, by decide, wf_RX5_47⟩
set_option maxRecDepth 100000 in
theorem wm_RX5_242 : Cond.methodLink RX5 242 yX5_chance ∈ k_tbl := k_in (List.mem_append_right _ (List.mem_of_getElem? (i := 1002) (by decide +kernel))) (by decide +kernel)
set_option maxRecDepth 100000 in
theorem wc_X5_chance : Cond.code yX5_chance cX5_chance 8 (some .int) ∈ k_tbl := k_in (List.mem_append_right _ (List.mem_of_getElem? (i := 1005) (by decide +kernel))) (by decide +kernel)
set_option maxRecDepth 100000 in
theorem wn_X5_chance : Cond.instanceMethod yX5_chance ∈ k_tbl := k_in (List.mem_append_right _ (List.mem_of_getElem? (i := 1004) (by decide +kernel))) (by decide +kernel)
set_option maxRecDepth 100000 in
theorem ws_X5_chance : Cond.selects RX5 yX5_chance yX5_chance ∈ k_tbl := k_in (List.mem_append_left _ (List.mem_of_getElem? (i := 45) (by decide +kernel))) (by decide +kernel)
theorem lkV_RX5_242 : k_lkV RX5 242 5 yX5_chance cX5_chance 8 (some .int) 3 := ⟨⟨wm_RX5_242, wi_RX5, wc_X5_chance, by decide +kernel, by decide⟩, wn_X5_chance, ws_X5_chance, _, _, rfl⟩
set_option maxRecDepth 100000 in
theorem wf_RX5_60 : Cond.fieldLink RX5 60 (TX5 25).1 (TX5 25).2.1 (TX5 25).2.2.1 ∈ k_tbl := k_in (List.mem_append_right _ (List.mem_of_getElem? (i := 677) (by decide +kernel))) (by decide +kernel)
theorem fl_RX5_60 : k_fl RX5 60 5 25 := ⟨_, _, _, rfl, kinX5, by decide, wf_RX5_60⟩
set_option maxRecDepth 100000 in
theorem cn_RX5_169 : Cond.constantLong RX5 169 (199) ∈ k_tbl := k_in (List.mem_append_right _ (List.mem_of_getElem? (i := 830) (by decide +kernel))) (by decide +kernel)
theorem fl_RX5_222 : k_fl RX5 222 5 15 := ⟨_, _, _, rfl, kinX5, by decide, wf_RX5_222⟩
set_option maxRecDepth 100000 in
theorem cn_RJ6_265 : Cond.constant RJ6 265 (1431655765) ∈ k_tbl := k_in (List.mem_append_right _ (List.mem_of_getElem? (i := 378) (by decide +kernel))) (by decide +kernel)
set_option maxRecDepth 100000 in
theorem cn_RJ6_266 : Cond.constant RJ6 266 (858993459) ∈ k_tbl := k_in (List.mem_append_right _ (List.mem_of_getElem? (i := 379) (by decide +kernel))) (by decide +kernel)
set_option maxRecDepth 100000 in
theorem cn_RJ6_267 : Cond.constant RJ6 267 (252645135) ∈ k_tbl := k_in (List.mem_append_right _ (List.mem_of_getElem? (i := 380) (by decide +kernel))) (by decide +kernel)
set_option maxRecDepth 100000 in
theorem wf_RX0_9 : Cond.fieldLink RX0 9 (TX0 0).1 (TX0 0).2.1 (TX0 0).2.2.1 ∈ k_tbl := k_in (List.mem_append_right _ (List.mem_of_getElem? (i := 36) (by decide +kernel))) (by decide +kernel)
theorem fl_RX0_9 : k_fl RX0 9 0 0 := ⟨_, _, _, rfl, kinX0, by decide, wf_RX0_9⟩
theorem flW_RX0_9 : k_flW RX0 9 0 0 .int := ⟨_, _, _, tyX0, rfl, kinX0, tyX0_ok, nmX0, by decide, wf_RX0_9, rfl, by decide +kernel⟩
set_option maxRecDepth 100000 in
theorem wf_RX0_15 : Cond.fieldLink RX0 15 (TX0 1).1 (TX0 1).2.1 (TX0 1).2.2.1 ∈ k_tbl := k_in (List.mem_append_right _ (List.mem_of_getElem? (i := 38) (by decide +kernel))) (by decide +kernel)
theorem fl_RX0_15 : k_fl RX0 15 0 1 := ⟨_, _, _, rfl, kinX0, by decide, wf_RX0_15⟩
theorem flW_RX0_15 : k_flW RX0 15 0 1 .int := ⟨_, _, _, tyX0, rfl, kinX0, tyX0_ok, nmX0, by decide, wf_RX0_15, rfl, by decide +kernel⟩
set_option maxRecDepth 100000 in
theorem wf_RX0_18 : Cond.fieldLink RX0 18 (TX0 2).1 (TX0 2).2.1 (TX0 2).2.2.1 ∈ k_tbl := k_in (List.mem_append_right _ (List.mem_of_getElem? (i := 41) (by decide +kernel))) (by decide +kernel)
theorem fl_RX0_18 : k_fl RX0 18 0 2 := ⟨_, _, _, rfl, kinX0, by decide, wf_RX0_18⟩
theorem flW_RX0_18 : k_flW RX0 18 0 2 .int := ⟨_, _, _, tyX0, rfl, kinX0, tyX0_ok, nmX0, by decide, wf_RX0_18, rfl, by decide +kernel⟩
set_option maxRecDepth 100000 in
theorem wf_RX0_24 : Cond.fieldLink RX0 24 (TX0 3).1 (TX0 3).2.1 (TX0 3).2.2.1 ∈ k_tbl := k_in (List.mem_append_right _ (List.mem_of_getElem? (i := 42) (by decide +kernel))) (by decide +kernel)
theorem fl_RX0_24 : k_fl RX0 24 0 3 := ⟨_, _, _, rfl, kinX0, by decide, wf_RX0_24⟩
theorem flW_RX0_24 : k_flW RX0 24 0 3 .int := ⟨_, _, _, tyX0, rfl, kinX0, tyX0_ok, nmX0, by decide, wf_RX0_24, rfl, by decide +kernel⟩
set_option maxRecDepth 100000 in
theorem wf_RX0_27 : Cond.fieldLink RX0 27 (TX0 4).1 (TX0 4).2.1 (TX0 4).2.2.1 ∈ k_tbl := k_in (List.mem_append_right _ (List.mem_of_getElem? (i := 45) (by decide +kernel))) (by decide +kernel)
theorem fl_RX0_27 : k_fl RX0 27 0 4 := ⟨_, _, _, rfl, kinX0, by decide, wf_RX0_27⟩
theorem flW_RX0_27 : k_flW RX0 27 0 4 .int := ⟨_, _, _, tyX0, rfl, kinX0, tyX0_ok, nmX0, by decide, wf_RX0_27, rfl, by decide +kernel⟩
set_option maxRecDepth 100000 in
theorem wf_RX0_30 : Cond.fieldLink RX0 30 (TX0 5).1 (TX0 5).2.1 (TX0 5).2.2.1 ∈ k_tbl := k_in (List.mem_append_right _ (List.mem_of_getElem? (i := 46) (by decide +kernel))) (by decide +kernel)
theorem fl_RX0_30 : k_fl RX0 30 0 5 := ⟨_, _, _, rfl, kinX0, by decide, wf_RX0_30⟩
theorem flW_RX0_30 : k_flW RX0 30 0 5 .int := ⟨_, _, _, tyX0, rfl, kinX0, tyX0_ok, nmX0, by decide, wf_RX0_30, rfl, by decide +kernel⟩
set_option maxRecDepth 100000 in
theorem wf_RX0_33 : Cond.fieldLink RX0 33 (TX0 6).1 (TX0 6).2.1 (TX0 6).2.2.1 ∈ k_tbl := k_in (List.mem_append_right _ (List.mem_of_getElem? (i := 47) (by decide +kernel))) (by decide +kernel)
theorem fl_RX0_33 : k_fl RX0 33 0 6 := ⟨_, _, _, rfl, kinX0, by decide, wf_RX0_33⟩
theorem flW_RX0_33 : k_flW RX0 33 0 6 .int := ⟨_, _, _, tyX0, rfl, kinX0, tyX0_ok, nmX0, by decide, wf_RX0_33, rfl, by decide +kernel⟩
set_option maxRecDepth 100000 in
theorem wm_RX0_21 : Cond.methodLink RX0 21 yX0_renew ∈ k_tbl := k_in (List.mem_append_right _ (List.mem_of_getElem? (i := 278) (by decide +kernel))) (by decide +kernel)
set_option maxRecDepth 100000 in
theorem wc_X0_renew : Cond.code yX0_renew cX0_renew 1 none ∈ k_tbl := k_in (List.mem_append_right _ (List.mem_of_getElem? (i := 281) (by decide +kernel))) (by decide +kernel)
set_option maxRecDepth 100000 in
theorem wi_RX0 : Cond.initialized RX0 ∈ k_tbl := k_in (List.mem_append_right _ (List.mem_of_getElem? (i := 3) (by decide +kernel))) (by decide +kernel)
set_option maxRecDepth 100000 in
theorem wn_X0_renew : Cond.instanceMethod yX0_renew ∈ k_tbl := k_in (List.mem_append_right _ (List.mem_of_getElem? (i := 279) (by decide +kernel))) (by decide +kernel)
set_option maxRecDepth 100000 in
theorem ws_X0_renew : Cond.selects RX0 yX0_renew yX0_renew ∈ k_tbl := k_in (List.mem_append_right _ (List.mem_of_getElem? (i := 280) (by decide +kernel))) (by decide +kernel)
theorem lkV_RX0_21 : k_lkV RX0 21 0 yX0_renew cX0_renew 1 none 0 := ⟨⟨wm_RX0_21, wi_RX0, wc_X0_renew, by decide +kernel, by decide⟩, wn_X0_renew, ws_X0_renew, _, _, rfl⟩
set_option maxRecDepth 100000 in
theorem wm_RX0_40 : Cond.methodLink RX0 40 yJ9_max_7cf53 ∈ k_tbl := k_in (List.mem_append_right _ (List.mem_of_getElem? (i := 318) (by decide +kernel))) (by decide +kernel)
set_option maxRecDepth 100000 in
theorem wc_J9_max_7cf53 : Cond.code yJ9_max_7cf53 cJ9_max_7cf53 2 (some .int) ∈ k_tbl := k_in (List.mem_append_right _ (List.mem_of_getElem? (i := 320) (by decide +kernel))) (by decide +kernel)
set_option maxRecDepth 100000 in
theorem wi_RJ9 : Cond.initialized RJ9 ∈ k_tbl := k_in (List.mem_append_right _ (List.mem_of_getElem? (i := 9) (by decide +kernel))) (by decide +kernel)
set_option maxRecDepth 100000 in
theorem wt_J9_max_7cf53 : Cond.static yJ9_max_7cf53 ∈ k_tbl := k_in (List.mem_append_right _ (List.mem_of_getElem? (i := 319) (by decide +kernel))) (by decide +kernel)
theorem lkS_RX0_40 : k_lkS RX0 40 yJ9_max_7cf53 cJ9_max_7cf53 2 (some .int) 2 := ⟨⟨wm_RX0_40, wi_RJ9, wc_J9_max_7cf53, by decide +kernel, by decide⟩, wt_J9_max_7cf53⟩
set_option maxRecDepth 100000 in
theorem wm_RX0_52 : Cond.methodLink RX0 52 yX0_callsIn ∈ k_tbl := k_in (List.mem_append_right _ (List.mem_of_getElem? (i := 321) (by decide +kernel))) (by decide +kernel)
set_option maxRecDepth 100000 in
theorem wc_X0_callsIn : Cond.code yX0_callsIn cX0_callsIn 2 (some .boolean) ∈ k_tbl := k_in (List.mem_append_right _ (List.mem_of_getElem? (i := 324) (by decide +kernel))) (by decide +kernel)
set_option maxRecDepth 100000 in
theorem wn_X0_callsIn : Cond.instanceMethod yX0_callsIn ∈ k_tbl := k_in (List.mem_append_right _ (List.mem_of_getElem? (i := 322) (by decide +kernel))) (by decide +kernel)
set_option maxRecDepth 100000 in
theorem ws_X0_callsIn : Cond.selects RX0 yX0_callsIn yX0_callsIn ∈ k_tbl := k_in (List.mem_append_right _ (List.mem_of_getElem? (i := 323) (by decide +kernel))) (by decide +kernel)
theorem lkV_RX0_52 : k_lkV RX0 52 0 yX0_callsIn cX0_callsIn 2 (some .boolean) 1 := ⟨⟨wm_RX0_52, wi_RX0, wc_X0_callsIn, by decide +kernel, by decide⟩, wn_X0_callsIn, ws_X0_callsIn, _, _, rfl⟩
set_option maxRecDepth 100000 in
theorem wm_RX0_55 : Cond.methodLink RX0 55 yJ9_floorMod_7cf53 ∈ k_tbl := k_in (List.mem_append_right _ (List.mem_of_getElem? (i := 325) (by decide +kernel))) (by decide +kernel)
set_option maxRecDepth 100000 in
theorem wc_J9_floorMod_7cf53 : Cond.code yJ9_floorMod_7cf53 cJ9_floorMod_7cf53 3 (some .int) ∈ k_tbl := k_in (List.mem_append_right _ (List.mem_of_getElem? (i := 327) (by decide +kernel))) (by decide +kernel)
set_option maxRecDepth 100000 in
theorem wt_J9_floorMod_7cf53 : Cond.static yJ9_floorMod_7cf53 ∈ k_tbl := k_in (List.mem_append_right _ (List.mem_of_getElem? (i := 326) (by decide +kernel))) (by decide +kernel)
theorem lkS_RX0_55 : k_lkS RX0 55 yJ9_floorMod_7cf53 cJ9_floorMod_7cf53 3 (some .int) 2 := ⟨⟨wm_RX0_55, wi_RJ9, wc_J9_floorMod_7cf53, by decide +kernel, by decide⟩, wt_J9_floorMod_7cf53⟩
set_option maxRecDepth 100000 in
theorem wm_RX0_49 : Cond.methodLink RX0 49 yX0_wake ∈ k_tbl := k_in (List.mem_append_right _ (List.mem_of_getElem? (i := 397) (by decide +kernel))) (by decide +kernel)
set_option maxRecDepth 100000 in
theorem wc_X0_wake : Cond.code yX0_wake cX0_wake 1 none ∈ k_tbl := k_in (List.mem_append_right _ (List.mem_of_getElem? (i := 400) (by decide +kernel))) (by decide +kernel)
set_option maxRecDepth 100000 in
theorem wn_X0_wake : Cond.instanceMethod yX0_wake ∈ k_tbl := k_in (List.mem_append_right _ (List.mem_of_getElem? (i := 399) (by decide +kernel))) (by decide +kernel)
set_option maxRecDepth 100000 in
theorem ws_X0_wake : Cond.selects RX0 yX0_wake yX0_wake ∈ k_tbl := k_in (List.mem_append_left _ (List.mem_of_getElem? (i := 5) (by decide +kernel))) (by decide +kernel)
theorem lkV_RX0_49 : k_lkV RX0 49 0 yX0_wake cX0_wake 1 none 0 := ⟨⟨wm_RX0_49, wi_RX0, wc_X0_wake, by decide +kernel, by decide⟩, wn_X0_wake, ws_X0_wake, _, _, rfl⟩
set_option maxRecDepth 100000 in
theorem wm_RX0_36 : Cond.methodLink RX0 36 yX0_isOf ∈ k_tbl := k_in (List.mem_append_right _ (List.mem_of_getElem? (i := 385) (by decide +kernel))) (by decide +kernel)
set_option maxRecDepth 100000 in
theorem wc_X0_isOf : Cond.code yX0_isOf cX0_isOf 2 (some .boolean) ∈ k_tbl := k_in (List.mem_append_right _ (List.mem_of_getElem? (i := 313) (by decide +kernel))) (by decide +kernel)
set_option maxRecDepth 100000 in
theorem wn_X0_isOf : Cond.instanceMethod yX0_isOf ∈ k_tbl := k_in (List.mem_append_right _ (List.mem_of_getElem? (i := 311) (by decide +kernel))) (by decide +kernel)
set_option maxRecDepth 100000 in
theorem ws_X0_isOf : Cond.selects RX0 yX0_isOf yX0_isOf ∈ k_tbl := k_in (List.mem_append_right _ (List.mem_of_getElem? (i := 312) (by decide +kernel))) (by decide +kernel)
theorem lkV_RX0_36 : k_lkV RX0 36 0 yX0_isOf cX0_isOf 2 (some .boolean) 1 := ⟨⟨wm_RX0_36, wi_RX0, wc_X0_isOf, by decide +kernel, by decide⟩, wn_X0_isOf, ws_X0_isOf, _, _, rfl⟩
set_option maxRecDepth 100000 in
theorem wm_RX0_46 : Cond.methodLink RX0 46 yJ9_min_7cf53 ∈ k_tbl := k_in (List.mem_append_right _ (List.mem_of_getElem? (i := 390) (by decide +kernel))) (by decide +kernel)
set_option maxRecDepth 100000 in
theorem wc_J9_min_7cf53 : Cond.code yJ9_min_7cf53 cJ9_min_7cf53 2 (some .int) ∈ k_tbl := k_in (List.mem_append_right _ (List.mem_of_getElem? (i := 392) (by decide +kernel))) (by decide +kernel)
set_option maxRecDepth 100000 in
theorem wt_J9_min_7cf53 : Cond.static yJ9_min_7cf53 ∈ k_tbl := k_in (List.mem_append_right _ (List.mem_of_getElem? (i := 391) (by decide +kernel))) (by decide +kernel)
theorem lkS_RX0_46 : k_lkS RX0 46 yJ9_min_7cf53 cJ9_min_7cf53 2 (some .int) 2 := ⟨⟨wm_RX0_46, wi_RJ9, wc_J9_min_7cf53, by decide +kernel, by decide⟩, wt_J9_min_7cf53⟩
set_option maxRecDepth 100000 in
theorem wf_RX1_9 : Cond.fieldLink RX1 9 (TX1 0).1 (TX1 0).2.1 (TX1 0).2.2.1 ∈ k_tbl := k_in (List.mem_append_right _ (List.mem_of_getElem? (i := 128) (by decide +kernel))) (by decide +kernel)
theorem flW_RX1_9 : k_flW RX1 9 1 0 .int := ⟨_, _, _, tyX1, rfl, kinX1, tyX1_ok, nmX1, by decide, wf_RX1_9, rfl, by decide +kernel⟩
set_option maxRecDepth 100000 in
theorem wf_RX1_15 : Cond.fieldLink RX1 15 (TX1 1).1 (TX1 1).2.1 (TX1 1).2.2.1 ∈ k_tbl := k_in (List.mem_append_right _ (List.mem_of_getElem? (i := 130) (by decide +kernel))) (by decide +kernel)
theorem flW_RX1_15 : k_flW RX1 15 1 1 .int := ⟨_, _, _, tyX1, rfl, kinX1, tyX1_ok, nmX1, by decide, wf_RX1_15, rfl, by decide +kernel⟩
theorem fl_RX1_9 : k_fl RX1 9 1 0 := ⟨_, _, _, rfl, kinX1, by decide, wf_RX1_9⟩
set_option maxRecDepth 100000 in
theorem wf_RX2_21 : Cond.fieldLink RX2 21 (TX2 3).1 (TX2 3).2.1 (TX2 3).2.2.1 ∈ k_tbl := k_in (List.mem_append_right _ (List.mem_of_getElem? (i := 111) (by decide +kernel))) (by decide +kernel)
theorem fl_RX2_21 : k_fl RX2 21 2 3 := ⟨_, _, _, rfl, kinX2, by decide, wf_RX2_21⟩
set_option maxRecDepth 100000 in
theorem wf_RX2_9 : Cond.fieldLink RX2 9 (TX2 0).1 (TX2 0).2.1 (TX2 0).2.2.1 ∈ k_tbl := k_in (List.mem_append_right _ (List.mem_of_getElem? (i := 104) (by decide +kernel))) (by decide +kernel)
theorem fl_RX2_9 : k_fl RX2 9 2 0 := ⟨_, _, _, rfl, kinX2, by decide, wf_RX2_9⟩
set_option maxRecDepth 100000 in
theorem wf_RX2_15 : Cond.fieldLink RX2 15 (TX2 1).1 (TX2 1).2.1 (TX2 1).2.2.1 ∈ k_tbl := k_in (List.mem_append_right _ (List.mem_of_getElem? (i := 106) (by decide +kernel))) (by decide +kernel)
theorem fl_RX2_15 : k_fl RX2 15 2 1 := ⟨_, _, _, rfl, kinX2, by decide, wf_RX2_15⟩
set_option maxRecDepth 100000 in
theorem wf_RX2_18 : Cond.fieldLink RX2 18 (TX2 2).1 (TX2 2).2.1 (TX2 2).2.2.1 ∈ k_tbl := k_in (List.mem_append_right _ (List.mem_of_getElem? (i := 108) (by decide +kernel))) (by decide +kernel)
theorem fl_RX2_18 : k_fl RX2 18 2 2 := ⟨_, _, _, rfl, kinX2, by decide, wf_RX2_18⟩
theorem flW_RX2_21 : k_flW RX2 21 2 3 .int := ⟨_, _, _, tyX2, rfl, kinX2, tyX2_ok, nmX2, by decide, wf_RX2_21, rfl, by decide +kernel⟩
set_option maxRecDepth 100000 in
theorem wf_RX3_25 : Cond.fieldLink RX3 25 (TX3 3).1 (TX3 3).2.1 (TX3 3).2.2.1 ∈ k_tbl := k_in (List.mem_append_right _ (List.mem_of_getElem? (i := 71) (by decide +kernel))) (by decide +kernel)
theorem fl_RX3_25 : k_fl RX3 25 3 3 := ⟨_, _, _, rfl, kinX3, by decide, wf_RX3_25⟩
set_option maxRecDepth 100000 in
theorem wm_RX3_44 : Cond.methodLink RX3 44 yJ9_floorMod_7cf53 ∈ k_tbl := k_in (List.mem_append_right _ (List.mem_of_getElem? (i := 336) (by decide +kernel))) (by decide +kernel)
theorem lkS_RX3_44 : k_lkS RX3 44 yJ9_floorMod_7cf53 cJ9_floorMod_7cf53 3 (some .int) 2 := ⟨⟨wm_RX3_44, wi_RJ9, wc_J9_floorMod_7cf53, by decide +kernel, by decide⟩, wt_J9_floorMod_7cf53⟩
set_option maxRecDepth 100000 in
theorem wf_RX3_28 : Cond.fieldLink RX3 28 (TX3 4).1 (TX3 4).2.1 (TX3 4).2.2.1 ∈ k_tbl := k_in (List.mem_append_right _ (List.mem_of_getElem? (i := 73) (by decide +kernel))) (by decide +kernel)
theorem fl_RX3_28 : k_fl RX3 28 3 4 := ⟨_, _, _, rfl, kinX3, by decide, wf_RX3_28⟩
set_option maxRecDepth 100000 in
theorem wm_RX3_50 : Cond.methodLink RX3 50 yX3_isUpIn ∈ k_tbl := k_in (List.mem_append_right _ (List.mem_of_getElem? (i := 361) (by decide +kernel))) (by decide +kernel)
set_option maxRecDepth 100000 in
theorem wc_X3_isUpIn : Cond.code yX3_isUpIn cX3_isUpIn 2 (some .boolean) ∈ k_tbl := k_in (List.mem_append_right _ (List.mem_of_getElem? (i := 335) (by decide +kernel))) (by decide +kernel)
set_option maxRecDepth 100000 in
theorem wi_RX3 : Cond.initialized RX3 ∈ k_tbl := k_in (List.mem_append_right _ (List.mem_of_getElem? (i := 2) (by decide +kernel))) (by decide +kernel)
set_option maxRecDepth 100000 in
theorem wn_X3_isUpIn : Cond.instanceMethod yX3_isUpIn ∈ k_tbl := k_in (List.mem_append_right _ (List.mem_of_getElem? (i := 333) (by decide +kernel))) (by decide +kernel)
set_option maxRecDepth 100000 in
theorem ws_X3_isUpIn : Cond.selects RX3 yX3_isUpIn yX3_isUpIn ∈ k_tbl := k_in (List.mem_append_right _ (List.mem_of_getElem? (i := 334) (by decide +kernel))) (by decide +kernel)
theorem lkV_RX3_50 : k_lkV RX3 50 3 yX3_isUpIn cX3_isUpIn 2 (some .boolean) 1 := ⟨⟨wm_RX3_50, wi_RX3, wc_X3_isUpIn, by decide +kernel, by decide⟩, wn_X3_isUpIn, ws_X3_isUpIn, _, _, rfl⟩
set_option maxRecDepth 100000 in
theorem wf_RX3_37 : Cond.fieldLink RX3 37 (TX3 7).1 (TX3 7).2.1 (TX3 7).2.2.1 ∈ k_tbl := k_in (List.mem_append_right _ (List.mem_of_getElem? (i := 79) (by decide +kernel))) (by decide +kernel)
theorem fl_RX3_37 : k_fl RX3 37 3 7 := ⟨_, _, _, rfl, kinX3, by decide, wf_RX3_37⟩
set_option maxRecDepth 100000 in
theorem wf_RX3_18 : Cond.fieldLink RX3 18 (TX3 1).1 (TX3 1).2.1 (TX3 1).2.2.1 ∈ k_tbl := k_in (List.mem_append_right _ (List.mem_of_getElem? (i := 67) (by decide +kernel))) (by decide +kernel)
theorem fl_RX3_18 : k_fl RX3 18 3 1 := ⟨_, _, _, rfl, kinX3, by decide, wf_RX3_18⟩
set_option maxRecDepth 100000 in
theorem wm_RX3_54 : Cond.methodLink RX3 54 yX3_isHushed ∈ k_tbl := k_in (List.mem_append_right _ (List.mem_of_getElem? (i := 370) (by decide +kernel))) (by decide +kernel)
set_option maxRecDepth 100000 in
theorem wc_X3_isHushed : Cond.code yX3_isHushed cX3_isHushed 2 (some .boolean) ∈ k_tbl := k_in (List.mem_append_right _ (List.mem_of_getElem? (i := 373) (by decide +kernel))) (by decide +kernel)
set_option maxRecDepth 100000 in
theorem wn_X3_isHushed : Cond.instanceMethod yX3_isHushed ∈ k_tbl := k_in (List.mem_append_right _ (List.mem_of_getElem? (i := 372) (by decide +kernel))) (by decide +kernel)
set_option maxRecDepth 100000 in
theorem ws_X3_isHushed : Cond.selects RX3 yX3_isHushed yX3_isHushed ∈ k_tbl := k_in (List.mem_append_left _ (List.mem_of_getElem? (i := 4) (by decide +kernel))) (by decide +kernel)
theorem lkV_RX3_54 : k_lkV RX3 54 3 yX3_isHushed cX3_isHushed 2 (some .boolean) 1 := ⟨⟨wm_RX3_54, wi_RX3, wc_X3_isHushed, by decide +kernel, by decide⟩, wn_X3_isHushed, ws_X3_isHushed, _, _, rfl⟩
set_option maxRecDepth 100000 in
theorem wf_RX3_11 : Cond.fieldLink RX3 11 (TX3 0).1 (TX3 0).2.1 (TX3 0).2.2.1 ∈ k_tbl := k_in (List.mem_append_right _ (List.mem_of_getElem? (i := 65) (by decide +kernel))) (by decide +kernel)
theorem fl_RX3_11 : k_fl RX3 11 3 0 := ⟨_, _, _, rfl, kinX3, by decide, wf_RX3_11⟩
set_option maxRecDepth 100000 in
theorem wm_RX3_57 : Cond.methodLink RX3 57 yX0_callsIn ∈ k_tbl := k_in (List.mem_append_right _ (List.mem_of_getElem? (i := 374) (by decide +kernel))) (by decide +kernel)
theorem lkV_RX3_57 : k_lkV RX3 57 0 yX0_callsIn cX0_callsIn 2 (some .boolean) 1 := ⟨⟨wm_RX3_57, wi_RX0, wc_X0_callsIn, by decide +kernel, by decide⟩, wn_X0_callsIn, ws_X0_callsIn, _, _, rfl⟩
set_option maxRecDepth 100000 in
theorem wm_RX3_64 : Cond.methodLink RX3 64 yX3_calling ∈ k_tbl := k_in (List.mem_append_right _ (List.mem_of_getElem? (i := 366) (by decide +kernel))) (by decide +kernel)
set_option maxRecDepth 100000 in
theorem wc_X3_calling : Cond.code yX3_calling cX3_calling 3 (some .int) ∈ k_tbl := k_in (List.mem_append_right _ (List.mem_of_getElem? (i := 369) (by decide +kernel))) (by decide +kernel)
set_option maxRecDepth 100000 in
theorem wn_X3_calling : Cond.instanceMethod yX3_calling ∈ k_tbl := k_in (List.mem_append_right _ (List.mem_of_getElem? (i := 367) (by decide +kernel))) (by decide +kernel)
set_option maxRecDepth 100000 in
theorem ws_X3_calling : Cond.selects RX3 yX3_calling yX3_calling ∈ k_tbl := k_in (List.mem_append_right _ (List.mem_of_getElem? (i := 368) (by decide +kernel))) (by decide +kernel)
theorem lkV_RX3_64 : k_lkV RX3 64 3 yX3_calling cX3_calling 3 (some .int) 0 := ⟨⟨wm_RX3_64, wi_RX3, wc_X3_calling, by decide +kernel, by decide⟩, wn_X3_calling, ws_X3_calling, _, _, rfl⟩
set_option maxRecDepth 100000 in
theorem wm_RX3_68 : Cond.methodLink RX3 68 yJ6_bitCount_0f7a4 ∈ k_tbl := k_in (List.mem_append_right _ (List.mem_of_getElem? (i := 375) (by decide +kernel))) (by decide +kernel)
set_option maxRecDepth 100000 in
theorem wc_J6_bitCount_0f7a4 : Cond.code yJ6_bitCount_0f7a4 cJ6_bitCount_0f7a4 1 (some .int) ∈ k_tbl := k_in (List.mem_append_right _ (List.mem_of_getElem? (i := 377) (by decide +kernel))) (by decide +kernel)
set_option maxRecDepth 100000 in
theorem wi_RJ6 : Cond.initialized RJ6 ∈ k_tbl := k_in (List.mem_append_right _ (List.mem_of_getElem? (i := 10) (by decide +kernel))) (by decide +kernel)
set_option maxRecDepth 100000 in
theorem wt_J6_bitCount_0f7a4 : Cond.static yJ6_bitCount_0f7a4 ∈ k_tbl := k_in (List.mem_append_right _ (List.mem_of_getElem? (i := 376) (by decide +kernel))) (by decide +kernel)
theorem lkS_RX3_68 : k_lkS RX3 68 yJ6_bitCount_0f7a4 cJ6_bitCount_0f7a4 1 (some .int) 1 := ⟨⟨wm_RX3_68, wi_RJ6, wc_J6_bitCount_0f7a4, by decide +kernel, by decide⟩, wt_J6_bitCount_0f7a4⟩
theorem flW_RX3_28 : k_flW RX3 28 3 4 .int := ⟨_, _, _, tyX3, rfl, kinX3, tyX3_ok, nmX3, by decide, wf_RX3_28, rfl, by decide +kernel⟩
set_option maxRecDepth 100000 in
theorem wf_RX3_31 : Cond.fieldLink RX3 31 (TX3 5).1 (TX3 5).2.1 (TX3 5).2.2.1 ∈ k_tbl := k_in (List.mem_append_right _ (List.mem_of_getElem? (i := 75) (by decide +kernel))) (by decide +kernel)
theorem fl_RX3_31 : k_fl RX3 31 3 5 := ⟨_, _, _, rfl, kinX3, by decide, wf_RX3_31⟩
theorem flW_RX3_31 : k_flW RX3 31 3 5 .int := ⟨_, _, _, tyX3, rfl, kinX3, tyX3_ok, nmX3, by decide, wf_RX3_31, rfl, by decide +kernel⟩
set_option maxRecDepth 100000 in
theorem wf_RX3_34 : Cond.fieldLink RX3 34 (TX3 6).1 (TX3 6).2.1 (TX3 6).2.2.1 ∈ k_tbl := k_in (List.mem_append_right _ (List.mem_of_getElem? (i := 77) (by decide +kernel))) (by decide +kernel)
theorem fl_RX3_34 : k_fl RX3 34 3 6 := ⟨_, _, _, rfl, kinX3, by decide, wf_RX3_34⟩
theorem flW_RX3_34 : k_flW RX3 34 3 6 .int := ⟨_, _, _, tyX3, rfl, kinX3, tyX3_ok, nmX3, by decide, wf_RX3_34, rfl, by decide +kernel⟩
set_option maxRecDepth 100000 in
theorem wf_RX3_74 : Cond.fieldLink RX3 74 (TX0 3).1 (TX0 3).2.1 (TX0 3).2.2.1 ∈ k_tbl := k_in (List.mem_append_right _ (List.mem_of_getElem? (i := 43) (by decide +kernel))) (by decide +kernel)
theorem fl_RX3_74 : k_fl RX3 74 0 3 := ⟨_, _, _, rfl, kinX0, by decide, wf_RX3_74⟩
set_option maxRecDepth 100000 in
theorem wm_RX3_90 : Cond.methodLink RX3 90 yX0_restOneStep ∈ k_tbl := k_in (List.mem_append_right _ (List.mem_of_getElem? (i := 393) (by decide +kernel))) (by decide +kernel)
set_option maxRecDepth 100000 in
theorem wc_X0_restOneStep : Cond.code yX0_restOneStep cX0_restOneStep 1 none ∈ k_tbl := k_in (List.mem_append_right _ (List.mem_of_getElem? (i := 396) (by decide +kernel))) (by decide +kernel)
set_option maxRecDepth 100000 in
theorem wn_X0_restOneStep : Cond.instanceMethod yX0_restOneStep ∈ k_tbl := k_in (List.mem_append_right _ (List.mem_of_getElem? (i := 394) (by decide +kernel))) (by decide +kernel)
set_option maxRecDepth 100000 in
theorem ws_X0_restOneStep : Cond.selects RX0 yX0_restOneStep yX0_restOneStep ∈ k_tbl := k_in (List.mem_append_right _ (List.mem_of_getElem? (i := 395) (by decide +kernel))) (by decide +kernel)
theorem lkV_RX3_90 : k_lkV RX3 90 0 yX0_restOneStep cX0_restOneStep 1 none 0 := ⟨⟨wm_RX3_90, wi_RX0, wc_X0_restOneStep, by decide +kernel, by decide⟩, wn_X0_restOneStep, ws_X0_restOneStep, _, _, rfl⟩
set_option maxRecDepth 100000 in
theorem wm_RX3_86 : Cond.methodLink RX3 86 yX0_takeFault ∈ k_tbl := k_in (List.mem_append_right _ (List.mem_of_getElem? (i := 386) (by decide +kernel))) (by decide +kernel)
set_option maxRecDepth 100000 in
theorem wc_X0_takeFault : Cond.code yX0_takeFault cX0_takeFault 2 none ∈ k_tbl := k_in (List.mem_append_right _ (List.mem_of_getElem? (i := 389) (by decide +kernel))) (by decide +kernel)
set_option maxRecDepth 100000 in
theorem wn_X0_takeFault : Cond.instanceMethod yX0_takeFault ∈ k_tbl := k_in (List.mem_append_right _ (List.mem_of_getElem? (i := 387) (by decide +kernel))) (by decide +kernel)
set_option maxRecDepth 100000 in
theorem ws_X0_takeFault : Cond.selects RX0 yX0_takeFault yX0_takeFault ∈ k_tbl := k_in (List.mem_append_right _ (List.mem_of_getElem? (i := 388) (by decide +kernel))) (by decide +kernel)
theorem lkV_RX3_86 : k_lkV RX3 86 0 yX0_takeFault cX0_takeFault 2 none 1 := ⟨⟨wm_RX3_86, wi_RX0, wc_X0_takeFault, by decide +kernel, by decide⟩, wn_X0_takeFault, ws_X0_takeFault, _, _, rfl⟩
set_option maxRecDepth 100000 in
theorem wm_RX3_83 : Cond.methodLink RX3 83 yX0_takeAnswer ∈ k_tbl := k_in (List.mem_append_right _ (List.mem_of_getElem? (i := 381) (by decide +kernel))) (by decide +kernel)
set_option maxRecDepth 100000 in
theorem wc_X0_takeAnswer : Cond.code yX0_takeAnswer cX0_takeAnswer 1 none ∈ k_tbl := k_in (List.mem_append_right _ (List.mem_of_getElem? (i := 384) (by decide +kernel))) (by decide +kernel)
set_option maxRecDepth 100000 in
theorem wn_X0_takeAnswer : Cond.instanceMethod yX0_takeAnswer ∈ k_tbl := k_in (List.mem_append_right _ (List.mem_of_getElem? (i := 382) (by decide +kernel))) (by decide +kernel)
set_option maxRecDepth 100000 in
theorem ws_X0_takeAnswer : Cond.selects RX0 yX0_takeAnswer yX0_takeAnswer ∈ k_tbl := k_in (List.mem_append_right _ (List.mem_of_getElem? (i := 383) (by decide +kernel))) (by decide +kernel)
theorem lkV_RX3_83 : k_lkV RX3 83 0 yX0_takeAnswer cX0_takeAnswer 1 none 0 := ⟨⟨wm_RX3_83, wi_RX0, wc_X0_takeAnswer, by decide +kernel, by decide⟩, wn_X0_takeAnswer, ws_X0_takeAnswer, _, _, rfl⟩
set_option maxRecDepth 100000 in
theorem wf_RX3_22 : Cond.fieldLink RX3 22 (TX3 2).1 (TX3 2).2.1 (TX3 2).2.2.1 ∈ k_tbl := k_in (List.mem_append_right _ (List.mem_of_getElem? (i := 69) (by decide +kernel))) (by decide +kernel)
theorem fl_RX3_22 : k_fl RX3 22 3 2 := ⟨_, _, _, rfl, kinX3, by decide, wf_RX3_22⟩
set_option maxRecDepth 100000 in
theorem wm_RX3_60 : Cond.methodLink RX3 60 yX3_isUp ∈ k_tbl := k_in (List.mem_append_right _ (List.mem_of_getElem? (i := 357) (by decide +kernel))) (by decide +kernel)
set_option maxRecDepth 100000 in
theorem wc_X3_isUp : Cond.code yX3_isUp cX3_isUp 1 (some .boolean) ∈ k_tbl := k_in (List.mem_append_right _ (List.mem_of_getElem? (i := 360) (by decide +kernel))) (by decide +kernel)
set_option maxRecDepth 100000 in
theorem wn_X3_isUp : Cond.instanceMethod yX3_isUp ∈ k_tbl := k_in (List.mem_append_right _ (List.mem_of_getElem? (i := 358) (by decide +kernel))) (by decide +kernel)
set_option maxRecDepth 100000 in
theorem ws_X3_isUp : Cond.selects RX3 yX3_isUp yX3_isUp ∈ k_tbl := k_in (List.mem_append_right _ (List.mem_of_getElem? (i := 359) (by decide +kernel))) (by decide +kernel)
theorem lkV_RX3_60 : k_lkV RX3 60 3 yX3_isUp cX3_isUp 1 (some .boolean) 0 := ⟨⟨wm_RX3_60, wi_RX3, wc_X3_isUp, by decide +kernel, by decide⟩, wn_X3_isUp, ws_X3_isUp, _, _, rfl⟩
set_option maxRecDepth 100000 in
theorem wm_RX3_93 : Cond.methodLink RX3 93 yX3_pass ∈ k_tbl := k_in (List.mem_append_right _ (List.mem_of_getElem? (i := 362) (by decide +kernel))) (by decide +kernel)
set_option maxRecDepth 100000 in
theorem wc_X3_pass : Cond.code yX3_pass cX3_pass 7 (some .int) ∈ k_tbl := k_in (List.mem_append_right _ (List.mem_of_getElem? (i := 365) (by decide +kernel))) (by decide +kernel)
set_option maxRecDepth 100000 in
theorem wn_X3_pass : Cond.instanceMethod yX3_pass ∈ k_tbl := k_in (List.mem_append_right _ (List.mem_of_getElem? (i := 363) (by decide +kernel))) (by decide +kernel)
set_option maxRecDepth 100000 in
theorem ws_X3_pass : Cond.selects RX3 yX3_pass yX3_pass ∈ k_tbl := k_in (List.mem_append_right _ (List.mem_of_getElem? (i := 364) (by decide +kernel))) (by decide +kernel)
theorem lkV_RX3_93 : k_lkV RX3 93 3 yX3_pass cX3_pass 7 (some .int) 1 := ⟨⟨wm_RX3_93, wi_RX3, wc_X3_pass, by decide +kernel, by decide⟩, wn_X3_pass, ws_X3_pass, _, _, rfl⟩
theorem flW_RX3_18 : k_flW RX3 18 3 1 .int := ⟨_, _, _, tyX3, rfl, kinX3, tyX3_ok, nmX3, by decide, wf_RX3_18, rfl, by decide +kernel⟩
theorem flW_RX3_22 : k_flW RX3 22 3 2 .int := ⟨_, _, _, tyX3, rfl, kinX3, tyX3_ok, nmX3, by decide, wf_RX3_22, rfl, by decide +kernel⟩
theorem flW_RX3_25 : k_flW RX3 25 3 3 .int := ⟨_, _, _, tyX3, rfl, kinX3, tyX3_ok, nmX3, by decide, wf_RX3_25, rfl, by decide +kernel⟩
theorem flW_RX3_37 : k_flW RX3 37 3 7 .int := ⟨_, _, _, tyX3, rfl, kinX3, tyX3_ok, nmX3, by decide, wf_RX3_37, rfl, by decide +kernel⟩
set_option maxRecDepth 100000 in
theorem wm_RX3_40 : Cond.methodLink RX3 40 yX0_become ∈ k_tbl := k_in (List.mem_append_right _ (List.mem_of_getElem? (i := 290) (by decide +kernel))) (by decide +kernel)
set_option maxRecDepth 100000 in
theorem wc_X0_become : Cond.code yX0_become cX0_become 2 none ∈ k_tbl := k_in (List.mem_append_right _ (List.mem_of_getElem? (i := 293) (by decide +kernel))) (by decide +kernel)
set_option maxRecDepth 100000 in
theorem wn_X0_become : Cond.instanceMethod yX0_become ∈ k_tbl := k_in (List.mem_append_right _ (List.mem_of_getElem? (i := 291) (by decide +kernel))) (by decide +kernel)
set_option maxRecDepth 100000 in
theorem ws_X0_become : Cond.selects RX0 yX0_become yX0_become ∈ k_tbl := k_in (List.mem_append_right _ (List.mem_of_getElem? (i := 292) (by decide +kernel))) (by decide +kernel)
theorem lkV_RX3_40 : k_lkV RX3 40 0 yX0_become cX0_become 2 none 1 := ⟨⟨wm_RX3_40, wi_RX0, wc_X0_become, by decide +kernel, by decide⟩, wn_X0_become, ws_X0_become, _, _, rfl⟩
set_option maxRecDepth 100000 in
theorem wm_RX3_80 : Cond.methodLink RX3 80 yX0_isOf ∈ k_tbl := k_in (List.mem_append_right _ (List.mem_of_getElem? (i := 623) (by decide +kernel))) (by decide +kernel)
theorem lkV_RX3_80 : k_lkV RX3 80 0 yX0_isOf cX0_isOf 2 (some .boolean) 1 := ⟨⟨wm_RX3_80, wi_RX0, wc_X0_isOf, by decide +kernel, by decide⟩, wn_X0_isOf, ws_X0_isOf, _, _, rfl⟩
set_option maxRecDepth 100000 in
theorem wf_RX3_97 : Cond.fieldLink RX3 97 (TX0 1).1 (TX0 1).2.1 (TX0 1).2.2.1 ∈ k_tbl := k_in (List.mem_append_right _ (List.mem_of_getElem? (i := 39) (by decide +kernel))) (by decide +kernel)
theorem flW_RX3_97 : k_flW RX3 97 0 1 .int := ⟨_, _, _, tyX0, rfl, kinX0, tyX0_ok, nmX0, by decide, wf_RX3_97, rfl, by decide +kernel⟩
set_option maxRecDepth 100000 in
theorem wm_RX3_100 : Cond.methodLink RX3 100 yX0_renew ∈ k_tbl := k_in (List.mem_append_right _ (List.mem_of_getElem? (i := 401) (by decide +kernel))) (by decide +kernel)
theorem lkV_RX3_100 : k_lkV RX3 100 0 yX0_renew cX0_renew 1 none 0 := ⟨⟨wm_RX3_100, wi_RX0, wc_X0_renew, by decide +kernel, by decide⟩, wn_X0_renew, ws_X0_renew, _, _, rfl⟩
set_option maxRecDepth 100000 in
theorem wm_RX3_77 : Cond.methodLink RX3 77 yX3_open ∈ k_tbl := k_in (List.mem_append_right _ (List.mem_of_getElem? (i := 474) (by decide +kernel))) (by decide +kernel)
set_option maxRecDepth 100000 in
theorem wc_X3_open : Cond.code yX3_open cX3_open 3 (some .int) ∈ k_tbl := k_in (List.mem_append_right _ (List.mem_of_getElem? (i := 477) (by decide +kernel))) (by decide +kernel)
set_option maxRecDepth 100000 in
theorem wn_X3_open : Cond.instanceMethod yX3_open ∈ k_tbl := k_in (List.mem_append_right _ (List.mem_of_getElem? (i := 475) (by decide +kernel))) (by decide +kernel)
set_option maxRecDepth 100000 in
theorem ws_X3_open : Cond.selects RX3 yX3_open yX3_open ∈ k_tbl := k_in (List.mem_append_right _ (List.mem_of_getElem? (i := 476) (by decide +kernel))) (by decide +kernel)
theorem lkV_RX3_77 : k_lkV RX3 77 3 yX3_open cX3_open 3 (some .int) 0 := ⟨⟨wm_RX3_77, wi_RX3, wc_X3_open, by decide +kernel, by decide⟩, wn_X3_open, ws_X3_open, _, _, rfl⟩
set_option maxRecDepth 100000 in
theorem wf_RX4_36 : Cond.fieldLink RX4 36 (TX4 6).1 (TX4 6).2.1 (TX4 6).2.2.1 ∈ k_tbl := k_in (List.mem_append_right _ (List.mem_of_getElem? (i := 146) (by decide +kernel))) (by decide +kernel)
theorem fl_RX4_36 : k_fl RX4 36 4 6 := ⟨_, _, _, rfl, kinX4, by decide, wf_RX4_36⟩
set_option maxRecDepth 100000 in
theorem wf_RX4_33 : Cond.fieldLink RX4 33 (TX4 5).1 (TX4 5).2.1 (TX4 5).2.2.1 ∈ k_tbl := k_in (List.mem_append_right _ (List.mem_of_getElem? (i := 145) (by decide +kernel))) (by decide +kernel)
theorem fl_RX4_33 : k_fl RX4 33 4 5 := ⟨_, _, _, rfl, kinX4, by decide, wf_RX4_33⟩
set_option maxRecDepth 100000 in
theorem wm_RX4_121 : Cond.methodLink RX4 121 yX3_become ∈ k_tbl := k_in (List.mem_append_right _ (List.mem_of_getElem? (i := 286) (by decide +kernel))) (by decide +kernel)
set_option maxRecDepth 100000 in
theorem wc_X3_become : Cond.code yX3_become cX3_become 3 none ∈ k_tbl := k_in (List.mem_append_right _ (List.mem_of_getElem? (i := 289) (by decide +kernel))) (by decide +kernel)
set_option maxRecDepth 100000 in
theorem wn_X3_become : Cond.instanceMethod yX3_become ∈ k_tbl := k_in (List.mem_append_right _ (List.mem_of_getElem? (i := 287) (by decide +kernel))) (by decide +kernel)
set_option maxRecDepth 100000 in
theorem ws_X3_become : Cond.selects RX3 yX3_become yX3_become ∈ k_tbl := k_in (List.mem_append_right _ (List.mem_of_getElem? (i := 288) (by decide +kernel))) (by decide +kernel)
theorem lkV_RX4_121 : k_lkV RX4 121 3 yX3_become cX3_become 3 none 1 := ⟨⟨wm_RX4_121, wi_RX3, wc_X3_become, by decide +kernel, by decide⟩, wn_X3_become, ws_X3_become, _, _, rfl⟩
set_option maxRecDepth 100000 in
theorem wm_RX4_206 : Cond.methodLink RX4 206 yX3_pass ∈ k_tbl := k_in (List.mem_append_right _ (List.mem_of_getElem? (i := 465) (by decide +kernel))) (by decide +kernel)
theorem lkV_RX4_206 : k_lkV RX4 206 3 yX3_pass cX3_pass 7 (some .int) 1 := ⟨⟨wm_RX4_206, wi_RX3, wc_X3_pass, by decide +kernel, by decide⟩, wn_X3_pass, ws_X3_pass, _, _, rfl⟩
set_option maxRecDepth 100000 in
theorem wm_RX4_203 : Cond.methodLink RX4 203 yX3_isUp ∈ k_tbl := k_in (List.mem_append_right _ (List.mem_of_getElem? (i := 464) (by decide +kernel))) (by decide +kernel)
theorem lkV_RX4_203 : k_lkV RX4 203 3 yX3_isUp cX3_isUp 1 (some .boolean) 0 := ⟨⟨wm_RX4_203, wi_RX3, wc_X3_isUp, by decide +kernel, by decide⟩, wn_X3_isUp, ws_X3_isUp, _, _, rfl⟩
set_option maxRecDepth 100000 in
theorem wf_RX4_50 : Cond.fieldLink RX4 50 (TX4 9).1 (TX4 9).2.1 (TX4 9).2.2.1 ∈ k_tbl := k_in (List.mem_append_right _ (List.mem_of_getElem? (i := 149) (by decide +kernel))) (by decide +kernel)
theorem fl_RX4_50 : k_fl RX4 50 4 9 := ⟨_, _, _, rfl, kinX4, by decide, wf_RX4_50⟩
set_option maxRecDepth 100000 in
theorem wf_RX4_61 : Cond.fieldLink RX4 61 (TX4 12).1 (TX4 12).2.1 (TX4 12).2.2.1 ∈ k_tbl := k_in (List.mem_append_right _ (List.mem_of_getElem? (i := 152) (by decide +kernel))) (by decide +kernel)
theorem flW_RX4_61 : k_flW RX4 61 4 12 .int := ⟨_, _, _, tyX4, rfl, kinX4, tyX4_ok, nmX4, by decide, wf_RX4_61, rfl, by decide +kernel⟩
set_option maxRecDepth 100000 in
theorem wf_RX4_64 : Cond.fieldLink RX4 64 (TX4 13).1 (TX4 13).2.1 (TX4 13).2.2.1 ∈ k_tbl := k_in (List.mem_append_right _ (List.mem_of_getElem? (i := 153) (by decide +kernel))) (by decide +kernel)
theorem fl_RX4_64 : k_fl RX4 64 4 13 := ⟨_, _, _, rfl, kinX4, by decide, wf_RX4_64⟩
set_option maxRecDepth 100000 in
theorem wm_RX4_89 : Cond.methodLink RX4 89 yX4_isRow ∈ k_tbl := k_in (List.mem_append_right _ (List.mem_of_getElem? (i := 196) (by decide +kernel))) (by decide +kernel)
set_option maxRecDepth 100000 in
theorem wc_X4_isRow : Cond.code yX4_isRow cX4_isRow 1 (some .boolean) ∈ k_tbl := k_in (List.mem_append_right _ (List.mem_of_getElem? (i := 198) (by decide +kernel))) (by decide +kernel)
set_option maxRecDepth 100000 in
theorem wi_RX4 : Cond.initialized RX4 ∈ k_tbl := k_in (List.mem_append_right _ (List.mem_of_getElem? (i := 1) (by decide +kernel))) (by decide +kernel)
set_option maxRecDepth 100000 in
theorem wt_X4_isRow : Cond.static yX4_isRow ∈ k_tbl := k_in (List.mem_append_right _ (List.mem_of_getElem? (i := 197) (by decide +kernel))) (by decide +kernel)
theorem lkS_RX4_89 : k_lkS RX4 89 yX4_isRow cX4_isRow 1 (some .boolean) 1 := ⟨⟨wm_RX4_89, wi_RX4, wc_X4_isRow, by decide +kernel, by decide⟩, wt_X4_isRow⟩
set_option maxRecDepth 100000 in
theorem wf_RX4_14 : Cond.fieldLink RX4 14 (TX4 1).1 (TX4 1).2.1 (TX4 1).2.2.1 ∈ k_tbl := k_in (List.mem_append_right _ (List.mem_of_getElem? (i := 141) (by decide +kernel))) (by decide +kernel)
theorem fl_RX4_14 : k_fl RX4 14 4 1 := ⟨_, _, _, rfl, kinX4, by decide, wf_RX4_14⟩
set_option maxRecDepth 100000 in
theorem wm_RX4_97 : Cond.methodLink RX4 97 yX4_findingOfPlace ∈ k_tbl := k_in (List.mem_append_right _ (List.mem_of_getElem? (i := 207) (by decide +kernel))) (by decide +kernel)
set_option maxRecDepth 100000 in
theorem wc_X4_findingOfPlace : Cond.code yX4_findingOfPlace cX4_findingOfPlace 2 (some .int) ∈ k_tbl := k_in (List.mem_append_right _ (List.mem_of_getElem? (i := 209) (by decide +kernel))) (by decide +kernel)
set_option maxRecDepth 100000 in
theorem wt_X4_findingOfPlace : Cond.static yX4_findingOfPlace ∈ k_tbl := k_in (List.mem_append_right _ (List.mem_of_getElem? (i := 208) (by decide +kernel))) (by decide +kernel)
theorem lkS_RX4_97 : k_lkS RX4 97 yX4_findingOfPlace cX4_findingOfPlace 2 (some .int) 2 := ⟨⟨wm_RX4_97, wi_RX4, wc_X4_findingOfPlace, by decide +kernel, by decide⟩, wt_X4_findingOfPlace⟩
set_option maxRecDepth 100000 in
theorem wf_RX4_11 : Cond.fieldLink RX4 11 (TX4 0).1 (TX4 0).2.1 (TX4 0).2.2.1 ∈ k_tbl := k_in (List.mem_append_right _ (List.mem_of_getElem? (i := 140) (by decide +kernel))) (by decide +kernel)
theorem fl_RX4_11 : k_fl RX4 11 4 0 := ⟨_, _, _, rfl, kinX4, by decide, wf_RX4_11⟩
theorem flW_RX4_50 : k_flW RX4 50 4 9 .int := ⟨_, _, _, tyX4, rfl, kinX4, tyX4_ok, nmX4, by decide, wf_RX4_50, rfl, by decide +kernel⟩
set_option maxRecDepth 100000 in
theorem wm_RX4_93 : Cond.methodLink RX4 93 yX4_found ∈ k_tbl := k_in (List.mem_append_right _ (List.mem_of_getElem? (i := 199) (by decide +kernel))) (by decide +kernel)
set_option maxRecDepth 100000 in
theorem wc_X4_found : Cond.code yX4_found cX4_found 2 (some .int) ∈ k_tbl := k_in (List.mem_append_right _ (List.mem_of_getElem? (i := 202) (by decide +kernel))) (by decide +kernel)
set_option maxRecDepth 100000 in
theorem wn_X4_found : Cond.instanceMethod yX4_found ∈ k_tbl := k_in (List.mem_append_right _ (List.mem_of_getElem? (i := 201) (by decide +kernel))) (by decide +kernel)
set_option maxRecDepth 100000 in
theorem ws_X4_found : Cond.selects RX4 yX4_found yX4_found ∈ k_tbl := k_in (List.mem_append_left _ (List.mem_of_getElem? (i := 0) (by decide +kernel))) (by decide +kernel)
theorem lkV_RX4_93 : k_lkV RX4 93 4 yX4_found cX4_found 2 (some .int) 1 := ⟨⟨wm_RX4_93, wi_RX4, wc_X4_found, by decide +kernel, by decide⟩, wn_X4_found, ws_X4_found, _, _, rfl⟩
set_option maxRecDepth 100000 in
theorem wf_RX4_125 : Cond.fieldLink RX4 125 (TX3 1).1 (TX3 1).2.1 (TX3 1).2.2.1 ∈ k_tbl := k_in (List.mem_append_right _ (List.mem_of_getElem? (i := 68) (by decide +kernel))) (by decide +kernel)
theorem fl_RX4_125 : k_fl RX4 125 3 1 := ⟨_, _, _, rfl, kinX3, by decide, wf_RX4_125⟩
set_option maxRecDepth 100000 in
theorem wf_RX4_70 : Cond.fieldLink RX4 70 (TX4 14).1 (TX4 14).2.1 (TX4 14).2.2.1 ∈ k_tbl := k_in (List.mem_append_right _ (List.mem_of_getElem? (i := 154) (by decide +kernel))) (by decide +kernel)
theorem fl_RX4_70 : k_fl RX4 70 4 14 := ⟨_, _, _, rfl, kinX4, by decide, wf_RX4_70⟩
set_option maxRecDepth 100000 in
theorem wm_RX4_213 : Cond.methodLink RX4 213 yX1_begin ∈ k_tbl := k_in (List.mem_append_right _ (List.mem_of_getElem? (i := 482) (by decide +kernel))) (by decide +kernel)
set_option maxRecDepth 100000 in
theorem wc_X1_begin : Cond.code yX1_begin cX1_begin 2 none ∈ k_tbl := k_in (List.mem_append_right _ (List.mem_of_getElem? (i := 485) (by decide +kernel))) (by decide +kernel)
set_option maxRecDepth 100000 in
theorem wi_RX1 : Cond.initialized RX1 ∈ k_tbl := k_in (List.mem_append_right _ (List.mem_of_getElem? (i := 5) (by decide +kernel))) (by decide +kernel)
set_option maxRecDepth 100000 in
theorem wn_X1_begin : Cond.instanceMethod yX1_begin ∈ k_tbl := k_in (List.mem_append_right _ (List.mem_of_getElem? (i := 483) (by decide +kernel))) (by decide +kernel)
set_option maxRecDepth 100000 in
theorem ws_X1_begin : Cond.selects RX1 yX1_begin yX1_begin ∈ k_tbl := k_in (List.mem_append_right _ (List.mem_of_getElem? (i := 484) (by decide +kernel))) (by decide +kernel)
theorem lkV_RX4_213 : k_lkV RX4 213 1 yX1_begin cX1_begin 2 none 1 := ⟨⟨wm_RX4_213, wi_RX1, wc_X1_begin, by decide +kernel, by decide⟩, wn_X1_begin, ws_X1_begin, _, _, rfl⟩
set_option maxRecDepth 100000 in
theorem wf_RX4_221 : Cond.fieldLink RX4 221 (TX1 0).1 (TX1 0).2.1 (TX1 0).2.2.1 ∈ k_tbl := k_in (List.mem_append_right _ (List.mem_of_getElem? (i := 129) (by decide +kernel))) (by decide +kernel)
theorem fl_RX4_221 : k_fl RX4 221 1 0 := ⟨_, _, _, rfl, kinX1, by decide, wf_RX4_221⟩
set_option maxRecDepth 100000 in
theorem wf_RX4_224 : Cond.fieldLink RX4 224 (TX1 1).1 (TX1 1).2.1 (TX1 1).2.2.1 ∈ k_tbl := k_in (List.mem_append_right _ (List.mem_of_getElem? (i := 131) (by decide +kernel))) (by decide +kernel)
theorem fl_RX4_224 : k_fl RX4 224 1 1 := ⟨_, _, _, rfl, kinX1, by decide, wf_RX4_224⟩
set_option maxRecDepth 100000 in
theorem wf_RX4_171 : Cond.fieldLink RX4 171 (TX3 2).1 (TX3 2).2.1 (TX3 2).2.2.1 ∈ k_tbl := k_in (List.mem_append_right _ (List.mem_of_getElem? (i := 70) (by decide +kernel))) (by decide +kernel)
theorem flW_RX4_171 : k_flW RX4 171 3 2 .int := ⟨_, _, _, tyX3, rfl, kinX3, tyX3_ok, nmX3, by decide, wf_RX4_171, rfl, by decide +kernel⟩
set_option maxRecDepth 100000 in
theorem wm_RX4_197 : Cond.methodLink RX4 197 yX3_answeredIn ∈ k_tbl := k_in (List.mem_append_right _ (List.mem_of_getElem? (i := 455) (by decide +kernel))) (by decide +kernel)
set_option maxRecDepth 100000 in
theorem wc_X3_answeredIn : Cond.code yX3_answeredIn cX3_answeredIn 4 (some .int) ∈ k_tbl := k_in (List.mem_append_right _ (List.mem_of_getElem? (i := 458) (by decide +kernel))) (by decide +kernel)
set_option maxRecDepth 100000 in
theorem wn_X3_answeredIn : Cond.instanceMethod yX3_answeredIn ∈ k_tbl := k_in (List.mem_append_right _ (List.mem_of_getElem? (i := 456) (by decide +kernel))) (by decide +kernel)
set_option maxRecDepth 100000 in
theorem ws_X3_answeredIn : Cond.selects RX3 yX3_answeredIn yX3_answeredIn ∈ k_tbl := k_in (List.mem_append_right _ (List.mem_of_getElem? (i := 457) (by decide +kernel))) (by decide +kernel)
theorem lkV_RX4_197 : k_lkV RX4 197 3 yX3_answeredIn cX3_answeredIn 4 (some .int) 1 := ⟨⟨wm_RX4_197, wi_RX3, wc_X3_answeredIn, by decide +kernel, by decide⟩, wn_X3_answeredIn, ws_X3_answeredIn, _, _, rfl⟩
set_option maxRecDepth 100000 in
theorem wm_RX4_217 : Cond.methodLink RX4 217 yX1_offer ∈ k_tbl := k_in (List.mem_append_right _ (List.mem_of_getElem? (i := 486) (by decide +kernel))) (by decide +kernel)
set_option maxRecDepth 100000 in
theorem wc_X1_offer : Cond.code yX1_offer cX1_offer 3 none ∈ k_tbl := k_in (List.mem_append_right _ (List.mem_of_getElem? (i := 489) (by decide +kernel))) (by decide +kernel)
set_option maxRecDepth 100000 in
theorem wn_X1_offer : Cond.instanceMethod yX1_offer ∈ k_tbl := k_in (List.mem_append_right _ (List.mem_of_getElem? (i := 487) (by decide +kernel))) (by decide +kernel)
set_option maxRecDepth 100000 in
theorem ws_X1_offer : Cond.selects RX1 yX1_offer yX1_offer ∈ k_tbl := k_in (List.mem_append_right _ (List.mem_of_getElem? (i := 488) (by decide +kernel))) (by decide +kernel)
theorem lkV_RX4_217 : k_lkV RX4 217 1 yX1_offer cX1_offer 3 none 2 := ⟨⟨wm_RX4_217, wi_RX1, wc_X1_offer, by decide +kernel, by decide⟩, wn_X1_offer, ws_X1_offer, _, _, rfl⟩
set_option maxRecDepth 100000 in
theorem wm_RX4_126 : Cond.methodLink RX4 126 yX4_isCaller ∈ k_tbl := k_in (List.mem_append_right _ (List.mem_of_getElem? (i := 298) (by decide +kernel))) (by decide +kernel)
set_option maxRecDepth 100000 in
theorem wc_X4_isCaller : Cond.code yX4_isCaller cX4_isCaller 2 (some .boolean) ∈ k_tbl := k_in (List.mem_append_right _ (List.mem_of_getElem? (i := 301) (by decide +kernel))) (by decide +kernel)
set_option maxRecDepth 100000 in
theorem wn_X4_isCaller : Cond.instanceMethod yX4_isCaller ∈ k_tbl := k_in (List.mem_append_right _ (List.mem_of_getElem? (i := 300) (by decide +kernel))) (by decide +kernel)
set_option maxRecDepth 100000 in
theorem ws_X4_isCaller : Cond.selects RX4 yX4_isCaller yX4_isCaller ∈ k_tbl := k_in (List.mem_append_left _ (List.mem_of_getElem? (i := 1) (by decide +kernel))) (by decide +kernel)
theorem lkV_RX4_126 : k_lkV RX4 126 4 yX4_isCaller cX4_isCaller 2 (some .boolean) 1 := ⟨⟨wm_RX4_126, wi_RX4, wc_X4_isCaller, by decide +kernel, by decide⟩, wn_X4_isCaller, ws_X4_isCaller, _, _, rfl⟩
set_option maxRecDepth 100000 in
theorem wf_RX4_129 : Cond.fieldLink RX4 129 (TX3 0).1 (TX3 0).2.1 (TX3 0).2.2.1 ∈ k_tbl := k_in (List.mem_append_right _ (List.mem_of_getElem? (i := 66) (by decide +kernel))) (by decide +kernel)
theorem fl_RX4_129 : k_fl RX4 129 3 0 := ⟨_, _, _, rfl, kinX3, by decide, wf_RX4_129⟩
set_option maxRecDepth 100000 in
theorem wm_RX4_133 : Cond.methodLink RX4 133 yX0_tell ∈ k_tbl := k_in (List.mem_append_right _ (List.mem_of_getElem? (i := 302) (by decide +kernel))) (by decide +kernel)
set_option maxRecDepth 100000 in
theorem wc_X0_tell : Cond.code yX0_tell cX0_tell 2 (some .int) ∈ k_tbl := k_in (List.mem_append_right _ (List.mem_of_getElem? (i := 305) (by decide +kernel))) (by decide +kernel)
set_option maxRecDepth 100000 in
theorem wn_X0_tell : Cond.instanceMethod yX0_tell ∈ k_tbl := k_in (List.mem_append_right _ (List.mem_of_getElem? (i := 303) (by decide +kernel))) (by decide +kernel)
set_option maxRecDepth 100000 in
theorem ws_X0_tell : Cond.selects RX0 yX0_tell yX0_tell ∈ k_tbl := k_in (List.mem_append_right _ (List.mem_of_getElem? (i := 304) (by decide +kernel))) (by decide +kernel)
theorem lkV_RX4_133 : k_lkV RX4 133 0 yX0_tell cX0_tell 2 (some .int) 1 := ⟨⟨wm_RX4_133, wi_RX0, wc_X0_tell, by decide +kernel, by decide⟩, wn_X0_tell, ws_X0_tell, _, _, rfl⟩
set_option maxRecDepth 100000 in
theorem wm_RX4_189 : Cond.methodLink RX4 189 yX3_wouldAnswer ∈ k_tbl := k_in (List.mem_append_right _ (List.mem_of_getElem? (i := 446) (by decide +kernel))) (by decide +kernel)
set_option maxRecDepth 100000 in
theorem wc_X3_wouldAnswer : Cond.code yX3_wouldAnswer cX3_wouldAnswer 1 (some .boolean) ∈ k_tbl := k_in (List.mem_append_right _ (List.mem_of_getElem? (i := 449) (by decide +kernel))) (by decide +kernel)
set_option maxRecDepth 100000 in
theorem wn_X3_wouldAnswer : Cond.instanceMethod yX3_wouldAnswer ∈ k_tbl := k_in (List.mem_append_right _ (List.mem_of_getElem? (i := 447) (by decide +kernel))) (by decide +kernel)
set_option maxRecDepth 100000 in
theorem ws_X3_wouldAnswer : Cond.selects RX3 yX3_wouldAnswer yX3_wouldAnswer ∈ k_tbl := k_in (List.mem_append_right _ (List.mem_of_getElem? (i := 448) (by decide +kernel))) (by decide +kernel)
theorem lkV_RX4_189 : k_lkV RX4 189 3 yX3_wouldAnswer cX3_wouldAnswer 1 (some .boolean) 0 := ⟨⟨wm_RX4_189, wi_RX3, wc_X3_wouldAnswer, by decide +kernel, by decide⟩, wn_X3_wouldAnswer, ws_X3_wouldAnswer, _, _, rfl⟩
set_option maxRecDepth 100000 in
theorem wm_RX4_193 : Cond.methodLink RX4 193 yX3_calling ∈ k_tbl := k_in (List.mem_append_right _ (List.mem_of_getElem? (i := 450) (by decide +kernel))) (by decide +kernel)
theorem lkV_RX4_193 : k_lkV RX4 193 3 yX3_calling cX3_calling 3 (some .int) 0 := ⟨⟨wm_RX4_193, wi_RX3, wc_X3_calling, by decide +kernel, by decide⟩, wn_X3_calling, ws_X3_calling, _, _, rfl⟩
set_option maxRecDepth 100000 in
theorem wm_RX4_322 : Cond.methodLink RX4 322 yJ9_max_f86c9 ∈ k_tbl := k_in (List.mem_append_right _ (List.mem_of_getElem? (i := 574) (by decide +kernel))) (by decide +kernel)
set_option maxRecDepth 100000 in
theorem wc_J9_max_f86c9 : Cond.code yJ9_max_f86c9 cJ9_max_f86c9 4 (some .long) ∈ k_tbl := k_in (List.mem_append_right _ (List.mem_of_getElem? (i := 576) (by decide +kernel))) (by decide +kernel)
set_option maxRecDepth 100000 in
theorem wt_J9_max_f86c9 : Cond.static yJ9_max_f86c9 ∈ k_tbl := k_in (List.mem_append_right _ (List.mem_of_getElem? (i := 575) (by decide +kernel))) (by decide +kernel)
theorem lkS_RX4_322 : k_lkS RX4 322 yJ9_max_f86c9 cJ9_max_f86c9 4 (some .long) 2 := ⟨⟨wm_RX4_322, wi_RJ9, wc_J9_max_f86c9, by decide +kernel, by decide⟩, wt_J9_max_f86c9⟩
set_option maxRecDepth 100000 in
theorem wm_RX4_101 : Cond.methodLink RX4 101 yX4_hasPlaces ∈ k_tbl := k_in (List.mem_append_right _ (List.mem_of_getElem? (i := 222) (by decide +kernel))) (by decide +kernel)
set_option maxRecDepth 100000 in
theorem wc_X4_hasPlaces : Cond.code yX4_hasPlaces cX4_hasPlaces 3 (some .boolean) ∈ k_tbl := k_in (List.mem_append_right _ (List.mem_of_getElem? (i := 224) (by decide +kernel))) (by decide +kernel)
set_option maxRecDepth 100000 in
theorem wt_X4_hasPlaces : Cond.static yX4_hasPlaces ∈ k_tbl := k_in (List.mem_append_right _ (List.mem_of_getElem? (i := 223) (by decide +kernel))) (by decide +kernel)
theorem lkS_RX4_101 : k_lkS RX4 101 yX4_hasPlaces cX4_hasPlaces 3 (some .boolean) 3 := ⟨⟨wm_RX4_101, wi_RX4, wc_X4_hasPlaces, by decide +kernel, by decide⟩, wt_X4_hasPlaces⟩
set_option maxRecDepth 100000 in
theorem wacp : Cond.methodLink RX4 105 arraycopyName ∈ k_tbl ∧ Cond.native arraycopyName ∈ k_tbl ∧ Cond.static arraycopyName ∈ k_tbl ∧ Cond.initialized "java/lang/System" ∈ k_tbl := ⟨k_in (List.mem_append_right _ (List.mem_of_getElem? (i := 225) (by decide +kernel))) (by decide +kernel), k_in (List.mem_append_right _ (List.mem_of_getElem? (i := 227) (by decide +kernel))) (by decide +kernel), k_in (List.mem_append_right _ (List.mem_of_getElem? (i := 226) (by decide +kernel))) (by decide +kernel), k_in (List.mem_append_right _ (List.mem_of_getElem? (i := 8) (by decide +kernel))) (by decide +kernel)⟩
set_option maxRecDepth 100000 in
theorem wf_RX4_46 : Cond.fieldLink RX4 46 (TX4 8).1 (TX4 8).2.1 (TX4 8).2.2.1 ∈ k_tbl := k_in (List.mem_append_right _ (List.mem_of_getElem? (i := 148) (by decide +kernel))) (by decide +kernel)
theorem fl_RX4_46 : k_fl RX4 46 4 8 := ⟨_, _, _, rfl, kinX4, by decide, wf_RX4_46⟩
set_option maxRecDepth 100000 in
theorem wf_RX4_86 : Cond.fieldLink RX4 86 (TX2 3).1 (TX2 3).2.1 (TX2 3).2.2.1 ∈ k_tbl := k_in (List.mem_append_right _ (List.mem_of_getElem? (i := 110) (by decide +kernel))) (by decide +kernel)
theorem fl_RX4_86 : k_fl RX4 86 2 3 := ⟨_, _, _, rfl, kinX2, by decide, wf_RX4_86⟩
set_option maxRecDepth 100000 in
theorem wf_RX4_141 : Cond.fieldLink RX4 141 (TX3 4).1 (TX3 4).2.1 (TX3 4).2.2.1 ∈ k_tbl := k_in (List.mem_append_right _ (List.mem_of_getElem? (i := 74) (by decide +kernel))) (by decide +kernel)
theorem fl_RX4_141 : k_fl RX4 141 3 4 := ⟨_, _, _, rfl, kinX3, by decide, wf_RX4_141⟩
set_option maxRecDepth 100000 in
theorem wf_RX4_42 : Cond.fieldLink RX4 42 (TX4 7).1 (TX4 7).2.1 (TX4 7).2.2.1 ∈ k_tbl := k_in (List.mem_append_right _ (List.mem_of_getElem? (i := 147) (by decide +kernel))) (by decide +kernel)
theorem fl_RX4_42 : k_fl RX4 42 4 7 := ⟨_, _, _, rfl, kinX4, by decide, wf_RX4_42⟩
set_option maxRecDepth 100000 in
theorem wf_RX4_153 : Cond.fieldLink RX4 153 (TX3 5).1 (TX3 5).2.1 (TX3 5).2.2.1 ∈ k_tbl := k_in (List.mem_append_right _ (List.mem_of_getElem? (i := 76) (by decide +kernel))) (by decide +kernel)
theorem fl_RX4_153 : k_fl RX4 153 3 5 := ⟨_, _, _, rfl, kinX3, by decide, wf_RX4_153⟩
set_option maxRecDepth 100000 in
theorem wf_RX4_324 : Cond.fieldLink RX4 324 (TX3 6).1 (TX3 6).2.1 (TX3 6).2.2.1 ∈ k_tbl := k_in (List.mem_append_right _ (List.mem_of_getElem? (i := 78) (by decide +kernel))) (by decide +kernel)
theorem fl_RX4_324 : k_fl RX4 324 3 6 := ⟨_, _, _, rfl, kinX3, by decide, wf_RX4_324⟩
set_option maxRecDepth 100000 in
theorem wf_RX4_160 : Cond.fieldLink RX4 160 (TX3 3).1 (TX3 3).2.1 (TX3 3).2.2.1 ∈ k_tbl := k_in (List.mem_append_right _ (List.mem_of_getElem? (i := 72) (by decide +kernel))) (by decide +kernel)
theorem fl_RX4_160 : k_fl RX4 160 3 3 := ⟨_, _, _, rfl, kinX3, by decide, wf_RX4_160⟩
theorem fl_RX4_171 : k_fl RX4 171 3 2 := ⟨_, _, _, rfl, kinX3, by decide, wf_RX4_171⟩
set_option maxRecDepth 100000 in
theorem wm_RX4_327 : Cond.methodLink RX4 327 yX3_open ∈ k_tbl := k_in (List.mem_append_right _ (List.mem_of_getElem? (i := 611) (by decide +kernel))) (by decide +kernel)
theorem lkV_RX4_327 : k_lkV RX4 327 3 yX3_open cX3_open 3 (some .int) 0 := ⟨⟨wm_RX4_327, wi_RX3, wc_X3_open, by decide +kernel, by decide⟩, wn_X3_open, ws_X3_open, _, _, rfl⟩
set_option maxRecDepth 100000 in
theorem wm_RX4_330 : Cond.methodLink RX4 330 yX4_thereOf ∈ k_tbl := k_in (List.mem_append_right _ (List.mem_of_getElem? (i := 612) (by decide +kernel))) (by decide +kernel)
set_option maxRecDepth 100000 in
theorem wc_X4_thereOf : Cond.code yX4_thereOf cX4_thereOf 6 (some .int) ∈ k_tbl := k_in (List.mem_append_right _ (List.mem_of_getElem? (i := 614) (by decide +kernel))) (by decide +kernel)
set_option maxRecDepth 100000 in
theorem wt_X4_thereOf : Cond.static yX4_thereOf ∈ k_tbl := k_in (List.mem_append_right _ (List.mem_of_getElem? (i := 613) (by decide +kernel))) (by decide +kernel)
theorem lkS_RX4_330 : k_lkS RX4 330 yX4_thereOf cX4_thereOf 6 (some .int) 1 := ⟨⟨wm_RX4_330, wi_RX4, wc_X4_thereOf, by decide +kernel, by decide⟩, wt_X4_thereOf⟩
set_option maxRecDepth 100000 in
theorem wf_RX4_23 : Cond.fieldLink RX4 23 (TX4 3).1 (TX4 3).2.1 (TX4 3).2.2.1 ∈ k_tbl := k_in (List.mem_append_right _ (List.mem_of_getElem? (i := 143) (by decide +kernel))) (by decide +kernel)
theorem fl_RX4_23 : k_fl RX4 23 4 3 := ⟨_, _, _, rfl, kinX4, by decide, wf_RX4_23⟩
set_option maxRecDepth 100000 in
theorem wm_RX4_334 : Cond.methodLink RX4 334 yX4_keptHouses ∈ k_tbl := k_in (List.mem_append_right _ (List.mem_of_getElem? (i := 615) (by decide +kernel))) (by decide +kernel)
set_option maxRecDepth 100000 in
theorem wc_X4_keptHouses : Cond.code yX4_keptHouses cX4_keptHouses 3 (some .int) ∈ k_tbl := k_in (List.mem_append_right _ (List.mem_of_getElem? (i := 618) (by decide +kernel))) (by decide +kernel)
set_option maxRecDepth 100000 in
theorem wn_X4_keptHouses : Cond.instanceMethod yX4_keptHouses ∈ k_tbl := k_in (List.mem_append_right _ (List.mem_of_getElem? (i := 617) (by decide +kernel))) (by decide +kernel)
set_option maxRecDepth 100000 in
theorem ws_X4_keptHouses : Cond.selects RX4 yX4_keptHouses yX4_keptHouses ∈ k_tbl := k_in (List.mem_append_left _ (List.mem_of_getElem? (i := 19) (by decide +kernel))) (by decide +kernel)
theorem lkV_RX4_334 : k_lkV RX4 334 4 yX4_keptHouses cX4_keptHouses 3 (some .int) 0 := ⟨⟨wm_RX4_334, wi_RX4, wc_X4_keptHouses, by decide +kernel, by decide⟩, wn_X4_keptHouses, ws_X4_keptHouses, _, _, rfl⟩
set_option maxRecDepth 100000 in
theorem wm_RX4_337 : Cond.methodLink RX4 337 yX3_callersOf ∈ k_tbl := k_in (List.mem_append_right _ (List.mem_of_getElem? (i := 619) (by decide +kernel))) (by decide +kernel)
set_option maxRecDepth 100000 in
theorem wc_X3_callersOf : Cond.code yX3_callersOf cX3_callersOf 4 (some .int) ∈ k_tbl := k_in (List.mem_append_right _ (List.mem_of_getElem? (i := 622) (by decide +kernel))) (by decide +kernel)
set_option maxRecDepth 100000 in
theorem wn_X3_callersOf : Cond.instanceMethod yX3_callersOf ∈ k_tbl := k_in (List.mem_append_right _ (List.mem_of_getElem? (i := 620) (by decide +kernel))) (by decide +kernel)
set_option maxRecDepth 100000 in
theorem ws_X3_callersOf : Cond.selects RX3 yX3_callersOf yX3_callersOf ∈ k_tbl := k_in (List.mem_append_right _ (List.mem_of_getElem? (i := 621) (by decide +kernel))) (by decide +kernel)
theorem lkV_RX4_337 : k_lkV RX4 337 3 yX3_callersOf cX3_callersOf 4 (some .int) 1 := ⟨⟨wm_RX4_337, wi_RX3, wc_X3_callersOf, by decide +kernel, by decide⟩, wn_X3_callersOf, ws_X3_callersOf, _, _, rfl⟩
set_option maxRecDepth 100000 in
theorem wm_RX4_270 : Cond.methodLink RX4 270 yX4_countOf ∈ k_tbl := k_in (List.mem_append_right _ (List.mem_of_getElem? (i := 607) (by decide +kernel))) (by decide +kernel)
set_option maxRecDepth 100000 in
theorem wc_X4_countOf : Cond.code yX4_countOf cX4_countOf 2 (some .int) ∈ k_tbl := k_in (List.mem_append_right _ (List.mem_of_getElem? (i := 610) (by decide +kernel))) (by decide +kernel)
set_option maxRecDepth 100000 in
theorem wn_X4_countOf : Cond.instanceMethod yX4_countOf ∈ k_tbl := k_in (List.mem_append_right _ (List.mem_of_getElem? (i := 609) (by decide +kernel))) (by decide +kernel)
set_option maxRecDepth 100000 in
theorem ws_X4_countOf : Cond.selects RX4 yX4_countOf yX4_countOf ∈ k_tbl := k_in (List.mem_append_left _ (List.mem_of_getElem? (i := 18) (by decide +kernel))) (by decide +kernel)
theorem lkV_RX4_270 : k_lkV RX4 270 4 yX4_countOf cX4_countOf 2 (some .int) 1 := ⟨⟨wm_RX4_270, wi_RX4, wc_X4_countOf, by decide +kernel, by decide⟩, wn_X4_countOf, ws_X4_countOf, _, _, rfl⟩
set_option maxRecDepth 100000 in
theorem wf_RX4_77 : Cond.fieldLink RX4 77 (TX4 16).1 (TX4 16).2.1 (TX4 16).2.2.1 ∈ k_tbl := k_in (List.mem_append_right _ (List.mem_of_getElem? (i := 156) (by decide +kernel))) (by decide +kernel)
theorem fl_RX4_77 : k_fl RX4 77 4 16 := ⟨_, _, _, rfl, kinX4, by decide, wf_RX4_77⟩
set_option maxRecDepth 100000 in
theorem wm_RX4_80 : Cond.methodLink RX4 80 yJ7_fill_53178 ∈ k_tbl := k_in (List.mem_append_right _ (List.mem_of_getElem? (i := 137) (by decide +kernel))) (by decide +kernel)
set_option maxRecDepth 100000 in
theorem wc_J7_fill_53178 : Cond.code yJ7_fill_53178 cJ7_fill_53178 4 none ∈ k_tbl := k_in (List.mem_append_right _ (List.mem_of_getElem? (i := 139) (by decide +kernel))) (by decide +kernel)
set_option maxRecDepth 100000 in
theorem wi_RJ7 : Cond.initialized RJ7 ∈ k_tbl := k_in (List.mem_append_right _ (List.mem_of_getElem? (i := 6) (by decide +kernel))) (by decide +kernel)
set_option maxRecDepth 100000 in
theorem wt_J7_fill_53178 : Cond.static yJ7_fill_53178 ∈ k_tbl := k_in (List.mem_append_right _ (List.mem_of_getElem? (i := 138) (by decide +kernel))) (by decide +kernel)
theorem lkS_RX4_80 : k_lkS RX4 80 yJ7_fill_53178 cJ7_fill_53178 4 none 2 := ⟨⟨wm_RX4_80, wi_RJ7, wc_J7_fill_53178, by decide +kernel, by decide⟩, wt_J7_fill_53178⟩
set_option maxRecDepth 100000 in
theorem wf_RX4_302 : Cond.fieldLink RX4 302 (TX0 0).1 (TX0 0).2.1 (TX0 0).2.2.1 ∈ k_tbl := k_in (List.mem_append_right _ (List.mem_of_getElem? (i := 37) (by decide +kernel))) (by decide +kernel)
theorem flW_RX4_302 : k_flW RX4 302 0 0 .int := ⟨_, _, _, tyX0, rfl, kinX0, tyX0_ok, nmX0, by decide, wf_RX4_302, rfl, by decide +kernel⟩
set_option maxRecDepth 100000 in
theorem wf_RX4_177 : Cond.fieldLink RX4 177 (TX0 3).1 (TX0 3).2.1 (TX0 3).2.2.1 ∈ k_tbl := k_in (List.mem_append_right _ (List.mem_of_getElem? (i := 44) (by decide +kernel))) (by decide +kernel)
theorem fl_RX4_177 : k_fl RX4 177 0 3 := ⟨_, _, _, rfl, kinX0, by decide, wf_RX4_177⟩
set_option maxRecDepth 100000 in
theorem cn_RX4_275 : Cond.constantLong RX4 275 (31) ∈ k_tbl := k_in (List.mem_append_right _ (List.mem_of_getElem? (i := 637) (by decide +kernel))) (by decide +kernel)
set_option maxRecDepth 100000 in
theorem wf_RX4_20 : Cond.fieldLink RX4 20 (TX4 2).1 (TX4 2).2.1 (TX4 2).2.2.1 ∈ k_tbl := k_in (List.mem_append_right _ (List.mem_of_getElem? (i := 142) (by decide +kernel))) (by decide +kernel)
theorem fl_RX4_20 : k_fl RX4 20 4 2 := ⟨_, _, _, rfl, kinX4, by decide, wf_RX4_20⟩
set_option maxRecDepth 100000 in
theorem cn_RX4_273 : Cond.constantLong RX4 273 (17) ∈ k_tbl := k_in (List.mem_append_right _ (List.mem_of_getElem? (i := 636) (by decide +kernel))) (by decide +kernel)
set_option maxRecDepth 100000 in
theorem wm_RX4_277 : Cond.methodLink RX4 277 yX4_digestRows ∈ k_tbl := k_in (List.mem_append_right _ (List.mem_of_getElem? (i := 638) (by decide +kernel))) (by decide +kernel)
set_option maxRecDepth 100000 in
theorem wc_X4_digestRows : Cond.code yX4_digestRows cX4_digestRows 7 (some .long) ∈ k_tbl := k_in (List.mem_append_right _ (List.mem_of_getElem? (i := 641) (by decide +kernel))) (by decide +kernel)
set_option maxRecDepth 100000 in
theorem wn_X4_digestRows : Cond.instanceMethod yX4_digestRows ∈ k_tbl := k_in (List.mem_append_right _ (List.mem_of_getElem? (i := 640) (by decide +kernel))) (by decide +kernel)
set_option maxRecDepth 100000 in
theorem ws_X4_digestRows : Cond.selects RX4 yX4_digestRows yX4_digestRows ∈ k_tbl := k_in (List.mem_append_left _ (List.mem_of_getElem? (i := 20) (by decide +kernel))) (by decide +kernel)
theorem lkV_RX4_277 : k_lkV RX4 277 4 yX4_digestRows cX4_digestRows 7 (some .long) 1 := ⟨⟨wm_RX4_277, wi_RX4, wc_X4_digestRows, by decide +kernel, by decide⟩, wn_X4_digestRows, ws_X4_digestRows, _, _, rfl⟩
set_option maxRecDepth 100000 in
theorem wm_RX4_281 : Cond.methodLink RX4 281 yX4_digestTexts ∈ k_tbl := k_in (List.mem_append_right _ (List.mem_of_getElem? (i := 642) (by decide +kernel))) (by decide +kernel)
set_option maxRecDepth 100000 in
theorem wc_X4_digestTexts : Cond.code yX4_digestTexts cX4_digestTexts 7 (some .long) ∈ k_tbl := k_in (List.mem_append_right _ (List.mem_of_getElem? (i := 645) (by decide +kernel))) (by decide +kernel)
set_option maxRecDepth 100000 in
theorem wn_X4_digestTexts : Cond.instanceMethod yX4_digestTexts ∈ k_tbl := k_in (List.mem_append_right _ (List.mem_of_getElem? (i := 644) (by decide +kernel))) (by decide +kernel)
set_option maxRecDepth 100000 in
theorem ws_X4_digestTexts : Cond.selects RX4 yX4_digestTexts yX4_digestTexts ∈ k_tbl := k_in (List.mem_append_left _ (List.mem_of_getElem? (i := 21) (by decide +kernel))) (by decide +kernel)
theorem lkV_RX4_281 : k_lkV RX4 281 4 yX4_digestTexts cX4_digestTexts 7 (some .long) 1 := ⟨⟨wm_RX4_281, wi_RX4, wc_X4_digestTexts, by decide +kernel, by decide⟩, wn_X4_digestTexts, ws_X4_digestTexts, _, _, rfl⟩
set_option maxRecDepth 100000 in
theorem wf_RX4_29 : Cond.fieldLink RX4 29 (TX4 4).1 (TX4 4).2.1 (TX4 4).2.2.1 ∈ k_tbl := k_in (List.mem_append_right _ (List.mem_of_getElem? (i := 144) (by decide +kernel))) (by decide +kernel)
theorem fl_RX4_29 : k_fl RX4 29 4 4 := ⟨_, _, _, rfl, kinX4, by decide, wf_RX4_29⟩
set_option maxRecDepth 100000 in
theorem wf_RX4_290 : Cond.fieldLink RX4 290 (TX2 0).1 (TX2 0).2.1 (TX2 0).2.2.1 ∈ k_tbl := k_in (List.mem_append_right _ (List.mem_of_getElem? (i := 105) (by decide +kernel))) (by decide +kernel)
theorem fl_RX4_290 : k_fl RX4 290 2 0 := ⟨_, _, _, rfl, kinX2, by decide, wf_RX4_290⟩
set_option maxRecDepth 100000 in
theorem wf_RX4_293 : Cond.fieldLink RX4 293 (TX2 1).1 (TX2 1).2.1 (TX2 1).2.2.1 ∈ k_tbl := k_in (List.mem_append_right _ (List.mem_of_getElem? (i := 107) (by decide +kernel))) (by decide +kernel)
theorem fl_RX4_293 : k_fl RX4 293 2 1 := ⟨_, _, _, rfl, kinX2, by decide, wf_RX4_293⟩
set_option maxRecDepth 100000 in
theorem wf_RX4_296 : Cond.fieldLink RX4 296 (TX2 2).1 (TX2 2).2.1 (TX2 2).2.2.1 ∈ k_tbl := k_in (List.mem_append_right _ (List.mem_of_getElem? (i := 109) (by decide +kernel))) (by decide +kernel)
theorem fl_RX4_296 : k_fl RX4 296 2 2 := ⟨_, _, _, rfl, kinX2, by decide, wf_RX4_296⟩
set_option maxRecDepth 100000 in
theorem wm_RX4_287 : Cond.methodLink RX4 287 yX3_carryOut ∈ k_tbl := k_in (List.mem_append_right _ (List.mem_of_getElem? (i := 353) (by decide +kernel))) (by decide +kernel)
set_option maxRecDepth 100000 in
theorem wc_X3_carryOut : Cond.code yX3_carryOut cX3_carryOut 4 none ∈ k_tbl := k_in (List.mem_append_right _ (List.mem_of_getElem? (i := 356) (by decide +kernel))) (by decide +kernel)
set_option maxRecDepth 100000 in
theorem wn_X3_carryOut : Cond.instanceMethod yX3_carryOut ∈ k_tbl := k_in (List.mem_append_right _ (List.mem_of_getElem? (i := 354) (by decide +kernel))) (by decide +kernel)
set_option maxRecDepth 100000 in
theorem ws_X3_carryOut : Cond.selects RX3 yX3_carryOut yX3_carryOut ∈ k_tbl := k_in (List.mem_append_right _ (List.mem_of_getElem? (i := 355) (by decide +kernel))) (by decide +kernel)
theorem lkV_RX4_287 : k_lkV RX4 287 3 yX3_carryOut cX3_carryOut 4 none 3 := ⟨⟨wm_RX4_287, wi_RX3, wc_X3_carryOut, by decide +kernel, by decide⟩, wn_X3_carryOut, ws_X3_carryOut, _, _, rfl⟩
set_option maxRecDepth 100000 in
theorem wm_RX4_284 : Cond.methodLink RX4 284 yX2_add ∈ k_tbl := k_in (List.mem_append_right _ (List.mem_of_getElem? (i := 349) (by decide +kernel))) (by decide +kernel)
set_option maxRecDepth 100000 in
theorem wc_X2_add : Cond.code yX2_add cX2_add 4 none ∈ k_tbl := k_in (List.mem_append_right _ (List.mem_of_getElem? (i := 352) (by decide +kernel))) (by decide +kernel)
set_option maxRecDepth 100000 in
theorem wi_RX2 : Cond.initialized RX2 ∈ k_tbl := k_in (List.mem_append_right _ (List.mem_of_getElem? (i := 4) (by decide +kernel))) (by decide +kernel)
set_option maxRecDepth 100000 in
theorem wn_X2_add : Cond.instanceMethod yX2_add ∈ k_tbl := k_in (List.mem_append_right _ (List.mem_of_getElem? (i := 350) (by decide +kernel))) (by decide +kernel)
set_option maxRecDepth 100000 in
theorem ws_X2_add : Cond.selects RX2 yX2_add yX2_add ∈ k_tbl := k_in (List.mem_append_right _ (List.mem_of_getElem? (i := 351) (by decide +kernel))) (by decide +kernel)
theorem lkV_RX4_284 : k_lkV RX4 284 2 yX2_add cX2_add 4 none 3 := ⟨⟨wm_RX4_284, wi_RX2, wc_X2_add, by decide +kernel, by decide⟩, wn_X2_add, ws_X2_add, _, _, rfl⟩
set_option maxRecDepth 100000 in
theorem wm_RX4_156 : Cond.methodLink RX4 156 yX4_doDeed ∈ k_tbl := k_in (List.mem_append_right _ (List.mem_of_getElem? (i := 345) (by decide +kernel))) (by decide +kernel)
set_option maxRecDepth 100000 in
theorem wc_X4_doDeed : Cond.code yX4_doDeed cX4_doDeed 4 none ∈ k_tbl := k_in (List.mem_append_right _ (List.mem_of_getElem? (i := 348) (by decide +kernel))) (by decide +kernel)
set_option maxRecDepth 100000 in
theorem wn_X4_doDeed : Cond.instanceMethod yX4_doDeed ∈ k_tbl := k_in (List.mem_append_right _ (List.mem_of_getElem? (i := 347) (by decide +kernel))) (by decide +kernel)
set_option maxRecDepth 100000 in
theorem ws_X4_doDeed : Cond.selects RX4 yX4_doDeed yX4_doDeed ∈ k_tbl := k_in (List.mem_append_left _ (List.mem_of_getElem? (i := 3) (by decide +kernel))) (by decide +kernel)
theorem lkV_RX4_156 : k_lkV RX4 156 4 yX4_doDeed cX4_doDeed 4 none 3 := ⟨⟨wm_RX4_156, wi_RX4, wc_X4_doDeed, by decide +kernel, by decide⟩, wn_X4_doDeed, ws_X4_doDeed, _, _, rfl⟩
set_option maxRecDepth 100000 in
theorem wf_RX4_74 : Cond.fieldLink RX4 74 (TX4 15).1 (TX4 15).2.1 (TX4 15).2.2.1 ∈ k_tbl := k_in (List.mem_append_right _ (List.mem_of_getElem? (i := 155) (by decide +kernel))) (by decide +kernel)
theorem fl_RX4_74 : k_fl RX4 74 4 15 := ⟨_, _, _, rfl, kinX4, by decide, wf_RX4_74⟩
theorem flW_RX4_160 : k_flW RX4 160 3 3 .int := ⟨_, _, _, tyX3, rfl, kinX3, tyX3_ok, nmX3, by decide, wf_RX4_160, rfl, by decide +kernel⟩
set_option maxRecDepth 100000 in
theorem wm_RX4_245 : Cond.methodLink RX4 245 yX4_playFrom ∈ k_tbl := k_in (List.mem_append_right _ (List.mem_of_getElem? (i := 543) (by decide +kernel))) (by decide +kernel)
set_option maxRecDepth 100000 in
theorem wc_X4_playFrom : Cond.code yX4_playFrom cX4_playFrom 8 (some .int) ∈ k_tbl := k_in (List.mem_append_right _ (List.mem_of_getElem? (i := 546) (by decide +kernel))) (by decide +kernel)
set_option maxRecDepth 100000 in
theorem wn_X4_playFrom : Cond.instanceMethod yX4_playFrom ∈ k_tbl := k_in (List.mem_append_right _ (List.mem_of_getElem? (i := 545) (by decide +kernel))) (by decide +kernel)
set_option maxRecDepth 100000 in
theorem ws_X4_playFrom : Cond.selects RX4 yX4_playFrom yX4_playFrom ∈ k_tbl := k_in (List.mem_append_left _ (List.mem_of_getElem? (i := 13) (by decide +kernel))) (by decide +kernel)
theorem lkV_RX4_245 : k_lkV RX4 245 4 yX4_playFrom cX4_playFrom 8 (some .int) 3 := ⟨⟨wm_RX4_245, wi_RX4, wc_X4_playFrom, by decide +kernel, by decide⟩, wn_X4_playFrom, ws_X4_playFrom, _, _, rfl⟩
set_option maxRecDepth 100000 in
theorem wm_RX4_305 : Cond.methodLink RX4 305 yJ9_max_7cf53 ∈ k_tbl := k_in (List.mem_append_right _ (List.mem_of_getElem? (i := 538) (by decide +kernel))) (by decide +kernel)
theorem lkS_RX4_305 : k_lkS RX4 305 yJ9_max_7cf53 cJ9_max_7cf53 2 (some .int) 2 := ⟨⟨wm_RX4_305, wi_RJ9, wc_J9_max_7cf53, by decide +kernel, by decide⟩, wt_J9_max_7cf53⟩
set_option maxRecDepth 100000 in
theorem wm_RX4_313 : Cond.methodLink RX4 313 yJ9_min_7cf53 ∈ k_tbl := k_in (List.mem_append_right _ (List.mem_of_getElem? (i := 551) (by decide +kernel))) (by decide +kernel)
theorem lkS_RX4_313 : k_lkS RX4 313 yJ9_min_7cf53 cJ9_min_7cf53 2 (some .int) 2 := ⟨⟨wm_RX4_313, wi_RJ9, wc_J9_min_7cf53, by decide +kernel, by decide⟩, wt_J9_min_7cf53⟩
set_option maxRecDepth 100000 in
theorem wm_RX4_310 : Cond.methodLink RX4 310 yX4_duelEnd ∈ k_tbl := k_in (List.mem_append_right _ (List.mem_of_getElem? (i := 547) (by decide +kernel))) (by decide +kernel)
set_option maxRecDepth 100000 in
theorem wc_X4_duelEnd : Cond.code yX4_duelEnd cX4_duelEnd 2 (some .int) ∈ k_tbl := k_in (List.mem_append_right _ (List.mem_of_getElem? (i := 550) (by decide +kernel))) (by decide +kernel)
set_option maxRecDepth 100000 in
theorem wn_X4_duelEnd : Cond.instanceMethod yX4_duelEnd ∈ k_tbl := k_in (List.mem_append_right _ (List.mem_of_getElem? (i := 549) (by decide +kernel))) (by decide +kernel)
set_option maxRecDepth 100000 in
theorem ws_X4_duelEnd : Cond.selects RX4 yX4_duelEnd yX4_duelEnd ∈ k_tbl := k_in (List.mem_append_left _ (List.mem_of_getElem? (i := 14) (by decide +kernel))) (by decide +kernel)
theorem lkV_RX4_310 : k_lkV RX4 310 4 yX4_duelEnd cX4_duelEnd 2 (some .int) 1 := ⟨⟨wm_RX4_310, wi_RX4, wc_X4_duelEnd, by decide +kernel, by decide⟩, wn_X4_duelEnd, ws_X4_duelEnd, _, _, rfl⟩
set_option maxRecDepth 100000 in
theorem wm_RX4_168 : Cond.methodLink RX4 168 yX4_isFigure ∈ k_tbl := k_in (List.mem_append_right _ (List.mem_of_getElem? (i := 263) (by decide +kernel))) (by decide +kernel)
set_option maxRecDepth 100000 in
theorem wc_X4_isFigure : Cond.code yX4_isFigure cX4_isFigure 1 (some .boolean) ∈ k_tbl := k_in (List.mem_append_right _ (List.mem_of_getElem? (i := 265) (by decide +kernel))) (by decide +kernel)
set_option maxRecDepth 100000 in
theorem wt_X4_isFigure : Cond.static yX4_isFigure ∈ k_tbl := k_in (List.mem_append_right _ (List.mem_of_getElem? (i := 264) (by decide +kernel))) (by decide +kernel)
theorem lkS_RX4_168 : k_lkS RX4 168 yX4_isFigure cX4_isFigure 1 (some .boolean) 1 := ⟨⟨wm_RX4_168, wi_RX4, wc_X4_isFigure, by decide +kernel, by decide⟩, wt_X4_isFigure⟩
set_option maxRecDepth 100000 in
theorem wf_RX4_359 : Cond.fieldLink RX4 359 "TripCalls" "LETTERS" "[I" ∈ k_tbl := k_in (List.mem_append_right _ (List.mem_of_getElem? (i := 272) (by decide +kernel))) (by decide +kernel)
set_option maxRecDepth 100000 in
theorem wm_RX4_354 : Cond.methodLink RX4 354 yX4_kindAt ∈ k_tbl := k_in (List.mem_append_right _ (List.mem_of_getElem? (i := 269) (by decide +kernel))) (by decide +kernel)
set_option maxRecDepth 100000 in
theorem wc_X4_kindAt : Cond.code yX4_kindAt cX4_kindAt 4 (some .int) ∈ k_tbl := k_in (List.mem_append_right _ (List.mem_of_getElem? (i := 271) (by decide +kernel))) (by decide +kernel)
set_option maxRecDepth 100000 in
theorem wt_X4_kindAt : Cond.static yX4_kindAt ∈ k_tbl := k_in (List.mem_append_right _ (List.mem_of_getElem? (i := 270) (by decide +kernel))) (by decide +kernel)
theorem lkS_RX4_354 : k_lkS RX4 354 yX4_kindAt cX4_kindAt 4 (some .int) 3 := ⟨⟨wm_RX4_354, wi_RX4, wc_X4_kindAt, by decide +kernel, by decide⟩, wt_X4_kindAt⟩
set_option maxRecDepth 100000 in
theorem wm_RX4_347 : Cond.methodLink RX4 347 yX4_figureAt ∈ k_tbl := k_in (List.mem_append_right _ (List.mem_of_getElem? (i := 260) (by decide +kernel))) (by decide +kernel)
set_option maxRecDepth 100000 in
theorem wc_X4_figureAt : Cond.code yX4_figureAt cX4_figureAt 4 (some .int) ∈ k_tbl := k_in (List.mem_append_right _ (List.mem_of_getElem? (i := 262) (by decide +kernel))) (by decide +kernel)
set_option maxRecDepth 100000 in
theorem wt_X4_figureAt : Cond.static yX4_figureAt ∈ k_tbl := k_in (List.mem_append_right _ (List.mem_of_getElem? (i := 261) (by decide +kernel))) (by decide +kernel)
theorem lkS_RX4_347 : k_lkS RX4 347 yX4_figureAt cX4_figureAt 4 (some .int) 3 := ⟨⟨wm_RX4_347, wi_RX4, wc_X4_figureAt, by decide +kernel, by decide⟩, wt_X4_figureAt⟩
set_option maxRecDepth 100000 in
theorem wm_RX4_357 : Cond.methodLink RX4 357 yX0_begin ∈ k_tbl := k_in (List.mem_append_right _ (List.mem_of_getElem? (i := 274) (by decide +kernel))) (by decide +kernel)
set_option maxRecDepth 100000 in
theorem wc_X0_begin : Cond.code yX0_begin cX0_begin 4 none ∈ k_tbl := k_in (List.mem_append_right _ (List.mem_of_getElem? (i := 277) (by decide +kernel))) (by decide +kernel)
set_option maxRecDepth 100000 in
theorem wn_X0_begin : Cond.instanceMethod yX0_begin ∈ k_tbl := k_in (List.mem_append_right _ (List.mem_of_getElem? (i := 275) (by decide +kernel))) (by decide +kernel)
set_option maxRecDepth 100000 in
theorem ws_X0_begin : Cond.selects RX0 yX0_begin yX0_begin ∈ k_tbl := k_in (List.mem_append_right _ (List.mem_of_getElem? (i := 276) (by decide +kernel))) (by decide +kernel)
theorem lkV_RX4_357 : k_lkV RX4 357 0 yX0_begin cX0_begin 4 none 3 := ⟨⟨wm_RX4_357, wi_RX0, wc_X0_begin, by decide +kernel, by decide⟩, wn_X0_begin, ws_X0_begin, _, _, rfl⟩
theorem flW_RX4_125 : k_flW RX4 125 3 1 .int := ⟨_, _, _, tyX3, rfl, kinX3, tyX3_ok, nmX3, by decide, wf_RX4_125, rfl, by decide +kernel⟩
set_option maxRecDepth 100000 in
theorem wm_RX4_340 : Cond.methodLink RX4 340 yX3_clear ∈ k_tbl := k_in (List.mem_append_right _ (List.mem_of_getElem? (i := 253) (by decide +kernel))) (by decide +kernel)
set_option maxRecDepth 100000 in
theorem wc_X3_clear : Cond.code yX3_clear cX3_clear 1 none ∈ k_tbl := k_in (List.mem_append_right _ (List.mem_of_getElem? (i := 256) (by decide +kernel))) (by decide +kernel)
set_option maxRecDepth 100000 in
theorem wn_X3_clear : Cond.instanceMethod yX3_clear ∈ k_tbl := k_in (List.mem_append_right _ (List.mem_of_getElem? (i := 254) (by decide +kernel))) (by decide +kernel)
set_option maxRecDepth 100000 in
theorem ws_X3_clear : Cond.selects RX3 yX3_clear yX3_clear ∈ k_tbl := k_in (List.mem_append_right _ (List.mem_of_getElem? (i := 255) (by decide +kernel))) (by decide +kernel)
theorem lkV_RX4_340 : k_lkV RX4 340 3 yX3_clear cX3_clear 1 none 0 := ⟨⟨wm_RX4_340, wi_RX3, wc_X3_clear, by decide +kernel, by decide⟩, wn_X3_clear, ws_X3_clear, _, _, rfl⟩
set_option maxRecDepth 100000 in
theorem wm_RX4_343 : Cond.methodLink RX4 343 yX4_pastBlanks ∈ k_tbl := k_in (List.mem_append_right _ (List.mem_of_getElem? (i := 257) (by decide +kernel))) (by decide +kernel)
set_option maxRecDepth 100000 in
theorem wc_X4_pastBlanks : Cond.code yX4_pastBlanks cX4_pastBlanks 4 (some .int) ∈ k_tbl := k_in (List.mem_append_right _ (List.mem_of_getElem? (i := 259) (by decide +kernel))) (by decide +kernel)
set_option maxRecDepth 100000 in
theorem wt_X4_pastBlanks : Cond.static yX4_pastBlanks ∈ k_tbl := k_in (List.mem_append_right _ (List.mem_of_getElem? (i := 258) (by decide +kernel))) (by decide +kernel)
theorem lkS_RX4_343 : k_lkS RX4 343 yX4_pastBlanks cX4_pastBlanks 4 (some .int) 3 := ⟨⟨wm_RX4_343, wi_RX4, wc_X4_pastBlanks, by decide +kernel, by decide⟩, wt_X4_pastBlanks⟩
set_option maxRecDepth 100000 in
theorem wm_RX4_350 : Cond.methodLink RX4 350 yX4_readCaller ∈ k_tbl := k_in (List.mem_append_right _ (List.mem_of_getElem? (i := 266) (by decide +kernel))) (by decide +kernel)
set_option maxRecDepth 100000 in
theorem wc_X4_readCaller : Cond.code yX4_readCaller cX4_readCaller 7 (some .int) ∈ k_tbl := k_in (List.mem_append_right _ (List.mem_of_getElem? (i := 268) (by decide +kernel))) (by decide +kernel)
set_option maxRecDepth 100000 in
theorem wt_X4_readCaller : Cond.static yX4_readCaller ∈ k_tbl := k_in (List.mem_append_right _ (List.mem_of_getElem? (i := 267) (by decide +kernel))) (by decide +kernel)
theorem lkS_RX4_350 : k_lkS RX4 350 yX4_readCaller cX4_readCaller 7 (some .int) 4 := ⟨⟨wm_RX4_350, wi_RX4, wc_X4_readCaller, by decide +kernel, by decide⟩, wt_X4_readCaller⟩
set_option maxRecDepth 100000 in
theorem wm_RX4_111 : Cond.methodLink RX4 111 yX4_isText ∈ k_tbl := k_in (List.mem_append_right _ (List.mem_of_getElem? (i := 236) (by decide +kernel))) (by decide +kernel)
set_option maxRecDepth 100000 in
theorem wc_X4_isText : Cond.code yX4_isText cX4_isText 1 (some .boolean) ∈ k_tbl := k_in (List.mem_append_right _ (List.mem_of_getElem? (i := 238) (by decide +kernel))) (by decide +kernel)
set_option maxRecDepth 100000 in
theorem wt_X4_isText : Cond.static yX4_isText ∈ k_tbl := k_in (List.mem_append_right _ (List.mem_of_getElem? (i := 237) (by decide +kernel))) (by decide +kernel)
theorem lkS_RX4_111 : k_lkS RX4 111 yX4_isText cX4_isText 1 (some .boolean) 1 := ⟨⟨wm_RX4_111, wi_RX4, wc_X4_isText, by decide +kernel, by decide⟩, wt_X4_isText⟩
set_option maxRecDepth 100000 in
theorem wm_RX4_117 : Cond.methodLink RX4 117 yX4_readHouse ∈ k_tbl := k_in (List.mem_append_right _ (List.mem_of_getElem? (i := 250) (by decide +kernel))) (by decide +kernel)
set_option maxRecDepth 100000 in
theorem wc_X4_readHouse : Cond.code yX4_readHouse cX4_readHouse 7 (some .int) ∈ k_tbl := k_in (List.mem_append_right _ (List.mem_of_getElem? (i := 252) (by decide +kernel))) (by decide +kernel)
set_option maxRecDepth 100000 in
theorem wt_X4_readHouse : Cond.static yX4_readHouse ∈ k_tbl := k_in (List.mem_append_right _ (List.mem_of_getElem? (i := 251) (by decide +kernel))) (by decide +kernel)
theorem lkS_RX4_117 : k_lkS RX4 117 yX4_readHouse cX4_readHouse 7 (some .int) 3 := ⟨⟨wm_RX4_117, wi_RX4, wc_X4_readHouse, by decide +kernel, by decide⟩, wt_X4_readHouse⟩
theorem fl_RX4_61 : k_fl RX4 61 4 12 := ⟨_, _, _, rfl, kinX4, by decide, wf_RX4_61⟩
set_option maxRecDepth 100000 in
theorem wm_RX4_150 : Cond.methodLink RX4 150 yX4_isFullWith ∈ k_tbl := k_in (List.mem_append_right _ (List.mem_of_getElem? (i := 341) (by decide +kernel))) (by decide +kernel)
set_option maxRecDepth 100000 in
theorem wc_X4_isFullWith : Cond.code yX4_isFullWith cX4_isFullWith 2 (some .boolean) ∈ k_tbl := k_in (List.mem_append_right _ (List.mem_of_getElem? (i := 344) (by decide +kernel))) (by decide +kernel)
set_option maxRecDepth 100000 in
theorem wn_X4_isFullWith : Cond.instanceMethod yX4_isFullWith ∈ k_tbl := k_in (List.mem_append_right _ (List.mem_of_getElem? (i := 343) (by decide +kernel))) (by decide +kernel)
set_option maxRecDepth 100000 in
theorem ws_X4_isFullWith : Cond.selects RX4 yX4_isFullWith yX4_isFullWith ∈ k_tbl := k_in (List.mem_append_left _ (List.mem_of_getElem? (i := 2) (by decide +kernel))) (by decide +kernel)
theorem lkV_RX4_150 : k_lkV RX4 150 4 yX4_isFullWith cX4_isFullWith 2 (some .boolean) 1 := ⟨⟨wm_RX4_150, wi_RX4, wc_X4_isFullWith, by decide +kernel, by decide⟩, wn_X4_isFullWith, ws_X4_isFullWith, _, _, rfl⟩
set_option maxRecDepth 100000 in
theorem wm_RX4_163 : Cond.methodLink RX4 163 yJ6_bitCount_0f7a4 ∈ k_tbl := k_in (List.mem_append_right _ (List.mem_of_getElem? (i := 406) (by decide +kernel))) (by decide +kernel)
theorem lkS_RX4_163 : k_lkS RX4 163 yJ6_bitCount_0f7a4 cJ6_bitCount_0f7a4 1 (some .int) 1 := ⟨⟨wm_RX4_163, wi_RJ6, wc_J6_bitCount_0f7a4, by decide +kernel, by decide⟩, wt_J6_bitCount_0f7a4⟩
theorem flW_RX4_86 : k_flW RX4 86 2 3 .int := ⟨_, _, _, tyX2, rfl, kinX2, tyX2_ok, nmX2, by decide, wf_RX4_86, rfl, by decide +kernel⟩
set_option maxRecDepth 100000 in
theorem wf_RX4_299 : Cond.fieldLink RX4 299 (TX3 7).1 (TX3 7).2.1 (TX3 7).2.2.1 ∈ k_tbl := k_in (List.mem_append_right _ (List.mem_of_getElem? (i := 80) (by decide +kernel))) (by decide +kernel)
theorem flW_RX4_299 : k_flW RX4 299 3 7 .int := ⟨_, _, _, tyX3, rfl, kinX3, tyX3_ok, nmX3, by decide, wf_RX4_299, rfl, by decide +kernel⟩
set_option maxRecDepth 100000 in
theorem wm_RX4_227 : Cond.methodLink RX4 227 yX4_offerSetsOf ∈ k_tbl := k_in (List.mem_append_right _ (List.mem_of_getElem? (i := 502) (by decide +kernel))) (by decide +kernel)
set_option maxRecDepth 100000 in
theorem wc_X4_offerSetsOf : Cond.code yX4_offerSetsOf cX4_offerSetsOf 5 none ∈ k_tbl := k_in (List.mem_append_right _ (List.mem_of_getElem? (i := 505) (by decide +kernel))) (by decide +kernel)
set_option maxRecDepth 100000 in
theorem wn_X4_offerSetsOf : Cond.instanceMethod yX4_offerSetsOf ∈ k_tbl := k_in (List.mem_append_right _ (List.mem_of_getElem? (i := 504) (by decide +kernel))) (by decide +kernel)
set_option maxRecDepth 100000 in
theorem ws_X4_offerSetsOf : Cond.selects RX4 yX4_offerSetsOf yX4_offerSetsOf ∈ k_tbl := k_in (List.mem_append_left _ (List.mem_of_getElem? (i := 7) (by decide +kernel))) (by decide +kernel)
theorem lkV_RX4_227 : k_lkV RX4 227 4 yX4_offerSetsOf cX4_offerSetsOf 5 none 2 := ⟨⟨wm_RX4_227, wi_RX4, wc_X4_offerSetsOf, by decide +kernel, by decide⟩, wn_X4_offerSetsOf, ws_X4_offerSetsOf, _, _, rfl⟩
set_option maxRecDepth 100000 in
theorem wm_RX4_183 : Cond.methodLink RX4 183 yX4_isKeptPlace ∈ k_tbl := k_in (List.mem_append_right _ (List.mem_of_getElem? (i := 431) (by decide +kernel))) (by decide +kernel)
set_option maxRecDepth 100000 in
theorem wc_X4_isKeptPlace : Cond.code yX4_isKeptPlace cX4_isKeptPlace 1 (some .boolean) ∈ k_tbl := k_in (List.mem_append_right _ (List.mem_of_getElem? (i := 433) (by decide +kernel))) (by decide +kernel)
set_option maxRecDepth 100000 in
theorem wt_X4_isKeptPlace : Cond.static yX4_isKeptPlace ∈ k_tbl := k_in (List.mem_append_right _ (List.mem_of_getElem? (i := 432) (by decide +kernel))) (by decide +kernel)
theorem lkS_RX4_183 : k_lkS RX4 183 yX4_isKeptPlace cX4_isKeptPlace 1 (some .boolean) 1 := ⟨⟨wm_RX4_183, wi_RX4, wc_X4_isKeptPlace, by decide +kernel, by decide⟩, wt_X4_isKeptPlace⟩
set_option maxRecDepth 100000 in
theorem wm_RX4_186 : Cond.methodLink RX4 186 yX2_become ∈ k_tbl := k_in (List.mem_append_right _ (List.mem_of_getElem? (i := 434) (by decide +kernel))) (by decide +kernel)
set_option maxRecDepth 100000 in
theorem wc_X2_become : Cond.code yX2_become cX2_become 3 none ∈ k_tbl := k_in (List.mem_append_right _ (List.mem_of_getElem? (i := 437) (by decide +kernel))) (by decide +kernel)
set_option maxRecDepth 100000 in
theorem wn_X2_become : Cond.instanceMethod yX2_become ∈ k_tbl := k_in (List.mem_append_right _ (List.mem_of_getElem? (i := 435) (by decide +kernel))) (by decide +kernel)
set_option maxRecDepth 100000 in
theorem ws_X2_become : Cond.selects RX2 yX2_become yX2_become ∈ k_tbl := k_in (List.mem_append_right _ (List.mem_of_getElem? (i := 436) (by decide +kernel))) (by decide +kernel)
theorem lkV_RX4_186 : k_lkV RX4 186 2 yX2_become cX2_become 3 none 1 := ⟨⟨wm_RX4_186, wi_RX2, wc_X2_become, by decide +kernel, by decide⟩, wn_X2_become, ws_X2_become, _, _, rfl⟩
set_option maxRecDepth 100000 in
theorem wm_RX4_233 : Cond.methodLink RX4 233 yX4_goesAsSeen ∈ k_tbl := k_in (List.mem_append_right _ (List.mem_of_getElem? (i := 514) (by decide +kernel))) (by decide +kernel)
set_option maxRecDepth 100000 in
theorem wc_X4_goesAsSeen : Cond.code yX4_goesAsSeen cX4_goesAsSeen 3 (some .boolean) ∈ k_tbl := k_in (List.mem_append_right _ (List.mem_of_getElem? (i := 517) (by decide +kernel))) (by decide +kernel)
set_option maxRecDepth 100000 in
theorem wn_X4_goesAsSeen : Cond.instanceMethod yX4_goesAsSeen ∈ k_tbl := k_in (List.mem_append_right _ (List.mem_of_getElem? (i := 516) (by decide +kernel))) (by decide +kernel)
set_option maxRecDepth 100000 in
theorem ws_X4_goesAsSeen : Cond.selects RX4 yX4_goesAsSeen yX4_goesAsSeen ∈ k_tbl := k_in (List.mem_append_left _ (List.mem_of_getElem? (i := 9) (by decide +kernel))) (by decide +kernel)
theorem lkV_RX4_233 : k_lkV RX4 233 4 yX4_goesAsSeen cX4_goesAsSeen 3 (some .boolean) 1 := ⟨⟨wm_RX4_233, wi_RX4, wc_X4_goesAsSeen, by decide +kernel, by decide⟩, wn_X4_goesAsSeen, ws_X4_goesAsSeen, _, _, rfl⟩
set_option maxRecDepth 100000 in
theorem wm_RX4_230 : Cond.methodLink RX4 230 yX4_findingOfSeen ∈ k_tbl := k_in (List.mem_append_right _ (List.mem_of_getElem? (i := 510) (by decide +kernel))) (by decide +kernel)
set_option maxRecDepth 100000 in
theorem wc_X4_findingOfSeen : Cond.code yX4_findingOfSeen cX4_findingOfSeen 4 (some .int) ∈ k_tbl := k_in (List.mem_append_right _ (List.mem_of_getElem? (i := 513) (by decide +kernel))) (by decide +kernel)
set_option maxRecDepth 100000 in
theorem wn_X4_findingOfSeen : Cond.instanceMethod yX4_findingOfSeen ∈ k_tbl := k_in (List.mem_append_right _ (List.mem_of_getElem? (i := 512) (by decide +kernel))) (by decide +kernel)
set_option maxRecDepth 100000 in
theorem ws_X4_findingOfSeen : Cond.selects RX4 yX4_findingOfSeen yX4_findingOfSeen ∈ k_tbl := k_in (List.mem_append_left _ (List.mem_of_getElem? (i := 8) (by decide +kernel))) (by decide +kernel)
theorem lkV_RX4_230 : k_lkV RX4 230 4 yX4_findingOfSeen cX4_findingOfSeen 4 (some .int) 1 := ⟨⟨wm_RX4_230, wi_RX4, wc_X4_findingOfSeen, by decide +kernel, by decide⟩, wn_X4_findingOfSeen, ws_X4_findingOfSeen, _, _, rfl⟩
set_option maxRecDepth 100000 in
theorem wm_RX4_236 : Cond.methodLink RX4 236 yX4_kindsAsSeen ∈ k_tbl := k_in (List.mem_append_right _ (List.mem_of_getElem? (i := 522) (by decide +kernel))) (by decide +kernel)
set_option maxRecDepth 100000 in
theorem wc_X4_kindsAsSeen : Cond.code yX4_kindsAsSeen cX4_kindsAsSeen 5 (some .int) ∈ k_tbl := k_in (List.mem_append_right _ (List.mem_of_getElem? (i := 525) (by decide +kernel))) (by decide +kernel)
set_option maxRecDepth 100000 in
theorem wn_X4_kindsAsSeen : Cond.instanceMethod yX4_kindsAsSeen ∈ k_tbl := k_in (List.mem_append_right _ (List.mem_of_getElem? (i := 524) (by decide +kernel))) (by decide +kernel)
set_option maxRecDepth 100000 in
theorem ws_X4_kindsAsSeen : Cond.selects RX4 yX4_kindsAsSeen yX4_kindsAsSeen ∈ k_tbl := k_in (List.mem_append_left _ (List.mem_of_getElem? (i := 10) (by decide +kernel))) (by decide +kernel)
theorem lkV_RX4_236 : k_lkV RX4 236 4 yX4_kindsAsSeen cX4_kindsAsSeen 5 (some .int) 2 := ⟨⟨wm_RX4_236, wi_RX4, wc_X4_kindsAsSeen, by decide +kernel, by decide⟩, wn_X4_kindsAsSeen, ws_X4_kindsAsSeen, _, _, rfl⟩
set_option maxRecDepth 100000 in
theorem wf_RX4_174 : Cond.fieldLink RX4 174 (TX0 1).1 (TX0 1).2.1 (TX0 1).2.2.1 ∈ k_tbl := k_in (List.mem_append_right _ (List.mem_of_getElem? (i := 40) (by decide +kernel))) (by decide +kernel)
theorem fl_RX4_174 : k_fl RX4 174 0 1 := ⟨_, _, _, rfl, kinX0, by decide, wf_RX4_174⟩
set_option maxRecDepth 100000 in
theorem cn_RX4_263 : Cond.constantLong RX4 263 (2147483647) ∈ k_tbl := k_in (List.mem_append_right _ (List.mem_of_getElem? (i := 585) (by decide +kernel))) (by decide +kernel)
set_option maxRecDepth 100000 in
theorem cn_RX4_265 : Cond.constantLong RX4 265 (48271) ∈ k_tbl := k_in (List.mem_append_right _ (List.mem_of_getElem? (i := 586) (by decide +kernel))) (by decide +kernel)
set_option maxRecDepth 100000 in
theorem wm_RX4_267 : Cond.methodLink RX4 267 yX4_doDeedOfLot ∈ k_tbl := k_in (List.mem_append_right _ (List.mem_of_getElem? (i := 587) (by decide +kernel))) (by decide +kernel)
set_option maxRecDepth 100000 in
theorem wc_X4_doDeedOfLot : Cond.code yX4_doDeedOfLot cX4_doDeedOfLot 4 none ∈ k_tbl := k_in (List.mem_append_right _ (List.mem_of_getElem? (i := 590) (by decide +kernel))) (by decide +kernel)
set_option maxRecDepth 100000 in
theorem wn_X4_doDeedOfLot : Cond.instanceMethod yX4_doDeedOfLot ∈ k_tbl := k_in (List.mem_append_right _ (List.mem_of_getElem? (i := 589) (by decide +kernel))) (by decide +kernel)
set_option maxRecDepth 100000 in
theorem ws_X4_doDeedOfLot : Cond.selects RX4 yX4_doDeedOfLot yX4_doDeedOfLot ∈ k_tbl := k_in (List.mem_append_left _ (List.mem_of_getElem? (i := 17) (by decide +kernel))) (by decide +kernel)
theorem lkV_RX4_267 : k_lkV RX4 267 4 yX4_doDeedOfLot cX4_doDeedOfLot 4 none 1 := ⟨⟨wm_RX4_267, wi_RX4, wc_X4_doDeedOfLot, by decide +kernel, by decide⟩, wn_X4_doDeedOfLot, ws_X4_doDeedOfLot, _, _, rfl⟩
set_option maxRecDepth 100000 in
theorem wf_RX4_58 : Cond.fieldLink RX4 58 (TX4 11).1 (TX4 11).2.1 (TX4 11).2.2.1 ∈ k_tbl := k_in (List.mem_append_right _ (List.mem_of_getElem? (i := 151) (by decide +kernel))) (by decide +kernel)
theorem fl_RX4_58 : k_fl RX4 58 4 11 := ⟨_, _, _, rfl, kinX4, by decide, wf_RX4_58⟩
set_option maxRecDepth 100000 in
theorem wm_RX4_138 : Cond.methodLink RX4 138 yX0_isOf ∈ k_tbl := k_in (List.mem_append_right _ (List.mem_of_getElem? (i := 310) (by decide +kernel))) (by decide +kernel)
theorem lkV_RX4_138 : k_lkV RX4 138 0 yX0_isOf cX0_isOf 2 (some .boolean) 1 := ⟨⟨wm_RX4_138, wi_RX0, wc_X0_isOf, by decide +kernel, by decide⟩, wn_X0_isOf, ws_X0_isOf, _, _, rfl⟩
set_option maxRecDepth 100000 in
theorem wm_RX4_144 : Cond.methodLink RX4 144 yX0_markOf ∈ k_tbl := k_in (List.mem_append_right _ (List.mem_of_getElem? (i := 314) (by decide +kernel))) (by decide +kernel)
set_option maxRecDepth 100000 in
theorem wc_X0_markOf : Cond.code yX0_markOf cX0_markOf 3 (some .int) ∈ k_tbl := k_in (List.mem_append_right _ (List.mem_of_getElem? (i := 317) (by decide +kernel))) (by decide +kernel)
set_option maxRecDepth 100000 in
theorem wn_X0_markOf : Cond.instanceMethod yX0_markOf ∈ k_tbl := k_in (List.mem_append_right _ (List.mem_of_getElem? (i := 315) (by decide +kernel))) (by decide +kernel)
set_option maxRecDepth 100000 in
theorem ws_X0_markOf : Cond.selects RX0 yX0_markOf yX0_markOf ∈ k_tbl := k_in (List.mem_append_right _ (List.mem_of_getElem? (i := 316) (by decide +kernel))) (by decide +kernel)
theorem lkV_RX4_144 : k_lkV RX4 144 0 yX0_markOf cX0_markOf 3 (some .int) 2 := ⟨⟨wm_RX4_144, wi_RX0, wc_X0_markOf, by decide +kernel, by decide⟩, wn_X0_markOf, ws_X0_markOf, _, _, rfl⟩
set_option maxRecDepth 100000 in
theorem wm_RX4_318 : Cond.methodLink RX4 318 yX4_commonDivisor ∈ k_tbl := k_in (List.mem_append_right _ (List.mem_of_getElem? (i := 571) (by decide +kernel))) (by decide +kernel)
set_option maxRecDepth 100000 in
theorem wc_X4_commonDivisor : Cond.code yX4_commonDivisor cX4_commonDivisor 11 (some .long) ∈ k_tbl := k_in (List.mem_append_right _ (List.mem_of_getElem? (i := 573) (by decide +kernel))) (by decide +kernel)
set_option maxRecDepth 100000 in
theorem wt_X4_commonDivisor : Cond.static yX4_commonDivisor ∈ k_tbl := k_in (List.mem_append_right _ (List.mem_of_getElem? (i := 572) (by decide +kernel))) (by decide +kernel)
theorem lkS_RX4_318 : k_lkS RX4 318 yX4_commonDivisor cX4_commonDivisor 11 (some .long) 2 := ⟨⟨wm_RX4_318, wi_RX4, wc_X4_commonDivisor, by decide +kernel, by decide⟩, wt_X4_commonDivisor⟩
set_option maxRecDepth 100000 in
theorem wf_RX4_54 : Cond.fieldLink RX4 54 (TX4 10).1 (TX4 10).2.1 (TX4 10).2.2.1 ∈ k_tbl := k_in (List.mem_append_right _ (List.mem_of_getElem? (i := 150) (by decide +kernel))) (by decide +kernel)
theorem flW_RX4_54 : k_flW RX4 54 4 10 .long := ⟨_, _, _, tyX4, rfl, kinX4, tyX4_ok, nmX4, by decide, wf_RX4_54, rfl, by decide +kernel⟩
theorem flW_RX4_58 : k_flW RX4 58 4 11 .long := ⟨_, _, _, tyX4, rfl, kinX4, tyX4_ok, nmX4, by decide, wf_RX4_58, rfl, by decide +kernel⟩
set_option maxRecDepth 100000 in
theorem cn_RX4_316 : Cond.constantLong RX4 316 (12) ∈ k_tbl := k_in (List.mem_append_right _ (List.mem_of_getElem? (i := 570) (by decide +kernel))) (by decide +kernel)
set_option maxRecDepth 100000 in
theorem wm_RX4_249 : Cond.methodLink RX4 249 yX4_isChance ∈ k_tbl := k_in (List.mem_append_right _ (List.mem_of_getElem? (i := 556) (by decide +kernel))) (by decide +kernel)
set_option maxRecDepth 100000 in
theorem wc_X4_isChance : Cond.code yX4_isChance cX4_isChance 1 (some .boolean) ∈ k_tbl := k_in (List.mem_append_right _ (List.mem_of_getElem? (i := 558) (by decide +kernel))) (by decide +kernel)
set_option maxRecDepth 100000 in
theorem wt_X4_isChance : Cond.static yX4_isChance ∈ k_tbl := k_in (List.mem_append_right _ (List.mem_of_getElem? (i := 557) (by decide +kernel))) (by decide +kernel)
theorem lkS_RX4_249 : k_lkS RX4 249 yX4_isChance cX4_isChance 1 (some .boolean) 1 := ⟨⟨wm_RX4_249, wi_RX4, wc_X4_isChance, by decide +kernel, by decide⟩, wt_X4_isChance⟩
set_option maxRecDepth 100000 in
theorem wm_RX4_259 : Cond.methodLink RX4 259 yX4_tellFraction ∈ k_tbl := k_in (List.mem_append_right _ (List.mem_of_getElem? (i := 566) (by decide +kernel))) (by decide +kernel)
set_option maxRecDepth 100000 in
theorem wc_X4_tellFraction : Cond.code yX4_tellFraction cX4_tellFraction 7 none ∈ k_tbl := k_in (List.mem_append_right _ (List.mem_of_getElem? (i := 569) (by decide +kernel))) (by decide +kernel)
set_option maxRecDepth 100000 in
theorem wn_X4_tellFraction : Cond.instanceMethod yX4_tellFraction ∈ k_tbl := k_in (List.mem_append_right _ (List.mem_of_getElem? (i := 568) (by decide +kernel))) (by decide +kernel)
set_option maxRecDepth 100000 in
theorem ws_X4_tellFraction : Cond.selects RX4 yX4_tellFraction yX4_tellFraction ∈ k_tbl := k_in (List.mem_append_left _ (List.mem_of_getElem? (i := 16) (by decide +kernel))) (by decide +kernel)
theorem lkV_RX4_259 : k_lkV RX4 259 4 yX4_tellFraction cX4_tellFraction 7 none 1 := ⟨⟨wm_RX4_259, wi_RX4, wc_X4_tellFraction, by decide +kernel, by decide⟩, wn_X4_tellFraction, ws_X4_tellFraction, _, _, rfl⟩
set_option maxRecDepth 100000 in
theorem wm_RX4_252 : Cond.methodLink RX4 252 yX4_answeredWithDowns ∈ k_tbl := k_in (List.mem_append_right _ (List.mem_of_getElem? (i := 559) (by decide +kernel))) (by decide +kernel)
set_option maxRecDepth 100000 in
theorem wc_X4_answeredWithDowns : Cond.code yX4_answeredWithDowns cX4_answeredWithDowns 5 (some .int) ∈ k_tbl := k_in (List.mem_append_right _ (List.mem_of_getElem? (i := 562) (by decide +kernel))) (by decide +kernel)
set_option maxRecDepth 100000 in
theorem wn_X4_answeredWithDowns : Cond.instanceMethod yX4_answeredWithDowns ∈ k_tbl := k_in (List.mem_append_right _ (List.mem_of_getElem? (i := 561) (by decide +kernel))) (by decide +kernel)
set_option maxRecDepth 100000 in
theorem ws_X4_answeredWithDowns : Cond.selects RX4 yX4_answeredWithDowns yX4_answeredWithDowns ∈ k_tbl := k_in (List.mem_append_left _ (List.mem_of_getElem? (i := 15) (by decide +kernel))) (by decide +kernel)
theorem lkV_RX4_252 : k_lkV RX4 252 4 yX4_answeredWithDowns cX4_answeredWithDowns 5 (some .int) 1 := ⟨⟨wm_RX4_252, wi_RX4, wc_X4_answeredWithDowns, by decide +kernel, by decide⟩, wn_X4_answeredWithDowns, ws_X4_answeredWithDowns, _, _, rfl⟩
set_option maxRecDepth 100000 in
theorem wm_RX4_255 : Cond.methodLink RX4 255 yX4_weightOfDowns ∈ k_tbl := k_in (List.mem_append_right _ (List.mem_of_getElem? (i := 563) (by decide +kernel))) (by decide +kernel)
set_option maxRecDepth 100000 in
theorem wc_X4_weightOfDowns : Cond.code yX4_weightOfDowns cX4_weightOfDowns 6 (some .long) ∈ k_tbl := k_in (List.mem_append_right _ (List.mem_of_getElem? (i := 565) (by decide +kernel))) (by decide +kernel)
set_option maxRecDepth 100000 in
theorem wt_X4_weightOfDowns : Cond.static yX4_weightOfDowns ∈ k_tbl := k_in (List.mem_append_right _ (List.mem_of_getElem? (i := 564) (by decide +kernel))) (by decide +kernel)
theorem lkS_RX4_255 : k_lkS RX4 255 yX4_weightOfDowns cX4_weightOfDowns 6 (some .long) 2 := ⟨⟨wm_RX4_255, wi_RX4, wc_X4_weightOfDowns, by decide +kernel, by decide⟩, wt_X4_weightOfDowns⟩
set_option maxRecDepth 100000 in
theorem wm_RX4_180 : Cond.methodLink RX4 180 yX4_doAllAgain ∈ k_tbl := k_in (List.mem_append_right _ (List.mem_of_getElem? (i := 423) (by decide +kernel))) (by decide +kernel)
set_option maxRecDepth 100000 in
theorem wc_X4_doAllAgain : Cond.code yX4_doAllAgain cX4_doAllAgain 2 none ∈ k_tbl := k_in (List.mem_append_right _ (List.mem_of_getElem? (i := 426) (by decide +kernel))) (by decide +kernel)
set_option maxRecDepth 100000 in
theorem wn_X4_doAllAgain : Cond.instanceMethod yX4_doAllAgain ∈ k_tbl := k_in (List.mem_append_right _ (List.mem_of_getElem? (i := 425) (by decide +kernel))) (by decide +kernel)
set_option maxRecDepth 100000 in
theorem ws_X4_doAllAgain : Cond.selects RX4 yX4_doAllAgain yX4_doAllAgain ∈ k_tbl := k_in (List.mem_append_left _ (List.mem_of_getElem? (i := 6) (by decide +kernel))) (by decide +kernel)
theorem lkV_RX4_180 : k_lkV RX4 180 4 yX4_doAllAgain cX4_doAllAgain 2 none 0 := ⟨⟨wm_RX4_180, wi_RX4, wc_X4_doAllAgain, by decide +kernel, by decide⟩, wn_X4_doAllAgain, ws_X4_doAllAgain, _, _, rfl⟩
set_option maxRecDepth 100000 in
theorem wm_RX4_239 : Cond.methodLink RX4 239 yX4_countAlike ∈ k_tbl := k_in (List.mem_append_right _ (List.mem_of_getElem? (i := 530) (by decide +kernel))) (by decide +kernel)
set_option maxRecDepth 100000 in
theorem wc_X4_countAlike : Cond.code yX4_countAlike cX4_countAlike 5 none ∈ k_tbl := k_in (List.mem_append_right _ (List.mem_of_getElem? (i := 533) (by decide +kernel))) (by decide +kernel)
set_option maxRecDepth 100000 in
theorem wn_X4_countAlike : Cond.instanceMethod yX4_countAlike ∈ k_tbl := k_in (List.mem_append_right _ (List.mem_of_getElem? (i := 532) (by decide +kernel))) (by decide +kernel)
set_option maxRecDepth 100000 in
theorem ws_X4_countAlike : Cond.selects RX4 yX4_countAlike yX4_countAlike ∈ k_tbl := k_in (List.mem_append_left _ (List.mem_of_getElem? (i := 11) (by decide +kernel))) (by decide +kernel)
theorem lkV_RX4_239 : k_lkV RX4 239 4 yX4_countAlike cX4_countAlike 5 none 2 := ⟨⟨wm_RX4_239, wi_RX4, wc_X4_countAlike, by decide +kernel, by decide⟩, wn_X4_countAlike, ws_X4_countAlike, _, _, rfl⟩
set_option maxRecDepth 100000 in
theorem wm_RX4_242 : Cond.methodLink RX4 242 yX4_greatestPart ∈ k_tbl := k_in (List.mem_append_right _ (List.mem_of_getElem? (i := 534) (by decide +kernel))) (by decide +kernel)
set_option maxRecDepth 100000 in
theorem wc_X4_greatestPart : Cond.code yX4_greatestPart cX4_greatestPart 3 (some .int) ∈ k_tbl := k_in (List.mem_append_right _ (List.mem_of_getElem? (i := 537) (by decide +kernel))) (by decide +kernel)
set_option maxRecDepth 100000 in
theorem wn_X4_greatestPart : Cond.instanceMethod yX4_greatestPart ∈ k_tbl := k_in (List.mem_append_right _ (List.mem_of_getElem? (i := 536) (by decide +kernel))) (by decide +kernel)
set_option maxRecDepth 100000 in
theorem ws_X4_greatestPart : Cond.selects RX4 yX4_greatestPart yX4_greatestPart ∈ k_tbl := k_in (List.mem_append_left _ (List.mem_of_getElem? (i := 12) (by decide +kernel))) (by decide +kernel)
theorem lkV_RX4_242 : k_lkV RX4 242 4 yX4_greatestPart cX4_greatestPart 3 (some .int) 1 := ⟨⟨wm_RX4_242, wi_RX4, wc_X4_greatestPart, by decide +kernel, by decide⟩, wn_X4_greatestPart, ws_X4_greatestPart, _, _, rfl⟩
set_option maxRecDepth 100000 in
theorem wm_RX4_114 : Cond.methodLink RX4 114 yJ7_fill_031fb ∈ k_tbl := k_in (List.mem_append_right _ (List.mem_of_getElem? (i := 239) (by decide +kernel))) (by decide +kernel)
set_option maxRecDepth 100000 in
theorem wc_J7_fill_031fb : Cond.code yJ7_fill_031fb cJ7_fill_031fb 4 none ∈ k_tbl := k_in (List.mem_append_right _ (List.mem_of_getElem? (i := 241) (by decide +kernel))) (by decide +kernel)
set_option maxRecDepth 100000 in
theorem wt_J7_fill_031fb : Cond.static yJ7_fill_031fb ∈ k_tbl := k_in (List.mem_append_right _ (List.mem_of_getElem? (i := 240) (by decide +kernel))) (by decide +kernel)
theorem lkS_RX4_114 : k_lkS RX4 114 yJ7_fill_031fb cJ7_fill_031fb 4 none 2 := ⟨⟨wm_RX4_114, wi_RJ7, wc_J7_fill_031fb, by decide +kernel, by decide⟩, wt_J7_fill_031fb⟩
set_option maxRecDepth 100000 in
theorem wm_RX4_200 : Cond.methodLink RX4 200 yX0_callsIn ∈ k_tbl := k_in (List.mem_append_right _ (List.mem_of_getElem? (i := 463) (by decide +kernel))) (by decide +kernel)
theorem lkV_RX4_200 : k_lkV RX4 200 0 yX0_callsIn cX0_callsIn 2 (some .boolean) 1 := ⟨⟨wm_RX4_200, wi_RX0, wc_X0_callsIn, by decide +kernel, by decide⟩, wn_X0_callsIn, ws_X0_callsIn, _, _, rfl⟩
theorem flW_RX4_174 : k_flW RX4 174 0 1 .int := ⟨_, _, _, tyX0, rfl, kinX0, tyX0_ok, nmX0, by decide, wf_RX4_174, rfl, by decide +kernel⟩
set_option maxRecDepth 100000 in
theorem wm_RX4_147 : Cond.methodLink RX4 147 yX3_isUpIn ∈ k_tbl := k_in (List.mem_append_right _ (List.mem_of_getElem? (i := 332) (by decide +kernel))) (by decide +kernel)
theorem lkV_RX4_147 : k_lkV RX4 147 3 yX3_isUpIn cX3_isUpIn 2 (some .boolean) 1 := ⟨⟨wm_RX4_147, wi_RX3, wc_X3_isUpIn, by decide +kernel, by decide⟩, wn_X3_isUpIn, ws_X3_isUpIn, _, _, rfl⟩
theorem fl_RX4_54 : k_fl RX4 54 4 10 := ⟨_, _, _, rfl, kinX4, by decide, wf_RX4_54⟩
set_option maxRecDepth 100000 in
theorem wm_RX4_210 : Cond.methodLink RX4 210 yX3_notOpen ∈ k_tbl := k_in (List.mem_append_right _ (List.mem_of_getElem? (i := 470) (by decide +kernel))) (by decide +kernel)
set_option maxRecDepth 100000 in
theorem wc_X3_notOpen : Cond.code yX3_notOpen cX3_notOpen 1 (some .int) ∈ k_tbl := k_in (List.mem_append_right _ (List.mem_of_getElem? (i := 473) (by decide +kernel))) (by decide +kernel)
set_option maxRecDepth 100000 in
theorem wn_X3_notOpen : Cond.instanceMethod yX3_notOpen ∈ k_tbl := k_in (List.mem_append_right _ (List.mem_of_getElem? (i := 471) (by decide +kernel))) (by decide +kernel)
set_option maxRecDepth 100000 in
theorem ws_X3_notOpen : Cond.selects RX3 yX3_notOpen yX3_notOpen ∈ k_tbl := k_in (List.mem_append_right _ (List.mem_of_getElem? (i := 472) (by decide +kernel))) (by decide +kernel)
theorem lkV_RX4_210 : k_lkV RX4 210 3 yX3_notOpen cX3_notOpen 1 (some .int) 0 := ⟨⟨wm_RX4_210, wi_RX3, wc_X3_notOpen, by decide +kernel, by decide⟩, wn_X3_notOpen, ws_X3_notOpen, _, _, rfl⟩
