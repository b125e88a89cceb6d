set_option maxRecDepth 100000 in
theorem wm_RL_13 : Cond.methodLink RL 13 yX4_row ∈ k_tbl := k_in (List.mem_append_right _ (List.mem_of_getElem? (i := 192) (by decide +kernel))) (by decide +kernel)
set_option maxRecDepth 100000 in
theorem wc_X4_row : Cond.code yX4_row cX4_row 3 (some .int) ∈ k_tbl := k_in (List.mem_append_right _ (List.mem_of_getElem? (i := 195) (by decide +kernel))) (by decide +kernel)
set_option maxRecDepth 100000 in
theorem wn_X4_row : Cond.instanceMethod yX4_row ∈ k_tbl := k_in (List.mem_append_right _ (List.mem_of_getElem? (i := 193) (by decide +kernel))) (by decide +kernel)
set_option maxRecDepth 100000 in
theorem ws_X4_row : Cond.selects RX4 yX4_row yX4_row ∈ k_tbl := k_in (List.mem_append_right _ (List.mem_of_getElem? (i := 194) (by decide +kernel))) (by decide +kernel)
theorem lkV_RL_13 : k_lkV RL 13 4 yX4_row cX4_row 3 (some .int) 2 := ⟨⟨wm_RL_13, wi_RX4, wc_X4_row, by decide +kernel, by decide⟩, wn_X4_row, ws_X4_row, _, _, rfl⟩
set_option maxRecDepth 100000 in
theorem wm_RL_17 : Cond.methodLink RL 17 yX5_row ∈ k_tbl := k_in (List.mem_append_right _ (List.mem_of_getElem? (i := 735) (by decide +kernel))) (by decide +kernel)
set_option maxRecDepth 100000 in
theorem wc_X5_row : Cond.code yX5_row cX5_row 4 (some .int) ∈ k_tbl := k_in (List.mem_append_right _ (List.mem_of_getElem? (i := 738) (by decide +kernel))) (by decide +kernel)
set_option maxRecDepth 100000 in
theorem wn_X5_row : Cond.instanceMethod yX5_row ∈ k_tbl := k_in (List.mem_append_right _ (List.mem_of_getElem? (i := 736) (by decide +kernel))) (by decide +kernel)
set_option maxRecDepth 100000 in
theorem ws_X5_row : Cond.selects RX5 yX5_row yX5_row ∈ k_tbl := k_in (List.mem_append_right _ (List.mem_of_getElem? (i := 737) (by decide +kernel))) (by decide +kernel)
theorem lkV_RL_17 : k_lkV RL 17 5 yX5_row cX5_row 4 (some .int) 2 := ⟨⟨wm_RL_17, wi_RX5, wc_X5_row, by decide +kernel, by decide⟩, wn_X5_row, ws_X5_row, _, _, rfl⟩
set_option maxRecDepth 100000 in
theorem wm_RL_18 : Cond.methodLink RL 18 yX4_lay ∈ k_tbl := k_in (List.mem_append_right _ (List.mem_of_getElem? (i := 203) (by decide +kernel))) (by decide +kernel)
set_option maxRecDepth 100000 in
theorem wc_X4_lay : Cond.code yX4_lay cX4_lay 5 (some .int) ∈ k_tbl := k_in (List.mem_append_right _ (List.mem_of_getElem? (i := 206) (by decide +kernel))) (by decide +kernel)
set_option maxRecDepth 100000 in
theorem wn_X4_lay : Cond.instanceMethod yX4_lay ∈ k_tbl := k_in (List.mem_append_right _ (List.mem_of_getElem? (i := 204) (by decide +kernel))) (by decide +kernel)
set_option maxRecDepth 100000 in
theorem ws_X4_lay : Cond.selects RX4 yX4_lay yX4_lay ∈ k_tbl := k_in (List.mem_append_right _ (List.mem_of_getElem? (i := 205) (by decide +kernel))) (by decide +kernel)
theorem lkV_RL_18 : k_lkV RL 18 4 yX4_lay cX4_lay 5 (some .int) 3 := ⟨⟨wm_RL_18, wi_RX4, wc_X4_lay, by decide +kernel, by decide⟩, wn_X4_lay, ws_X4_lay, _, _, rfl⟩
set_option maxRecDepth 100000 in
theorem wm_RL_22 : Cond.methodLink RL 22 yX5_lay ∈ k_tbl := k_in (List.mem_append_right _ (List.mem_of_getElem? (i := 750) (by decide +kernel))) (by decide +kernel)
set_option maxRecDepth 100000 in
theorem wc_X5_lay : Cond.code yX5_lay cX5_lay 5 (some .int) ∈ k_tbl := k_in (List.mem_append_right _ (List.mem_of_getElem? (i := 753) (by decide +kernel))) (by decide +kernel)
set_option maxRecDepth 100000 in
theorem wn_X5_lay : Cond.instanceMethod yX5_lay ∈ k_tbl := k_in (List.mem_append_right _ (List.mem_of_getElem? (i := 751) (by decide +kernel))) (by decide +kernel)
set_option maxRecDepth 100000 in
theorem ws_X5_lay : Cond.selects RX5 yX5_lay yX5_lay ∈ k_tbl := k_in (List.mem_append_right _ (List.mem_of_getElem? (i := 752) (by decide +kernel))) (by decide +kernel)
theorem lkV_RL_22 : k_lkV RL 22 5 yX5_lay cX5_lay 5 (some .int) 3 := ⟨⟨wm_RL_22, wi_RX5, wc_X5_lay, by decide +kernel, by decide⟩, wn_X5_lay, ws_X5_lay, _, _, rfl⟩
set_option maxRecDepth 100000 in
theorem wm_RL_23 : Cond.methodLink RL 23 yX4_at ∈ k_tbl := k_in (List.mem_append_right _ (List.mem_of_getElem? (i := 210) (by decide +kernel))) (by decide +kernel)
set_option maxRecDepth 100000 in
theorem wc_X4_at : Cond.code yX4_at cX4_at 4 (some .int) ∈ k_tbl := k_in (List.mem_append_right _ (List.mem_of_getElem? (i := 213) (by decide +kernel))) (by decide +kernel)
set_option maxRecDepth 100000 in
theorem wn_X4_at : Cond.instanceMethod yX4_at ∈ k_tbl := k_in (List.mem_append_right _ (List.mem_of_getElem? (i := 211) (by decide +kernel))) (by decide +kernel)
set_option maxRecDepth 100000 in
theorem ws_X4_at : Cond.selects RX4 yX4_at yX4_at ∈ k_tbl := k_in (List.mem_append_right _ (List.mem_of_getElem? (i := 212) (by decide +kernel))) (by decide +kernel)
theorem lkV_RL_23 : k_lkV RL 23 4 yX4_at cX4_at 4 (some .int) 2 := ⟨⟨wm_RL_23, wi_RX4, wc_X4_at, by decide +kernel, by decide⟩, wn_X4_at, ws_X4_at, _, _, rfl⟩
set_option maxRecDepth 100000 in
theorem wm_RL_26 : Cond.methodLink RL 26 yX5_at ∈ k_tbl := k_in (List.mem_append_right _ (List.mem_of_getElem? (i := 758) (by decide +kernel))) (by decide +kernel)
set_option maxRecDepth 100000 in
theorem wc_X5_at : Cond.code yX5_at cX5_at 3 (some .int) ∈ k_tbl := k_in (List.mem_append_right _ (List.mem_of_getElem? (i := 761) (by decide +kernel))) (by decide +kernel)
set_option maxRecDepth 100000 in
theorem wn_X5_at : Cond.instanceMethod yX5_at ∈ k_tbl := k_in (List.mem_append_right _ (List.mem_of_getElem? (i := 759) (by decide +kernel))) (by decide +kernel)
set_option maxRecDepth 100000 in
theorem ws_X5_at : Cond.selects RX5 yX5_at yX5_at ∈ k_tbl := k_in (List.mem_append_right _ (List.mem_of_getElem? (i := 760) (by decide +kernel))) (by decide +kernel)
theorem lkV_RL_26 : k_lkV RL 26 5 yX5_at cX5_at 3 (some .int) 2 := ⟨⟨wm_RL_26, wi_RX5, wc_X5_at, by decide +kernel, by decide⟩, wn_X5_at, ws_X5_at, _, _, rfl⟩
set_option maxRecDepth 100000 in
theorem wm_RL_27 : Cond.methodLink RL 27 yX4_tear ∈ k_tbl := k_in (List.mem_append_right _ (List.mem_of_getElem? (i := 214) (by decide +kernel))) (by decide +kernel)
set_option maxRecDepth 100000 in
theorem wc_X4_tear : Cond.code yX4_tear cX4_tear 2 (some .int) ∈ k_tbl := k_in (List.mem_append_right _ (List.mem_of_getElem? (i := 217) (by decide +kernel))) (by decide +kernel)
set_option maxRecDepth 100000 in
theorem wn_X4_tear : Cond.instanceMethod yX4_tear ∈ k_tbl := k_in (List.mem_append_right _ (List.mem_of_getElem? (i := 215) (by decide +kernel))) (by decide +kernel)
set_option maxRecDepth 100000 in
theorem ws_X4_tear : Cond.selects RX4 yX4_tear yX4_tear ∈ k_tbl := k_in (List.mem_append_right _ (List.mem_of_getElem? (i := 216) (by decide +kernel))) (by decide +kernel)
theorem lkV_RL_27 : k_lkV RL 27 4 yX4_tear cX4_tear 2 (some .int) 1 := ⟨⟨wm_RL_27, wi_RX4, wc_X4_tear, by decide +kernel, by decide⟩, wn_X4_tear, ws_X4_tear, _, _, rfl⟩
set_option maxRecDepth 100000 in
theorem wm_RL_31 : Cond.methodLink RL 31 yX5_tear ∈ k_tbl := k_in (List.mem_append_right _ (List.mem_of_getElem? (i := 762) (by decide +kernel))) (by decide +kernel)
set_option maxRecDepth 100000 in
theorem wc_X5_tear : Cond.code yX5_tear cX5_tear 2 (some .int) ∈ k_tbl := k_in (List.mem_append_right _ (List.mem_of_getElem? (i := 765) (by decide +kernel))) (by decide +kernel)
set_option maxRecDepth 100000 in
theorem wn_X5_tear : Cond.instanceMethod yX5_tear ∈ k_tbl := k_in (List.mem_append_right _ (List.mem_of_getElem? (i := 763) (by decide +kernel))) (by decide +kernel)
set_option maxRecDepth 100000 in
theorem ws_X5_tear : Cond.selects RX5 yX5_tear yX5_tear ∈ k_tbl := k_in (List.mem_append_right _ (List.mem_of_getElem? (i := 764) (by decide +kernel))) (by decide +kernel)
theorem lkV_RL_31 : k_lkV RL 31 5 yX5_tear cX5_tear 2 (some .int) 1 := ⟨⟨wm_RL_31, wi_RX5, wc_X5_tear, by decide +kernel, by decide⟩, wn_X5_tear, ws_X5_tear, _, _, rfl⟩
set_option maxRecDepth 100000 in
theorem wm_RL_32 : Cond.methodLink RL 32 yX4_copy ∈ k_tbl := k_in (List.mem_append_right _ (List.mem_of_getElem? (i := 218) (by decide +kernel))) (by decide +kernel)
set_option maxRecDepth 100000 in
theorem wc_X4_copy : Cond.code yX4_copy cX4_copy 6 (some .int) ∈ k_tbl := k_in (List.mem_append_right _ (List.mem_of_getElem? (i := 221) (by decide +kernel))) (by decide +kernel)
set_option maxRecDepth 100000 in
theorem wn_X4_copy : Cond.instanceMethod yX4_copy ∈ k_tbl := k_in (List.mem_append_right _ (List.mem_of_getElem? (i := 219) (by decide +kernel))) (by decide +kernel)
set_option maxRecDepth 100000 in
theorem ws_X4_copy : Cond.selects RX4 yX4_copy yX4_copy ∈ k_tbl := k_in (List.mem_append_right _ (List.mem_of_getElem? (i := 220) (by decide +kernel))) (by decide +kernel)
theorem lkV_RL_32 : k_lkV RL 32 4 yX4_copy cX4_copy 6 (some .int) 5 := ⟨⟨wm_RL_32, wi_RX4, wc_X4_copy, by decide +kernel, by decide⟩, wn_X4_copy, ws_X4_copy, _, _, rfl⟩
set_option maxRecDepth 100000 in
theorem wm_RL_36 : Cond.methodLink RL 36 yX5_copy ∈ k_tbl := k_in (List.mem_append_right _ (List.mem_of_getElem? (i := 766) (by decide +kernel))) (by decide +kernel)
set_option maxRecDepth 100000 in
theorem wc_X5_copy : Cond.code yX5_copy cX5_copy 8 (some .int) ∈ k_tbl := k_in (List.mem_append_right _ (List.mem_of_getElem? (i := 769) (by decide +kernel))) (by decide +kernel)
set_option maxRecDepth 100000 in
theorem wn_X5_copy : Cond.instanceMethod yX5_copy ∈ k_tbl := k_in (List.mem_append_right _ (List.mem_of_getElem? (i := 767) (by decide +kernel))) (by decide +kernel)
set_option maxRecDepth 100000 in
theorem ws_X5_copy : Cond.selects RX5 yX5_copy yX5_copy ∈ k_tbl := k_in (List.mem_append_right _ (List.mem_of_getElem? (i := 768) (by decide +kernel))) (by decide +kernel)
theorem lkV_RL_36 : k_lkV RL 36 5 yX5_copy cX5_copy 8 (some .int) 5 := ⟨⟨wm_RL_36, wi_RX5, wc_X5_copy, by decide +kernel, by decide⟩, wn_X5_copy, ws_X5_copy, _, _, rfl⟩
set_option maxRecDepth 100000 in
theorem wm_RL_37 : Cond.methodLink RL 37 yX4_mean ∈ k_tbl := k_in (List.mem_append_right _ (List.mem_of_getElem? (i := 228) (by decide +kernel))) (by decide +kernel)
set_option maxRecDepth 100000 in
theorem wc_X4_mean : Cond.code yX4_mean cX4_mean 6 (some .int) ∈ k_tbl := k_in (List.mem_append_right _ (List.mem_of_getElem? (i := 231) (by decide +kernel))) (by decide +kernel)
set_option maxRecDepth 100000 in
theorem wn_X4_mean : Cond.instanceMethod yX4_mean ∈ k_tbl := k_in (List.mem_append_right _ (List.mem_of_getElem? (i := 229) (by decide +kernel))) (by decide +kernel)
set_option maxRecDepth 100000 in
theorem ws_X4_mean : Cond.selects RX4 yX4_mean yX4_mean ∈ k_tbl := k_in (List.mem_append_right _ (List.mem_of_getElem? (i := 230) (by decide +kernel))) (by decide +kernel)
theorem lkV_RL_37 : k_lkV RL 37 4 yX4_mean cX4_mean 6 (some .int) 1 := ⟨⟨wm_RL_37, wi_RX4, wc_X4_mean, by decide +kernel, by decide⟩, wn_X4_mean, ws_X4_mean, _, _, rfl⟩
set_option maxRecDepth 100000 in
theorem wm_RL_40 : Cond.methodLink RL 40 yX5_mean ∈ k_tbl := k_in (List.mem_append_right _ (List.mem_of_getElem? (i := 770) (by decide +kernel))) (by decide +kernel)
set_option maxRecDepth 100000 in
theorem wc_X5_mean : Cond.code yX5_mean cX5_mean 5 (some .int) ∈ k_tbl := k_in (List.mem_append_right _ (List.mem_of_getElem? (i := 773) (by decide +kernel))) (by decide +kernel)
set_option maxRecDepth 100000 in
theorem wn_X5_mean : Cond.instanceMethod yX5_mean ∈ k_tbl := k_in (List.mem_append_right _ (List.mem_of_getElem? (i := 771) (by decide +kernel))) (by decide +kernel)
set_option maxRecDepth 100000 in
theorem ws_X5_mean : Cond.selects RX5 yX5_mean yX5_mean ∈ k_tbl := k_in (List.mem_append_right _ (List.mem_of_getElem? (i := 772) (by decide +kernel))) (by decide +kernel)
theorem lkV_RL_40 : k_lkV RL 40 5 yX5_mean cX5_mean 5 (some .int) 1 := ⟨⟨wm_RL_40, wi_RX5, wc_X5_mean, by decide +kernel, by decide⟩, wn_X5_mean, ws_X5_mean, _, _, rfl⟩
set_option maxRecDepth 100000 in
theorem wm_RL_41 : Cond.methodLink RL 41 yX4_text ∈ k_tbl := k_in (List.mem_append_right _ (List.mem_of_getElem? (i := 232) (by decide +kernel))) (by decide +kernel)
set_option maxRecDepth 100000 in
theorem wc_X4_text : Cond.code yX4_text cX4_text 3 (some .int) ∈ k_tbl := k_in (List.mem_append_right _ (List.mem_of_getElem? (i := 235) (by decide +kernel))) (by decide +kernel)
set_option maxRecDepth 100000 in
theorem wn_X4_text : Cond.instanceMethod yX4_text ∈ k_tbl := k_in (List.mem_append_right _ (List.mem_of_getElem? (i := 233) (by decide +kernel))) (by decide +kernel)
set_option maxRecDepth 100000 in
theorem ws_X4_text : Cond.selects RX4 yX4_text yX4_text ∈ k_tbl := k_in (List.mem_append_right _ (List.mem_of_getElem? (i := 234) (by decide +kernel))) (by decide +kernel)
theorem lkV_RL_41 : k_lkV RL 41 4 yX4_text cX4_text 3 (some .int) 2 := ⟨⟨wm_RL_41, wi_RX4, wc_X4_text, by decide +kernel, by decide⟩, wn_X4_text, ws_X4_text, _, _, rfl⟩
set_option maxRecDepth 100000 in
theorem wm_RL_44 : Cond.methodLink RL 44 yX5_text ∈ k_tbl := k_in (List.mem_append_right _ (List.mem_of_getElem? (i := 774) (by decide +kernel))) (by decide +kernel)
set_option maxRecDepth 100000 in
theorem wc_X5_text : Cond.code yX5_text cX5_text 4 (some .int) ∈ k_tbl := k_in (List.mem_append_right _ (List.mem_of_getElem? (i := 777) (by decide +kernel))) (by decide +kernel)
set_option maxRecDepth 100000 in
theorem wn_X5_text : Cond.instanceMethod yX5_text ∈ k_tbl := k_in (List.mem_append_right _ (List.mem_of_getElem? (i := 775) (by decide +kernel))) (by decide +kernel)
set_option maxRecDepth 100000 in
theorem ws_X5_text : Cond.selects RX5 yX5_text yX5_text ∈ k_tbl := k_in (List.mem_append_right _ (List.mem_of_getElem? (i := 776) (by decide +kernel))) (by decide +kernel)
theorem lkV_RL_44 : k_lkV RL 44 5 yX5_text cX5_text 4 (some .int) 2 := ⟨⟨wm_RL_44, wi_RX5, wc_X5_text, by decide +kernel, by decide⟩, wn_X5_text, ws_X5_text, _, _, rfl⟩
set_option maxRecDepth 100000 in
theorem wm_RL_45 : Cond.methodLink RL 45 yX4_put ∈ k_tbl := k_in (List.mem_append_right _ (List.mem_of_getElem? (i := 242) (by decide +kernel))) (by decide +kernel)
set_option maxRecDepth 100000 in
theorem wc_X4_put : Cond.code yX4_put cX4_put 6 (some .int) ∈ k_tbl := k_in (List.mem_append_right _ (List.mem_of_getElem? (i := 245) (by decide +kernel))) (by decide +kernel)
set_option maxRecDepth 100000 in
theorem wn_X4_put : Cond.instanceMethod yX4_put ∈ k_tbl := k_in (List.mem_append_right _ (List.mem_of_getElem? (i := 243) (by decide +kernel))) (by decide +kernel)
set_option maxRecDepth 100000 in
theorem ws_X4_put : Cond.selects RX4 yX4_put yX4_put ∈ k_tbl := k_in (List.mem_append_right _ (List.mem_of_getElem? (i := 244) (by decide +kernel))) (by decide +kernel)
theorem lkV_RL_45 : k_lkV RL 45 4 yX4_put cX4_put 6 (some .int) 3 := ⟨⟨wm_RL_45, wi_RX4, wc_X4_put, by decide +kernel, by decide⟩, wn_X4_put, ws_X4_put, _, _, rfl⟩
set_option maxRecDepth 100000 in
theorem wm_RL_48 : Cond.methodLink RL 48 yX5_put ∈ k_tbl := k_in (List.mem_append_right _ (List.mem_of_getElem? (i := 782) (by decide +kernel))) (by decide +kernel)
set_option maxRecDepth 100000 in
theorem wc_X5_put : Cond.code yX5_put cX5_put 5 (some .int) ∈ k_tbl := k_in (List.mem_append_right _ (List.mem_of_getElem? (i := 785) (by decide +kernel))) (by decide +kernel)
set_option maxRecDepth 100000 in
theorem wn_X5_put : Cond.instanceMethod yX5_put ∈ k_tbl := k_in (List.mem_append_right _ (List.mem_of_getElem? (i := 783) (by decide +kernel))) (by decide +kernel)
set_option maxRecDepth 100000 in
theorem ws_X5_put : Cond.selects RX5 yX5_put yX5_put ∈ k_tbl := k_in (List.mem_append_right _ (List.mem_of_getElem? (i := 784) (by decide +kernel))) (by decide +kernel)
theorem lkV_RL_48 : k_lkV RL 48 5 yX5_put cX5_put 5 (some .int) 3 := ⟨⟨wm_RL_48, wi_RX5, wc_X5_put, by decide +kernel, by decide⟩, wn_X5_put, ws_X5_put, _, _, rfl⟩
set_option maxRecDepth 100000 in
theorem wm_RL_49 : Cond.methodLink RL 49 yX4_fault ∈ k_tbl := k_in (List.mem_append_right _ (List.mem_of_getElem? (i := 246) (by decide +kernel))) (by decide +kernel)
set_option maxRecDepth 100000 in
theorem wc_X4_fault : Cond.code yX4_fault cX4_fault 2 (some .int) ∈ k_tbl := k_in (List.mem_append_right _ (List.mem_of_getElem? (i := 249) (by decide +kernel))) (by decide +kernel)
set_option maxRecDepth 100000 in
theorem wn_X4_fault : Cond.instanceMethod yX4_fault ∈ k_tbl := k_in (List.mem_append_right _ (List.mem_of_getElem? (i := 247) (by decide +kernel))) (by decide +kernel)
set_option maxRecDepth 100000 in
theorem ws_X4_fault : Cond.selects RX4 yX4_fault yX4_fault ∈ k_tbl := k_in (List.mem_append_right _ (List.mem_of_getElem? (i := 248) (by decide +kernel))) (by decide +kernel)
theorem lkV_RL_49 : k_lkV RL 49 4 yX4_fault cX4_fault 2 (some .int) 1 := ⟨⟨wm_RL_49, wi_RX4, wc_X4_fault, by decide +kernel, by decide⟩, wn_X4_fault, ws_X4_fault, _, _, rfl⟩
set_option maxRecDepth 100000 in
theorem wm_RL_52 : Cond.methodLink RL 52 yX5_fault ∈ k_tbl := k_in (List.mem_append_right _ (List.mem_of_getElem? (i := 786) (by decide +kernel))) (by decide +kernel)
set_option maxRecDepth 100000 in
theorem wc_X5_fault : Cond.code yX5_fault cX5_fault 2 (some .int) ∈ k_tbl := k_in (List.mem_append_right _ (List.mem_of_getElem? (i := 789) (by decide +kernel))) (by decide +kernel)
set_option maxRecDepth 100000 in
theorem wn_X5_fault : Cond.instanceMethod yX5_fault ∈ k_tbl := k_in (List.mem_append_right _ (List.mem_of_getElem? (i := 787) (by decide +kernel))) (by decide +kernel)
set_option maxRecDepth 100000 in
theorem ws_X5_fault : Cond.selects RX5 yX5_fault yX5_fault ∈ k_tbl := k_in (List.mem_append_right _ (List.mem_of_getElem? (i := 788) (by decide +kernel))) (by decide +kernel)
theorem lkV_RL_52 : k_lkV RL 52 5 yX5_fault cX5_fault 2 (some .int) 1 := ⟨⟨wm_RL_52, wi_RX5, wc_X5_fault, by decide +kernel, by decide⟩, wn_X5_fault, ws_X5_fault, _, _, rfl⟩
set_option maxRecDepth 100000 in
theorem wm_RL_53 : Cond.methodLink RL 53 yX4_house ∈ k_tbl := k_in (List.mem_append_right _ (List.mem_of_getElem? (i := 282) (by decide +kernel))) (by decide +kernel)
set_option maxRecDepth 100000 in
theorem wc_X4_house : Cond.code yX4_house cX4_house 3 (some .int) ∈ k_tbl := k_in (List.mem_append_right _ (List.mem_of_getElem? (i := 285) (by decide +kernel))) (by decide +kernel)
set_option maxRecDepth 100000 in
theorem wn_X4_house : Cond.instanceMethod yX4_house ∈ k_tbl := k_in (List.mem_append_right _ (List.mem_of_getElem? (i := 283) (by decide +kernel))) (by decide +kernel)
set_option maxRecDepth 100000 in
theorem ws_X4_house : Cond.selects RX4 yX4_house yX4_house ∈ k_tbl := k_in (List.mem_append_right _ (List.mem_of_getElem? (i := 284) (by decide +kernel))) (by decide +kernel)
theorem lkV_RL_53 : k_lkV RL 53 4 yX4_house cX4_house 3 (some .int) 1 := ⟨⟨wm_RL_53, wi_RX4, wc_X4_house, by decide +kernel, by decide⟩, wn_X4_house, ws_X4_house, _, _, rfl⟩
set_option maxRecDepth 100000 in
theorem wm_RL_56 : Cond.methodLink RL 56 yX5_house ∈ k_tbl := k_in (List.mem_append_right _ (List.mem_of_getElem? (i := 803) (by decide +kernel))) (by decide +kernel)
set_option maxRecDepth 100000 in
theorem wc_X5_house : Cond.code yX5_house cX5_house 3 (some .int) ∈ k_tbl := k_in (List.mem_append_right _ (List.mem_of_getElem? (i := 806) (by decide +kernel))) (by decide +kernel)
set_option maxRecDepth 100000 in
theorem wn_X5_house : Cond.instanceMethod yX5_house ∈ k_tbl := k_in (List.mem_append_right _ (List.mem_of_getElem? (i := 804) (by decide +kernel))) (by decide +kernel)
set_option maxRecDepth 100000 in
theorem ws_X5_house : Cond.selects RX5 yX5_house yX5_house ∈ k_tbl := k_in (List.mem_append_right _ (List.mem_of_getElem? (i := 805) (by decide +kernel))) (by decide +kernel)
theorem lkV_RL_56 : k_lkV RL 56 5 yX5_house cX5_house 3 (some .int) 1 := ⟨⟨wm_RL_56, wi_RX5, wc_X5_house, by decide +kernel, by decide⟩, wn_X5_house, ws_X5_house, _, _, rfl⟩
set_option maxRecDepth 100000 in
theorem wm_RL_57 : Cond.methodLink RL 57 yX4_caller ∈ k_tbl := k_in (List.mem_append_right _ (List.mem_of_getElem? (i := 294) (by decide +kernel))) (by decide +kernel)
set_option maxRecDepth 100000 in
theorem wc_X4_caller : Cond.code yX4_caller cX4_caller 3 (some .int) ∈ k_tbl := k_in (List.mem_append_right _ (List.mem_of_getElem? (i := 297) (by decide +kernel))) (by decide +kernel)
set_option maxRecDepth 100000 in
theorem wn_X4_caller : Cond.instanceMethod yX4_caller ∈ k_tbl := k_in (List.mem_append_right _ (List.mem_of_getElem? (i := 295) (by decide +kernel))) (by decide +kernel)
set_option maxRecDepth 100000 in
theorem ws_X4_caller : Cond.selects RX4 yX4_caller yX4_caller ∈ k_tbl := k_in (List.mem_append_right _ (List.mem_of_getElem? (i := 296) (by decide +kernel))) (by decide +kernel)
theorem lkV_RL_57 : k_lkV RL 57 4 yX4_caller cX4_caller 3 (some .int) 2 := ⟨⟨wm_RL_57, wi_RX4, wc_X4_caller, by decide +kernel, by decide⟩, wn_X4_caller, ws_X4_caller, _, _, rfl⟩
set_option maxRecDepth 100000 in
theorem wm_RL_60 : Cond.methodLink RL 60 yX5_caller ∈ k_tbl := k_in (List.mem_append_right _ (List.mem_of_getElem? (i := 814) (by decide +kernel))) (by decide +kernel)
set_option maxRecDepth 100000 in
theorem wc_X5_caller : Cond.code yX5_caller cX5_caller 3 (some .int) ∈ k_tbl := k_in (List.mem_append_right _ (List.mem_of_getElem? (i := 817) (by decide +kernel))) (by decide +kernel)
set_option maxRecDepth 100000 in
theorem wn_X5_caller : Cond.instanceMethod yX5_caller ∈ k_tbl := k_in (List.mem_append_right _ (List.mem_of_getElem? (i := 815) (by decide +kernel))) (by decide +kernel)
set_option maxRecDepth 100000 in
theorem ws_X5_caller : Cond.selects RX5 yX5_caller yX5_caller ∈ k_tbl := k_in (List.mem_append_right _ (List.mem_of_getElem? (i := 816) (by decide +kernel))) (by decide +kernel)
theorem lkV_RL_60 : k_lkV RL 60 5 yX5_caller cX5_caller 3 (some .int) 2 := ⟨⟨wm_RL_60, wi_RX5, wc_X5_caller, by decide +kernel, by decide⟩, wn_X5_caller, ws_X5_caller, _, _, rfl⟩
set_option maxRecDepth 100000 in
theorem wm_RL_61 : Cond.methodLink RL 61 yX4_mark ∈ k_tbl := k_in (List.mem_append_right _ (List.mem_of_getElem? (i := 306) (by decide +kernel))) (by decide +kernel)
set_option maxRecDepth 100000 in
theorem wc_X4_mark : Cond.code yX4_mark cX4_mark 4 (some .int) ∈ k_tbl := k_in (List.mem_append_right _ (List.mem_of_getElem? (i := 309) (by decide +kernel))) (by decide +kernel)
set_option maxRecDepth 100000 in
theorem wn_X4_mark : Cond.instanceMethod yX4_mark ∈ k_tbl := k_in (List.mem_append_right _ (List.mem_of_getElem? (i := 307) (by decide +kernel))) (by decide +kernel)
set_option maxRecDepth 100000 in
theorem ws_X4_mark : Cond.selects RX4 yX4_mark yX4_mark ∈ k_tbl := k_in (List.mem_append_right _ (List.mem_of_getElem? (i := 308) (by decide +kernel))) (by decide +kernel)
theorem lkV_RL_61 : k_lkV RL 61 4 yX4_mark cX4_mark 4 (some .int) 2 := ⟨⟨wm_RL_61, wi_RX4, wc_X4_mark, by decide +kernel, by decide⟩, wn_X4_mark, ws_X4_mark, _, _, rfl⟩
set_option maxRecDepth 100000 in
theorem wm_RL_64 : Cond.methodLink RL 64 yX5_mark ∈ k_tbl := k_in (List.mem_append_right _ (List.mem_of_getElem? (i := 822) (by decide +kernel))) (by decide +kernel)
set_option maxRecDepth 100000 in
theorem wc_X5_mark : Cond.code yX5_mark cX5_mark 4 (some .int) ∈ k_tbl := k_in (List.mem_append_right _ (List.mem_of_getElem? (i := 825) (by decide +kernel))) (by decide +kernel)
set_option maxRecDepth 100000 in
theorem wn_X5_mark : Cond.instanceMethod yX5_mark ∈ k_tbl := k_in (List.mem_append_right _ (List.mem_of_getElem? (i := 823) (by decide +kernel))) (by decide +kernel)
set_option maxRecDepth 100000 in
theorem ws_X5_mark : Cond.selects RX5 yX5_mark yX5_mark ∈ k_tbl := k_in (List.mem_append_right _ (List.mem_of_getElem? (i := 824) (by decide +kernel))) (by decide +kernel)
theorem lkV_RL_64 : k_lkV RL 64 5 yX5_mark cX5_mark 4 (some .int) 2 := ⟨⟨wm_RL_64, wi_RX5, wc_X5_mark, by decide +kernel, by decide⟩, wn_X5_mark, ws_X5_mark, _, _, rfl⟩
set_option maxRecDepth 100000 in
theorem wm_RL_65 : Cond.methodLink RL 65 yX4_up ∈ k_tbl := k_in (List.mem_append_right _ (List.mem_of_getElem? (i := 328) (by decide +kernel))) (by decide +kernel)
set_option maxRecDepth 100000 in
theorem wc_X4_up : Cond.code yX4_up cX4_up 2 (some .int) ∈ k_tbl := k_in (List.mem_append_right _ (List.mem_of_getElem? (i := 331) (by decide +kernel))) (by decide +kernel)
set_option maxRecDepth 100000 in
theorem wn_X4_up : Cond.instanceMethod yX4_up ∈ k_tbl := k_in (List.mem_append_right _ (List.mem_of_getElem? (i := 329) (by decide +kernel))) (by decide +kernel)
set_option maxRecDepth 100000 in
theorem ws_X4_up : Cond.selects RX4 yX4_up yX4_up ∈ k_tbl := k_in (List.mem_append_right _ (List.mem_of_getElem? (i := 330) (by decide +kernel))) (by decide +kernel)
theorem lkV_RL_65 : k_lkV RL 65 4 yX4_up cX4_up 2 (some .int) 1 := ⟨⟨wm_RL_65, wi_RX4, wc_X4_up, by decide +kernel, by decide⟩, wn_X4_up, ws_X4_up, _, _, rfl⟩
set_option maxRecDepth 100000 in
theorem wm_RL_68 : Cond.methodLink RL 68 yX5_up ∈ k_tbl := k_in (List.mem_append_right _ (List.mem_of_getElem? (i := 826) (by decide +kernel))) (by decide +kernel)
set_option maxRecDepth 100000 in
theorem wc_X5_up : Cond.code yX5_up cX5_up 2 (some .int) ∈ k_tbl := k_in (List.mem_append_right _ (List.mem_of_getElem? (i := 829) (by decide +kernel))) (by decide +kernel)
set_option maxRecDepth 100000 in
theorem wn_X5_up : Cond.instanceMethod yX5_up ∈ k_tbl := k_in (List.mem_append_right _ (List.mem_of_getElem? (i := 827) (by decide +kernel))) (by decide +kernel)
set_option maxRecDepth 100000 in
theorem ws_X5_up : Cond.selects RX5 yX5_up yX5_up ∈ k_tbl := k_in (List.mem_append_right _ (List.mem_of_getElem? (i := 828) (by decide +kernel))) (by decide +kernel)
theorem lkV_RL_68 : k_lkV RL 68 5 yX5_up cX5_up 2 (some .int) 1 := ⟨⟨wm_RL_68, wi_RX5, wc_X5_up, by decide +kernel, by decide⟩, wn_X5_up, ws_X5_up, _, _, rfl⟩
set_option maxRecDepth 100000 in
theorem wm_RL_69 : Cond.methodLink RL 69 yX4_step ∈ k_tbl := k_in (List.mem_append_right _ (List.mem_of_getElem? (i := 337) (by decide +kernel))) (by decide +kernel)
set_option maxRecDepth 100000 in
theorem wc_X4_step : Cond.code yX4_step cX4_step 2 (some .int) ∈ k_tbl := k_in (List.mem_append_right _ (List.mem_of_getElem? (i := 340) (by decide +kernel))) (by decide +kernel)
set_option maxRecDepth 100000 in
theorem wn_X4_step : Cond.instanceMethod yX4_step ∈ k_tbl := k_in (List.mem_append_right _ (List.mem_of_getElem? (i := 338) (by decide +kernel))) (by decide +kernel)
set_option maxRecDepth 100000 in
theorem ws_X4_step : Cond.selects RX4 yX4_step yX4_step ∈ k_tbl := k_in (List.mem_append_right _ (List.mem_of_getElem? (i := 339) (by decide +kernel))) (by decide +kernel)
theorem lkV_RL_69 : k_lkV RL 69 4 yX4_step cX4_step 2 (some .int) 0 := ⟨⟨wm_RL_69, wi_RX4, wc_X4_step, by decide +kernel, by decide⟩, wn_X4_step, ws_X4_step, _, _, rfl⟩
set_option maxRecDepth 100000 in
theorem wm_RL_73 : Cond.methodLink RL 73 yX5_step ∈ k_tbl := k_in (List.mem_append_right _ (List.mem_of_getElem? (i := 834) (by decide +kernel))) (by decide +kernel)
set_option maxRecDepth 100000 in
theorem wc_X5_step : Cond.code yX5_step cX5_step 1 (some .int) ∈ k_tbl := k_in (List.mem_append_right _ (List.mem_of_getElem? (i := 837) (by decide +kernel))) (by decide +kernel)
set_option maxRecDepth 100000 in
theorem wn_X5_step : Cond.instanceMethod yX5_step ∈ k_tbl := k_in (List.mem_append_right _ (List.mem_of_getElem? (i := 835) (by decide +kernel))) (by decide +kernel)
set_option maxRecDepth 100000 in
theorem ws_X5_step : Cond.selects RX5 yX5_step yX5_step ∈ k_tbl := k_in (List.mem_append_right _ (List.mem_of_getElem? (i := 836) (by decide +kernel))) (by decide +kernel)
theorem lkV_RL_73 : k_lkV RL 73 5 yX5_step cX5_step 1 (some .int) 0 := ⟨⟨wm_RL_73, wi_RX5, wc_X5_step, by decide +kernel, by decide⟩, wn_X5_step, ws_X5_step, _, _, rfl⟩
set_option maxRecDepth 100000 in
theorem wm_RL_74 : Cond.methodLink RL 74 yX4_flip ∈ k_tbl := k_in (List.mem_append_right _ (List.mem_of_getElem? (i := 402) (by decide +kernel))) (by decide +kernel)
set_option maxRecDepth 100000 in
theorem wc_X4_flip : Cond.code yX4_flip cX4_flip 2 (some .int) ∈ k_tbl := k_in (List.mem_append_right _ (List.mem_of_getElem? (i := 405) (by decide +kernel))) (by decide +kernel)
set_option maxRecDepth 100000 in
theorem wn_X4_flip : Cond.instanceMethod yX4_flip ∈ k_tbl := k_in (List.mem_append_right _ (List.mem_of_getElem? (i := 403) (by decide +kernel))) (by decide +kernel)
set_option maxRecDepth 100000 in
theorem ws_X4_flip : Cond.selects RX4 yX4_flip yX4_flip ∈ k_tbl := k_in (List.mem_append_right _ (List.mem_of_getElem? (i := 404) (by decide +kernel))) (by decide +kernel)
theorem lkV_RL_74 : k_lkV RL 74 4 yX4_flip cX4_flip 2 (some .int) 1 := ⟨⟨wm_RL_74, wi_RX4, wc_X4_flip, by decide +kernel, by decide⟩, wn_X4_flip, ws_X4_flip, _, _, rfl⟩
set_option maxRecDepth 100000 in
theorem wm_RL_77 : Cond.methodLink RL 77 yX5_flip ∈ k_tbl := k_in (List.mem_append_right _ (List.mem_of_getElem? (i := 877) (by decide +kernel))) (by decide +kernel)
set_option maxRecDepth 100000 in
theorem wc_X5_flip : Cond.code yX5_flip cX5_flip 2 (some .int) ∈ k_tbl := k_in (List.mem_append_right _ (List.mem_of_getElem? (i := 880) (by decide +kernel))) (by decide +kernel)
set_option maxRecDepth 100000 in
theorem wn_X5_flip : Cond.instanceMethod yX5_flip ∈ k_tbl := k_in (List.mem_append_right _ (List.mem_of_getElem? (i := 878) (by decide +kernel))) (by decide +kernel)
set_option maxRecDepth 100000 in
theorem ws_X5_flip : Cond.selects RX5 yX5_flip yX5_flip ∈ k_tbl := k_in (List.mem_append_right _ (List.mem_of_getElem? (i := 879) (by decide +kernel))) (by decide +kernel)
theorem lkV_RL_77 : k_lkV RL 77 5 yX5_flip cX5_flip 2 (some .int) 1 := ⟨⟨wm_RL_77, wi_RX5, wc_X5_flip, by decide +kernel, by decide⟩, wn_X5_flip, ws_X5_flip, _, _, rfl⟩
set_option maxRecDepth 100000 in
theorem wm_RL_78 : Cond.methodLink RL 78 yX4_room ∈ k_tbl := k_in (List.mem_append_right _ (List.mem_of_getElem? (i := 407) (by decide +kernel))) (by decide +kernel)
set_option maxRecDepth 100000 in
theorem wc_X4_room : Cond.code yX4_room cX4_room 3 (some .int) ∈ k_tbl := k_in (List.mem_append_right _ (List.mem_of_getElem? (i := 410) (by decide +kernel))) (by decide +kernel)
set_option maxRecDepth 100000 in
theorem wn_X4_room : Cond.instanceMethod yX4_room ∈ k_tbl := k_in (List.mem_append_right _ (List.mem_of_getElem? (i := 408) (by decide +kernel))) (by decide +kernel)
set_option maxRecDepth 100000 in
theorem ws_X4_room : Cond.selects RX4 yX4_room yX4_room ∈ k_tbl := k_in (List.mem_append_right _ (List.mem_of_getElem? (i := 409) (by decide +kernel))) (by decide +kernel)
theorem lkV_RL_78 : k_lkV RL 78 4 yX4_room cX4_room 3 (some .int) 1 := ⟨⟨wm_RL_78, wi_RX4, wc_X4_room, by decide +kernel, by decide⟩, wn_X4_room, ws_X4_room, _, _, rfl⟩
set_option maxRecDepth 100000 in
theorem wm_RL_81 : Cond.methodLink RL 81 yX5_room ∈ k_tbl := k_in (List.mem_append_right _ (List.mem_of_getElem? (i := 882) (by decide +kernel))) (by decide +kernel)
set_option maxRecDepth 100000 in
theorem wc_X5_room : Cond.code yX5_room cX5_room 3 (some .int) ∈ k_tbl := k_in (List.mem_append_right _ (List.mem_of_getElem? (i := 885) (by decide +kernel))) (by decide +kernel)
set_option maxRecDepth 100000 in
theorem wn_X5_room : Cond.instanceMethod yX5_room ∈ k_tbl := k_in (List.mem_append_right _ (List.mem_of_getElem? (i := 883) (by decide +kernel))) (by decide +kernel)
set_option maxRecDepth 100000 in
theorem ws_X5_room : Cond.selects RX5 yX5_room yX5_room ∈ k_tbl := k_in (List.mem_append_right _ (List.mem_of_getElem? (i := 884) (by decide +kernel))) (by decide +kernel)
theorem lkV_RL_81 : k_lkV RL 81 5 yX5_room cX5_room 3 (some .int) 1 := ⟨⟨wm_RL_81, wi_RX5, wc_X5_room, by decide +kernel, by decide⟩, wn_X5_room, ws_X5_room, _, _, rfl⟩
set_option maxRecDepth 100000 in
theorem wm_RL_82 : Cond.methodLink RL 82 yX4_limit ∈ k_tbl := k_in (List.mem_append_right _ (List.mem_of_getElem? (i := 411) (by decide +kernel))) (by decide +kernel)
set_option maxRecDepth 100000 in
theorem wc_X4_limit : Cond.code yX4_limit cX4_limit 4 (some .int) ∈ k_tbl := k_in (List.mem_append_right _ (List.mem_of_getElem? (i := 414) (by decide +kernel))) (by decide +kernel)
set_option maxRecDepth 100000 in
theorem wn_X4_limit : Cond.instanceMethod yX4_limit ∈ k_tbl := k_in (List.mem_append_right _ (List.mem_of_getElem? (i := 412) (by decide +kernel))) (by decide +kernel)
set_option maxRecDepth 100000 in
theorem ws_X4_limit : Cond.selects RX4 yX4_limit yX4_limit ∈ k_tbl := k_in (List.mem_append_right _ (List.mem_of_getElem? (i := 413) (by decide +kernel))) (by decide +kernel)
theorem lkV_RL_82 : k_lkV RL 82 4 yX4_limit cX4_limit 4 (some .int) 2 := ⟨⟨wm_RL_82, wi_RX4, wc_X4_limit, by decide +kernel, by decide⟩, wn_X4_limit, ws_X4_limit, _, _, rfl⟩
set_option maxRecDepth 100000 in
theorem wm_RL_85 : Cond.methodLink RL 85 yX5_limit ∈ k_tbl := k_in (List.mem_append_right _ (List.mem_of_getElem? (i := 890) (by decide +kernel))) (by decide +kernel)
set_option maxRecDepth 100000 in
theorem wc_X5_limit : Cond.code yX5_limit cX5_limit 4 (some .int) ∈ k_tbl := k_in (List.mem_append_right _ (List.mem_of_getElem? (i := 893) (by decide +kernel))) (by decide +kernel)
set_option maxRecDepth 100000 in
theorem wn_X5_limit : Cond.instanceMethod yX5_limit ∈ k_tbl := k_in (List.mem_append_right _ (List.mem_of_getElem? (i := 891) (by decide +kernel))) (by decide +kernel)
set_option maxRecDepth 100000 in
theorem ws_X5_limit : Cond.selects RX5 yX5_limit yX5_limit ∈ k_tbl := k_in (List.mem_append_right _ (List.mem_of_getElem? (i := 892) (by decide +kernel))) (by decide +kernel)
theorem lkV_RL_85 : k_lkV RL 85 5 yX5_limit cX5_limit 4 (some .int) 2 := ⟨⟨wm_RL_85, wi_RX5, wc_X5_limit, by decide +kernel, by decide⟩, wn_X5_limit, ws_X5_limit, _, _, rfl⟩
set_option maxRecDepth 100000 in
theorem wm_RL_86 : Cond.methodLink RL 86 yX4_reset ∈ k_tbl := k_in (List.mem_append_right _ (List.mem_of_getElem? (i := 415) (by decide +kernel))) (by decide +kernel)
set_option maxRecDepth 100000 in
theorem wc_X4_reset : Cond.code yX4_reset cX4_reset 3 (some .int) ∈ k_tbl := k_in (List.mem_append_right _ (List.mem_of_getElem? (i := 418) (by decide +kernel))) (by decide +kernel)
set_option maxRecDepth 100000 in
theorem wn_X4_reset : Cond.instanceMethod yX4_reset ∈ k_tbl := k_in (List.mem_append_right _ (List.mem_of_getElem? (i := 416) (by decide +kernel))) (by decide +kernel)
set_option maxRecDepth 100000 in
theorem ws_X4_reset : Cond.selects RX4 yX4_reset yX4_reset ∈ k_tbl := k_in (List.mem_append_right _ (List.mem_of_getElem? (i := 417) (by decide +kernel))) (by decide +kernel)
theorem lkV_RL_86 : k_lkV RL 86 4 yX4_reset cX4_reset 3 (some .int) 1 := ⟨⟨wm_RL_86, wi_RX4, wc_X4_reset, by decide +kernel, by decide⟩, wn_X4_reset, ws_X4_reset, _, _, rfl⟩
set_option maxRecDepth 100000 in
theorem wm_RL_89 : Cond.methodLink RL 89 yX5_reset ∈ k_tbl := k_in (List.mem_append_right _ (List.mem_of_getElem? (i := 894) (by decide +kernel))) (by decide +kernel)
set_option maxRecDepth 100000 in
theorem wc_X5_reset : Cond.code yX5_reset cX5_reset 3 (some .int) ∈ k_tbl := k_in (List.mem_append_right _ (List.mem_of_getElem? (i := 897) (by decide +kernel))) (by decide +kernel)
set_option maxRecDepth 100000 in
theorem wn_X5_reset : Cond.instanceMethod yX5_reset ∈ k_tbl := k_in (List.mem_append_right _ (List.mem_of_getElem? (i := 895) (by decide +kernel))) (by decide +kernel)
set_option maxRecDepth 100000 in
theorem ws_X5_reset : Cond.selects RX5 yX5_reset yX5_reset ∈ k_tbl := k_in (List.mem_append_right _ (List.mem_of_getElem? (i := 896) (by decide +kernel))) (by decide +kernel)
theorem lkV_RL_89 : k_lkV RL 89 5 yX5_reset cX5_reset 3 (some .int) 1 := ⟨⟨wm_RL_89, wi_RX5, wc_X5_reset, by decide +kernel, by decide⟩, wn_X5_reset, ws_X5_reset, _, _, rfl⟩
set_option maxRecDepth 100000 in
theorem wm_RL_90 : Cond.methodLink RL 90 yX4_undo ∈ k_tbl := k_in (List.mem_append_right _ (List.mem_of_getElem? (i := 419) (by decide +kernel))) (by decide +kernel)
set_option maxRecDepth 100000 in
theorem wc_X4_undo : Cond.code yX4_undo cX4_undo 3 (some .int) ∈ k_tbl := k_in (List.mem_append_right _ (List.mem_of_getElem? (i := 422) (by decide +kernel))) (by decide +kernel)
set_option maxRecDepth 100000 in
theorem wn_X4_undo : Cond.instanceMethod yX4_undo ∈ k_tbl := k_in (List.mem_append_right _ (List.mem_of_getElem? (i := 420) (by decide +kernel))) (by decide +kernel)
set_option maxRecDepth 100000 in
theorem ws_X4_undo : Cond.selects RX4 yX4_undo yX4_undo ∈ k_tbl := k_in (List.mem_append_right _ (List.mem_of_getElem? (i := 421) (by decide +kernel))) (by decide +kernel)
theorem lkV_RL_90 : k_lkV RL 90 4 yX4_undo cX4_undo 3 (some .int) 1 := ⟨⟨wm_RL_90, wi_RX4, wc_X4_undo, by decide +kernel, by decide⟩, wn_X4_undo, ws_X4_undo, _, _, rfl⟩
set_option maxRecDepth 100000 in
theorem wm_RL_93 : Cond.methodLink RL 93 yX5_undo ∈ k_tbl := k_in (List.mem_append_right _ (List.mem_of_getElem? (i := 898) (by decide +kernel))) (by decide +kernel)
set_option maxRecDepth 100000 in
theorem wc_X5_undo : Cond.code yX5_undo cX5_undo 3 (some .int) ∈ k_tbl := k_in (List.mem_append_right _ (List.mem_of_getElem? (i := 901) (by decide +kernel))) (by decide +kernel)
set_option maxRecDepth 100000 in
theorem wn_X5_undo : Cond.instanceMethod yX5_undo ∈ k_tbl := k_in (List.mem_append_right _ (List.mem_of_getElem? (i := 899) (by decide +kernel))) (by decide +kernel)
set_option maxRecDepth 100000 in
theorem ws_X5_undo : Cond.selects RX5 yX5_undo yX5_undo ∈ k_tbl := k_in (List.mem_append_right _ (List.mem_of_getElem? (i := 900) (by decide +kernel))) (by decide +kernel)
theorem lkV_RL_93 : k_lkV RL 93 5 yX5_undo cX5_undo 3 (some .int) 1 := ⟨⟨wm_RL_93, wi_RX5, wc_X5_undo, by decide +kernel, by decide⟩, wn_X5_undo, ws_X5_undo, _, _, rfl⟩
set_option maxRecDepth 100000 in
theorem wm_RL_94 : Cond.methodLink RL 94 yX4_keep ∈ k_tbl := k_in (List.mem_append_right _ (List.mem_of_getElem? (i := 427) (by decide +kernel))) (by decide +kernel)
set_option maxRecDepth 100000 in
theorem wc_X4_keep : Cond.code yX4_keep cX4_keep 2 (some .int) ∈ k_tbl := k_in (List.mem_append_right _ (List.mem_of_getElem? (i := 430) (by decide +kernel))) (by decide +kernel)
set_option maxRecDepth 100000 in
theorem wn_X4_keep : Cond.instanceMethod yX4_keep ∈ k_tbl := k_in (List.mem_append_right _ (List.mem_of_getElem? (i := 428) (by decide +kernel))) (by decide +kernel)
set_option maxRecDepth 100000 in
theorem ws_X4_keep : Cond.selects RX4 yX4_keep yX4_keep ∈ k_tbl := k_in (List.mem_append_right _ (List.mem_of_getElem? (i := 429) (by decide +kernel))) (by decide +kernel)
theorem lkV_RL_94 : k_lkV RL 94 4 yX4_keep cX4_keep 2 (some .int) 1 := ⟨⟨wm_RL_94, wi_RX4, wc_X4_keep, by decide +kernel, by decide⟩, wn_X4_keep, ws_X4_keep, _, _, rfl⟩
set_option maxRecDepth 100000 in
theorem wm_RL_97 : Cond.methodLink RL 97 yX5_keep ∈ k_tbl := k_in (List.mem_append_right _ (List.mem_of_getElem? (i := 902) (by decide +kernel))) (by decide +kernel)
set_option maxRecDepth 100000 in
theorem wc_X5_keep : Cond.code yX5_keep cX5_keep 2 (some .int) ∈ k_tbl := k_in (List.mem_append_right _ (List.mem_of_getElem? (i := 905) (by decide +kernel))) (by decide +kernel)
set_option maxRecDepth 100000 in
theorem wn_X5_keep : Cond.instanceMethod yX5_keep ∈ k_tbl := k_in (List.mem_append_right _ (List.mem_of_getElem? (i := 903) (by decide +kernel))) (by decide +kernel)
set_option maxRecDepth 100000 in
theorem ws_X5_keep : Cond.selects RX5 yX5_keep yX5_keep ∈ k_tbl := k_in (List.mem_append_right _ (List.mem_of_getElem? (i := 904) (by decide +kernel))) (by decide +kernel)
theorem lkV_RL_97 : k_lkV RL 97 5 yX5_keep cX5_keep 2 (some .int) 1 := ⟨⟨wm_RL_97, wi_RX5, wc_X5_keep, by decide +kernel, by decide⟩, wn_X5_keep, ws_X5_keep, _, _, rfl⟩
set_option maxRecDepth 100000 in
theorem wm_RL_98 : Cond.methodLink RL 98 yX4_on ∈ k_tbl := k_in (List.mem_append_right _ (List.mem_of_getElem? (i := 438) (by decide +kernel))) (by decide +kernel)
set_option maxRecDepth 100000 in
theorem wc_X4_on : Cond.code yX4_on cX4_on 2 (some .int) ∈ k_tbl := k_in (List.mem_append_right _ (List.mem_of_getElem? (i := 441) (by decide +kernel))) (by decide +kernel)
set_option maxRecDepth 100000 in
theorem wn_X4_on : Cond.instanceMethod yX4_on ∈ k_tbl := k_in (List.mem_append_right _ (List.mem_of_getElem? (i := 439) (by decide +kernel))) (by decide +kernel)
set_option maxRecDepth 100000 in
theorem ws_X4_on : Cond.selects RX4 yX4_on yX4_on ∈ k_tbl := k_in (List.mem_append_right _ (List.mem_of_getElem? (i := 440) (by decide +kernel))) (by decide +kernel)
theorem lkV_RL_98 : k_lkV RL 98 4 yX4_on cX4_on 2 (some .int) 1 := ⟨⟨wm_RL_98, wi_RX4, wc_X4_on, by decide +kernel, by decide⟩, wn_X4_on, ws_X4_on, _, _, rfl⟩
set_option maxRecDepth 100000 in
theorem wm_RL_101 : Cond.methodLink RL 101 yX5_on ∈ k_tbl := k_in (List.mem_append_right _ (List.mem_of_getElem? (i := 910) (by decide +kernel))) (by decide +kernel)
set_option maxRecDepth 100000 in
theorem wc_X5_on : Cond.code yX5_on cX5_on 2 (some .int) ∈ k_tbl := k_in (List.mem_append_right _ (List.mem_of_getElem? (i := 913) (by decide +kernel))) (by decide +kernel)
set_option maxRecDepth 100000 in
theorem wn_X5_on : Cond.instanceMethod yX5_on ∈ k_tbl := k_in (List.mem_append_right _ (List.mem_of_getElem? (i := 911) (by decide +kernel))) (by decide +kernel)
set_option maxRecDepth 100000 in
theorem ws_X5_on : Cond.selects RX5 yX5_on yX5_on ∈ k_tbl := k_in (List.mem_append_right _ (List.mem_of_getElem? (i := 912) (by decide +kernel))) (by decide +kernel)
theorem lkV_RL_101 : k_lkV RL 101 5 yX5_on cX5_on 2 (some .int) 1 := ⟨⟨wm_RL_101, wi_RX5, wc_X5_on, by decide +kernel, by decide⟩, wn_X5_on, ws_X5_on, _, _, rfl⟩
set_option maxRecDepth 100000 in
theorem wm_RL_102 : Cond.methodLink RL 102 yX4_calls ∈ k_tbl := k_in (List.mem_append_right _ (List.mem_of_getElem? (i := 442) (by decide +kernel))) (by decide +kernel)
set_option maxRecDepth 100000 in
theorem wc_X4_calls : Cond.code yX4_calls cX4_calls 1 (some .int) ∈ k_tbl := k_in (List.mem_append_right _ (List.mem_of_getElem? (i := 445) (by decide +kernel))) (by decide +kernel)
set_option maxRecDepth 100000 in
theorem wn_X4_calls : Cond.instanceMethod yX4_calls ∈ k_tbl := k_in (List.mem_append_right _ (List.mem_of_getElem? (i := 443) (by decide +kernel))) (by decide +kernel)
set_option maxRecDepth 100000 in
theorem ws_X4_calls : Cond.selects RX4 yX4_calls yX4_calls ∈ k_tbl := k_in (List.mem_append_right _ (List.mem_of_getElem? (i := 444) (by decide +kernel))) (by decide +kernel)
theorem lkV_RL_102 : k_lkV RL 102 4 yX4_calls cX4_calls 1 (some .int) 0 := ⟨⟨wm_RL_102, wi_RX4, wc_X4_calls, by decide +kernel, by decide⟩, wn_X4_calls, ws_X4_calls, _, _, rfl⟩
set_option maxRecDepth 100000 in
theorem wm_RL_105 : Cond.methodLink RL 105 yX5_calls ∈ k_tbl := k_in (List.mem_append_right _ (List.mem_of_getElem? (i := 914) (by decide +kernel))) (by decide +kernel)
set_option maxRecDepth 100000 in
theorem wc_X5_calls : Cond.code yX5_calls cX5_calls 2 (some .int) ∈ k_tbl := k_in (List.mem_append_right _ (List.mem_of_getElem? (i := 917) (by decide +kernel))) (by decide +kernel)
set_option maxRecDepth 100000 in
theorem wn_X5_calls : Cond.instanceMethod yX5_calls ∈ k_tbl := k_in (List.mem_append_right _ (List.mem_of_getElem? (i := 915) (by decide +kernel))) (by decide +kernel)
set_option maxRecDepth 100000 in
theorem ws_X5_calls : Cond.selects RX5 yX5_calls yX5_calls ∈ k_tbl := k_in (List.mem_append_right _ (List.mem_of_getElem? (i := 916) (by decide +kernel))) (by decide +kernel)
theorem lkV_RL_105 : k_lkV RL 105 5 yX5_calls cX5_calls 2 (some .int) 0 := ⟨⟨wm_RL_105, wi_RX5, wc_X5_calls, by decide +kernel, by decide⟩, wn_X5_calls, ws_X5_calls, _, _, rfl⟩
set_option maxRecDepth 100000 in
theorem wm_RL_106 : Cond.methodLink RL 106 yX4_later ∈ k_tbl := k_in (List.mem_append_right _ (List.mem_of_getElem? (i := 451) (by decide +kernel))) (by decide +kernel)
set_option maxRecDepth 100000 in
theorem wc_X4_later : Cond.code yX4_later cX4_later 3 (some .int) ∈ k_tbl := k_in (List.mem_append_right _ (List.mem_of_getElem? (i := 454) (by decide +kernel))) (by decide +kernel)
set_option maxRecDepth 100000 in
theorem wn_X4_later : Cond.instanceMethod yX4_later ∈ k_tbl := k_in (List.mem_append_right _ (List.mem_of_getElem? (i := 452) (by decide +kernel))) (by decide +kernel)
set_option maxRecDepth 100000 in
theorem ws_X4_later : Cond.selects RX4 yX4_later yX4_later ∈ k_tbl := k_in (List.mem_append_right _ (List.mem_of_getElem? (i := 453) (by decide +kernel))) (by decide +kernel)
theorem lkV_RL_106 : k_lkV RL 106 4 yX4_later cX4_later 3 (some .int) 2 := ⟨⟨wm_RL_106, wi_RX4, wc_X4_later, by decide +kernel, by decide⟩, wn_X4_later, ws_X4_later, _, _, rfl⟩
set_option maxRecDepth 100000 in
theorem wm_RL_109 : Cond.methodLink RL 109 yX5_later ∈ k_tbl := k_in (List.mem_append_right _ (List.mem_of_getElem? (i := 922) (by decide +kernel))) (by decide +kernel)
set_option maxRecDepth 100000 in
theorem wc_X5_later : Cond.code yX5_later cX5_later 4 (some .int) ∈ k_tbl := k_in (List.mem_append_right _ (List.mem_of_getElem? (i := 925) (by decide +kernel))) (by decide +kernel)
set_option maxRecDepth 100000 in
theorem wn_X5_later : Cond.instanceMethod yX5_later ∈ k_tbl := k_in (List.mem_append_right _ (List.mem_of_getElem? (i := 923) (by decide +kernel))) (by decide +kernel)
set_option maxRecDepth 100000 in
theorem ws_X5_later : Cond.selects RX5 yX5_later yX5_later ∈ k_tbl := k_in (List.mem_append_right _ (List.mem_of_getElem? (i := 924) (by decide +kernel))) (by decide +kernel)
theorem lkV_RL_109 : k_lkV RL 109 5 yX5_later cX5_later 4 (some .int) 2 := ⟨⟨wm_RL_109, wi_RX5, wc_X5_later, by decide +kernel, by decide⟩, wn_X5_later, ws_X5_later, _, _, rfl⟩
set_option maxRecDepth 100000 in
theorem wm_RL_110 : Cond.methodLink RL 110 yX4_trips ∈ k_tbl := k_in (List.mem_append_right _ (List.mem_of_getElem? (i := 459) (by decide +kernel))) (by decide +kernel)
set_option maxRecDepth 100000 in
theorem wc_X4_trips : Cond.code yX4_trips cX4_trips 7 (some .int) ∈ k_tbl := k_in (List.mem_append_right _ (List.mem_of_getElem? (i := 462) (by decide +kernel))) (by decide +kernel)
set_option maxRecDepth 100000 in
theorem wn_X4_trips : Cond.instanceMethod yX4_trips ∈ k_tbl := k_in (List.mem_append_right _ (List.mem_of_getElem? (i := 460) (by decide +kernel))) (by decide +kernel)
set_option maxRecDepth 100000 in
theorem ws_X4_trips : Cond.selects RX4 yX4_trips yX4_trips ∈ k_tbl := k_in (List.mem_append_right _ (List.mem_of_getElem? (i := 461) (by decide +kernel))) (by decide +kernel)
theorem lkV_RL_110 : k_lkV RL 110 4 yX4_trips cX4_trips 7 (some .int) 1 := ⟨⟨wm_RL_110, wi_RX4, wc_X4_trips, by decide +kernel, by decide⟩, wn_X4_trips, ws_X4_trips, _, _, rfl⟩
set_option maxRecDepth 100000 in
theorem wm_RL_113 : Cond.methodLink RL 113 yX5_trips ∈ k_tbl := k_in (List.mem_append_right _ (List.mem_of_getElem? (i := 935) (by decide +kernel))) (by decide +kernel)
set_option maxRecDepth 100000 in
theorem wc_X5_trips : Cond.code yX5_trips cX5_trips 5 (some .int) ∈ k_tbl := k_in (List.mem_append_right _ (List.mem_of_getElem? (i := 938) (by decide +kernel))) (by decide +kernel)
set_option maxRecDepth 100000 in
theorem wn_X5_trips : Cond.instanceMethod yX5_trips ∈ k_tbl := k_in (List.mem_append_right _ (List.mem_of_getElem? (i := 936) (by decide +kernel))) (by decide +kernel)
set_option maxRecDepth 100000 in
theorem ws_X5_trips : Cond.selects RX5 yX5_trips yX5_trips ∈ k_tbl := k_in (List.mem_append_right _ (List.mem_of_getElem? (i := 937) (by decide +kernel))) (by decide +kernel)
theorem lkV_RL_113 : k_lkV RL 113 5 yX5_trips cX5_trips 5 (some .int) 1 := ⟨⟨wm_RL_113, wi_RX5, wc_X5_trips, by decide +kernel, by decide⟩, wn_X5_trips, ws_X5_trips, _, _, rfl⟩
set_option maxRecDepth 100000 in
theorem wm_RL_114 : Cond.methodLink RL 114 yX4_worst ∈ k_tbl := k_in (List.mem_append_right _ (List.mem_of_getElem? (i := 466) (by decide +kernel))) (by decide +kernel)
set_option maxRecDepth 100000 in
theorem wc_X4_worst : Cond.code yX4_worst cX4_worst 4 (some .int) ∈ k_tbl := k_in (List.mem_append_right _ (List.mem_of_getElem? (i := 469) (by decide +kernel))) (by decide +kernel)
set_option maxRecDepth 100000 in
theorem wn_X4_worst : Cond.instanceMethod yX4_worst ∈ k_tbl := k_in (List.mem_append_right _ (List.mem_of_getElem? (i := 467) (by decide +kernel))) (by decide +kernel)
set_option maxRecDepth 100000 in
theorem ws_X4_worst : Cond.selects RX4 yX4_worst yX4_worst ∈ k_tbl := k_in (List.mem_append_right _ (List.mem_of_getElem? (i := 468) (by decide +kernel))) (by decide +kernel)
theorem lkV_RL_114 : k_lkV RL 114 4 yX4_worst cX4_worst 4 (some .int) 0 := ⟨⟨wm_RL_114, wi_RX4, wc_X4_worst, by decide +kernel, by decide⟩, wn_X4_worst, ws_X4_worst, _, _, rfl⟩
set_option maxRecDepth 100000 in
theorem wm_RL_117 : Cond.methodLink RL 117 yX5_worst ∈ k_tbl := k_in (List.mem_append_right _ (List.mem_of_getElem? (i := 939) (by decide +kernel))) (by decide +kernel)
set_option maxRecDepth 100000 in
theorem wc_X5_worst : Cond.code yX5_worst cX5_worst 6 (some .int) ∈ k_tbl := k_in (List.mem_append_right _ (List.mem_of_getElem? (i := 942) (by decide +kernel))) (by decide +kernel)
set_option maxRecDepth 100000 in
theorem wn_X5_worst : Cond.instanceMethod yX5_worst ∈ k_tbl := k_in (List.mem_append_right _ (List.mem_of_getElem? (i := 940) (by decide +kernel))) (by decide +kernel)
set_option maxRecDepth 100000 in
theorem ws_X5_worst : Cond.selects RX5 yX5_worst yX5_worst ∈ k_tbl := k_in (List.mem_append_right _ (List.mem_of_getElem? (i := 941) (by decide +kernel))) (by decide +kernel)
theorem lkV_RL_117 : k_lkV RL 117 5 yX5_worst cX5_worst 6 (some .int) 0 := ⟨⟨wm_RL_117, wi_RX5, wc_X5_worst, by decide +kernel, by decide⟩, wn_X5_worst, ws_X5_worst, _, _, rfl⟩
set_option maxRecDepth 100000 in
theorem wm_RL_118 : Cond.methodLink RL 118 yX4_best ∈ k_tbl := k_in (List.mem_append_right _ (List.mem_of_getElem? (i := 478) (by decide +kernel))) (by decide +kernel)
set_option maxRecDepth 100000 in
theorem wc_X4_best : Cond.code yX4_best cX4_best 3 (some .int) ∈ k_tbl := k_in (List.mem_append_right _ (List.mem_of_getElem? (i := 481) (by decide +kernel))) (by decide +kernel)
set_option maxRecDepth 100000 in
theorem wn_X4_best : Cond.instanceMethod yX4_best ∈ k_tbl := k_in (List.mem_append_right _ (List.mem_of_getElem? (i := 479) (by decide +kernel))) (by decide +kernel)
set_option maxRecDepth 100000 in
theorem ws_X4_best : Cond.selects RX4 yX4_best yX4_best ∈ k_tbl := k_in (List.mem_append_right _ (List.mem_of_getElem? (i := 480) (by decide +kernel))) (by decide +kernel)
theorem lkV_RL_118 : k_lkV RL 118 4 yX4_best cX4_best 3 (some .int) 1 := ⟨⟨wm_RL_118, wi_RX4, wc_X4_best, by decide +kernel, by decide⟩, wn_X4_best, ws_X4_best, _, _, rfl⟩
set_option maxRecDepth 100000 in
theorem wm_RL_121 : Cond.methodLink RL 121 yX5_best ∈ k_tbl := k_in (List.mem_append_right _ (List.mem_of_getElem? (i := 943) (by decide +kernel))) (by decide +kernel)
set_option maxRecDepth 100000 in
theorem wc_X5_best : Cond.code yX5_best cX5_best 2 (some .int) ∈ k_tbl := k_in (List.mem_append_right _ (List.mem_of_getElem? (i := 946) (by decide +kernel))) (by decide +kernel)
set_option maxRecDepth 100000 in
theorem wn_X5_best : Cond.instanceMethod yX5_best ∈ k_tbl := k_in (List.mem_append_right _ (List.mem_of_getElem? (i := 944) (by decide +kernel))) (by decide +kernel)
set_option maxRecDepth 100000 in
theorem ws_X5_best : Cond.selects RX5 yX5_best yX5_best ∈ k_tbl := k_in (List.mem_append_right _ (List.mem_of_getElem? (i := 945) (by decide +kernel))) (by decide +kernel)
theorem lkV_RL_121 : k_lkV RL 121 5 yX5_best cX5_best 2 (some .int) 1 := ⟨⟨wm_RL_121, wi_RX5, wc_X5_best, by decide +kernel, by decide⟩, wn_X5_best, ws_X5_best, _, _, rfl⟩
set_option maxRecDepth 100000 in
theorem wm_RL_122 : Cond.methodLink RL 122 yX4_mend ∈ k_tbl := k_in (List.mem_append_right _ (List.mem_of_getElem? (i := 490) (by decide +kernel))) (by decide +kernel)
set_option maxRecDepth 100000 in
theorem wc_X4_mend : Cond.code yX4_mend cX4_mend 3 (some .int) ∈ k_tbl := k_in (List.mem_append_right _ (List.mem_of_getElem? (i := 493) (by decide +kernel))) (by decide +kernel)
set_option maxRecDepth 100000 in
theorem wn_X4_mend : Cond.instanceMethod yX4_mend ∈ k_tbl := k_in (List.mem_append_right _ (List.mem_of_getElem? (i := 491) (by decide +kernel))) (by decide +kernel)
set_option maxRecDepth 100000 in
theorem ws_X4_mend : Cond.selects RX4 yX4_mend yX4_mend ∈ k_tbl := k_in (List.mem_append_right _ (List.mem_of_getElem? (i := 492) (by decide +kernel))) (by decide +kernel)
theorem lkV_RL_122 : k_lkV RL 122 4 yX4_mend cX4_mend 3 (some .int) 1 := ⟨⟨wm_RL_122, wi_RX4, wc_X4_mend, by decide +kernel, by decide⟩, wn_X4_mend, ws_X4_mend, _, _, rfl⟩
set_option maxRecDepth 100000 in
theorem wm_RL_125 : Cond.methodLink RL 125 yX5_mend ∈ k_tbl := k_in (List.mem_append_right _ (List.mem_of_getElem? (i := 952) (by decide +kernel))) (by decide +kernel)
set_option maxRecDepth 100000 in
theorem wc_X5_mend : Cond.code yX5_mend cX5_mend 6 (some .int) ∈ k_tbl := k_in (List.mem_append_right _ (List.mem_of_getElem? (i := 955) (by decide +kernel))) (by decide +kernel)
set_option maxRecDepth 100000 in
theorem wn_X5_mend : Cond.instanceMethod yX5_mend ∈ k_tbl := k_in (List.mem_append_right _ (List.mem_of_getElem? (i := 953) (by decide +kernel))) (by decide +kernel)
set_option maxRecDepth 100000 in
theorem ws_X5_mend : Cond.selects RX5 yX5_mend yX5_mend ∈ k_tbl := k_in (List.mem_append_right _ (List.mem_of_getElem? (i := 954) (by decide +kernel))) (by decide +kernel)
theorem lkV_RL_125 : k_lkV RL 125 5 yX5_mend cX5_mend 6 (some .int) 1 := ⟨⟨wm_RL_125, wi_RX5, wc_X5_mend, by decide +kernel, by decide⟩, wn_X5_mend, ws_X5_mend, _, _, rfl⟩
set_option maxRecDepth 100000 in
theorem wm_RL_126 : Cond.methodLink RL 126 yX4_tune ∈ k_tbl := k_in (List.mem_append_right _ (List.mem_of_getElem? (i := 494) (by decide +kernel))) (by decide +kernel)
set_option maxRecDepth 100000 in
theorem wc_X4_tune : Cond.code yX4_tune cX4_tune 4 (some .int) ∈ k_tbl := k_in (List.mem_append_right _ (List.mem_of_getElem? (i := 497) (by decide +kernel))) (by decide +kernel)
set_option maxRecDepth 100000 in
theorem wn_X4_tune : Cond.instanceMethod yX4_tune ∈ k_tbl := k_in (List.mem_append_right _ (List.mem_of_getElem? (i := 495) (by decide +kernel))) (by decide +kernel)
set_option maxRecDepth 100000 in
theorem ws_X4_tune : Cond.selects RX4 yX4_tune yX4_tune ∈ k_tbl := k_in (List.mem_append_right _ (List.mem_of_getElem? (i := 496) (by decide +kernel))) (by decide +kernel)
theorem lkV_RL_126 : k_lkV RL 126 4 yX4_tune cX4_tune 4 (some .int) 2 := ⟨⟨wm_RL_126, wi_RX4, wc_X4_tune, by decide +kernel, by decide⟩, wn_X4_tune, ws_X4_tune, _, _, rfl⟩
set_option maxRecDepth 100000 in
theorem wm_RL_129 : Cond.methodLink RL 129 yX5_tune ∈ k_tbl := k_in (List.mem_append_right _ (List.mem_of_getElem? (i := 956) (by decide +kernel))) (by decide +kernel)
set_option maxRecDepth 100000 in
theorem wc_X5_tune : Cond.code yX5_tune cX5_tune 3 (some .int) ∈ k_tbl := k_in (List.mem_append_right _ (List.mem_of_getElem? (i := 959) (by decide +kernel))) (by decide +kernel)
set_option maxRecDepth 100000 in
theorem wn_X5_tune : Cond.instanceMethod yX5_tune ∈ k_tbl := k_in (List.mem_append_right _ (List.mem_of_getElem? (i := 957) (by decide +kernel))) (by decide +kernel)
set_option maxRecDepth 100000 in
theorem ws_X5_tune : Cond.selects RX5 yX5_tune yX5_tune ∈ k_tbl := k_in (List.mem_append_right _ (List.mem_of_getElem? (i := 958) (by decide +kernel))) (by decide +kernel)
theorem lkV_RL_129 : k_lkV RL 129 5 yX5_tune cX5_tune 3 (some .int) 2 := ⟨⟨wm_RL_129, wi_RX5, wc_X5_tune, by decide +kernel, by decide⟩, wn_X5_tune, ws_X5_tune, _, _, rfl⟩
set_option maxRecDepth 100000 in
theorem wm_RL_130 : Cond.methodLink RL 130 yX4_hush ∈ k_tbl := k_in (List.mem_append_right _ (List.mem_of_getElem? (i := 498) (by decide +kernel))) (by decide +kernel)
set_option maxRecDepth 100000 in
theorem wc_X4_hush : Cond.code yX4_hush cX4_hush 3 (some .int) ∈ k_tbl := k_in (List.mem_append_right _ (List.mem_of_getElem? (i := 501) (by decide +kernel))) (by decide +kernel)
set_option maxRecDepth 100000 in
theorem wn_X4_hush : Cond.instanceMethod yX4_hush ∈ k_tbl := k_in (List.mem_append_right _ (List.mem_of_getElem? (i := 499) (by decide +kernel))) (by decide +kernel)
set_option maxRecDepth 100000 in
theorem ws_X4_hush : Cond.selects RX4 yX4_hush yX4_hush ∈ k_tbl := k_in (List.mem_append_right _ (List.mem_of_getElem? (i := 500) (by decide +kernel))) (by decide +kernel)
theorem lkV_RL_130 : k_lkV RL 130 4 yX4_hush cX4_hush 3 (some .int) 1 := ⟨⟨wm_RL_130, wi_RX4, wc_X4_hush, by decide +kernel, by decide⟩, wn_X4_hush, ws_X4_hush, _, _, rfl⟩
set_option maxRecDepth 100000 in
theorem wm_RL_133 : Cond.methodLink RL 133 yX5_hush ∈ k_tbl := k_in (List.mem_append_right _ (List.mem_of_getElem? (i := 960) (by decide +kernel))) (by decide +kernel)
set_option maxRecDepth 100000 in
theorem wc_X5_hush : Cond.code yX5_hush cX5_hush 6 (some .int) ∈ k_tbl := k_in (List.mem_append_right _ (List.mem_of_getElem? (i := 963) (by decide +kernel))) (by decide +kernel)
set_option maxRecDepth 100000 in
theorem wn_X5_hush : Cond.instanceMethod yX5_hush ∈ k_tbl := k_in (List.mem_append_right _ (List.mem_of_getElem? (i := 961) (by decide +kernel))) (by decide +kernel)
set_option maxRecDepth 100000 in
theorem ws_X5_hush : Cond.selects RX5 yX5_hush yX5_hush ∈ k_tbl := k_in (List.mem_append_right _ (List.mem_of_getElem? (i := 962) (by decide +kernel))) (by decide +kernel)
theorem lkV_RL_133 : k_lkV RL 133 5 yX5_hush cX5_hush 6 (some .int) 1 := ⟨⟨wm_RL_133, wi_RX5, wc_X5_hush, by decide +kernel, by decide⟩, wn_X5_hush, ws_X5_hush, _, _, rfl⟩
set_option maxRecDepth 100000 in
theorem wm_RL_134 : Cond.methodLink RL 134 yX4_patterns ∈ k_tbl := k_in (List.mem_append_right _ (List.mem_of_getElem? (i := 506) (by decide +kernel))) (by decide +kernel)
set_option maxRecDepth 100000 in
theorem wc_X4_patterns : Cond.code yX4_patterns cX4_patterns 6 (some .int) ∈ k_tbl := k_in (List.mem_append_right _ (List.mem_of_getElem? (i := 509) (by decide +kernel))) (by decide +kernel)
set_option maxRecDepth 100000 in
theorem wn_X4_patterns : Cond.instanceMethod yX4_patterns ∈ k_tbl := k_in (List.mem_append_right _ (List.mem_of_getElem? (i := 507) (by decide +kernel))) (by decide +kernel)
set_option maxRecDepth 100000 in
theorem ws_X4_patterns : Cond.selects RX4 yX4_patterns yX4_patterns ∈ k_tbl := k_in (List.mem_append_right _ (List.mem_of_getElem? (i := 508) (by decide +kernel))) (by decide +kernel)
theorem lkV_RL_134 : k_lkV RL 134 4 yX4_patterns cX4_patterns 6 (some .int) 1 := ⟨⟨wm_RL_134, wi_RX4, wc_X4_patterns, by decide +kernel, by decide⟩, wn_X4_patterns, ws_X4_patterns, _, _, rfl⟩
set_option maxRecDepth 100000 in
theorem wm_RL_137 : Cond.methodLink RL 137 yX5_patterns ∈ k_tbl := k_in (List.mem_append_right _ (List.mem_of_getElem? (i := 965) (by decide +kernel))) (by decide +kernel)
set_option maxRecDepth 100000 in
theorem wc_X5_patterns : Cond.code yX5_patterns cX5_patterns 6 (some .int) ∈ k_tbl := k_in (List.mem_append_right _ (List.mem_of_getElem? (i := 968) (by decide +kernel))) (by decide +kernel)
set_option maxRecDepth 100000 in
theorem wn_X5_patterns : Cond.instanceMethod yX5_patterns ∈ k_tbl := k_in (List.mem_append_right _ (List.mem_of_getElem? (i := 966) (by decide +kernel))) (by decide +kernel)
set_option maxRecDepth 100000 in
theorem ws_X5_patterns : Cond.selects RX5 yX5_patterns yX5_patterns ∈ k_tbl := k_in (List.mem_append_right _ (List.mem_of_getElem? (i := 967) (by decide +kernel))) (by decide +kernel)
theorem lkV_RL_137 : k_lkV RL 137 5 yX5_patterns cX5_patterns 6 (some .int) 1 := ⟨⟨wm_RL_137, wi_RX5, wc_X5_patterns, by decide +kernel, by decide⟩, wn_X5_patterns, ws_X5_patterns, _, _, rfl⟩
set_option maxRecDepth 100000 in
theorem wm_RL_138 : Cond.methodLink RL 138 yX4_kinds ∈ k_tbl := k_in (List.mem_append_right _ (List.mem_of_getElem? (i := 518) (by decide +kernel))) (by decide +kernel)
set_option maxRecDepth 100000 in
theorem wc_X4_kinds : Cond.code yX4_kinds cX4_kinds 4 (some .int) ∈ k_tbl := k_in (List.mem_append_right _ (List.mem_of_getElem? (i := 521) (by decide +kernel))) (by decide +kernel)
set_option maxRecDepth 100000 in
theorem wn_X4_kinds : Cond.instanceMethod yX4_kinds ∈ k_tbl := k_in (List.mem_append_right _ (List.mem_of_getElem? (i := 519) (by decide +kernel))) (by decide +kernel)
set_option maxRecDepth 100000 in
theorem ws_X4_kinds : Cond.selects RX4 yX4_kinds yX4_kinds ∈ k_tbl := k_in (List.mem_append_right _ (List.mem_of_getElem? (i := 520) (by decide +kernel))) (by decide +kernel)
theorem lkV_RL_138 : k_lkV RL 138 4 yX4_kinds cX4_kinds 4 (some .int) 2 := ⟨⟨wm_RL_138, wi_RX4, wc_X4_kinds, by decide +kernel, by decide⟩, wn_X4_kinds, ws_X4_kinds, _, _, rfl⟩
set_option maxRecDepth 100000 in
theorem wm_RL_141 : Cond.methodLink RL 141 yX5_kinds ∈ k_tbl := k_in (List.mem_append_right _ (List.mem_of_getElem? (i := 977) (by decide +kernel))) (by decide +kernel)
set_option maxRecDepth 100000 in
theorem wc_X5_kinds : Cond.code yX5_kinds cX5_kinds 4 (some .int) ∈ k_tbl := k_in (List.mem_append_right _ (List.mem_of_getElem? (i := 980) (by decide +kernel))) (by decide +kernel)
set_option maxRecDepth 100000 in
theorem wn_X5_kinds : Cond.instanceMethod yX5_kinds ∈ k_tbl := k_in (List.mem_append_right _ (List.mem_of_getElem? (i := 978) (by decide +kernel))) (by decide +kernel)
set_option maxRecDepth 100000 in
theorem ws_X5_kinds : Cond.selects RX5 yX5_kinds yX5_kinds ∈ k_tbl := k_in (List.mem_append_right _ (List.mem_of_getElem? (i := 979) (by decide +kernel))) (by decide +kernel)
theorem lkV_RL_141 : k_lkV RL 141 5 yX5_kinds cX5_kinds 4 (some .int) 2 := ⟨⟨wm_RL_141, wi_RX5, wc_X5_kinds, by decide +kernel, by decide⟩, wn_X5_kinds, ws_X5_kinds, _, _, rfl⟩
set_option maxRecDepth 100000 in
theorem wm_RL_142 : Cond.methodLink RL 142 yX4_test ∈ k_tbl := k_in (List.mem_append_right _ (List.mem_of_getElem? (i := 526) (by decide +kernel))) (by decide +kernel)
set_option maxRecDepth 100000 in
theorem wc_X4_test : Cond.code yX4_test cX4_test 9 (some .int) ∈ k_tbl := k_in (List.mem_append_right _ (List.mem_of_getElem? (i := 529) (by decide +kernel))) (by decide +kernel)
set_option maxRecDepth 100000 in
theorem wn_X4_test : Cond.instanceMethod yX4_test ∈ k_tbl := k_in (List.mem_append_right _ (List.mem_of_getElem? (i := 527) (by decide +kernel))) (by decide +kernel)
set_option maxRecDepth 100000 in
theorem ws_X4_test : Cond.selects RX4 yX4_test yX4_test ∈ k_tbl := k_in (List.mem_append_right _ (List.mem_of_getElem? (i := 528) (by decide +kernel))) (by decide +kernel)
theorem lkV_RL_142 : k_lkV RL 142 4 yX4_test cX4_test 9 (some .int) 2 := ⟨⟨wm_RL_142, wi_RX4, wc_X4_test, by decide +kernel, by decide⟩, wn_X4_test, ws_X4_test, _, _, rfl⟩
set_option maxRecDepth 100000 in
theorem wm_RL_145 : Cond.methodLink RL 145 yX5_test ∈ k_tbl := k_in (List.mem_append_right _ (List.mem_of_getElem? (i := 985) (by decide +kernel))) (by decide +kernel)
set_option maxRecDepth 100000 in
theorem wc_X5_test : Cond.code yX5_test cX5_test 12 (some .int) ∈ k_tbl := k_in (List.mem_append_right _ (List.mem_of_getElem? (i := 988) (by decide +kernel))) (by decide +kernel)
set_option maxRecDepth 100000 in
theorem wn_X5_test : Cond.instanceMethod yX5_test ∈ k_tbl := k_in (List.mem_append_right _ (List.mem_of_getElem? (i := 986) (by decide +kernel))) (by decide +kernel)
set_option maxRecDepth 100000 in
theorem ws_X5_test : Cond.selects RX5 yX5_test yX5_test ∈ k_tbl := k_in (List.mem_append_right _ (List.mem_of_getElem? (i := 987) (by decide +kernel))) (by decide +kernel)
theorem lkV_RL_145 : k_lkV RL 145 5 yX5_test cX5_test 12 (some .int) 2 := ⟨⟨wm_RL_145, wi_RX5, wc_X5_test, by decide +kernel, by decide⟩, wn_X5_test, ws_X5_test, _, _, rfl⟩
set_option maxRecDepth 100000 in
theorem wm_RL_146 : Cond.methodLink RL 146 yX4_duel ∈ k_tbl := k_in (List.mem_append_right _ (List.mem_of_getElem? (i := 539) (by decide +kernel))) (by decide +kernel)
set_option maxRecDepth 100000 in
theorem wc_X4_duel : Cond.code yX4_duel cX4_duel 2 (some .int) ∈ k_tbl := k_in (List.mem_append_right _ (List.mem_of_getElem? (i := 542) (by decide +kernel))) (by decide +kernel)
set_option maxRecDepth 100000 in
theorem wn_X4_duel : Cond.instanceMethod yX4_duel ∈ k_tbl := k_in (List.mem_append_right _ (List.mem_of_getElem? (i := 540) (by decide +kernel))) (by decide +kernel)
set_option maxRecDepth 100000 in
theorem ws_X4_duel : Cond.selects RX4 yX4_duel yX4_duel ∈ k_tbl := k_in (List.mem_append_right _ (List.mem_of_getElem? (i := 541) (by decide +kernel))) (by decide +kernel)
theorem lkV_RL_146 : k_lkV RL 146 4 yX4_duel cX4_duel 2 (some .int) 1 := ⟨⟨wm_RL_146, wi_RX4, wc_X4_duel, by decide +kernel, by decide⟩, wn_X4_duel, ws_X4_duel, _, _, rfl⟩
set_option maxRecDepth 100000 in
theorem wm_RL_149 : Cond.methodLink RL 149 yX5_duel ∈ k_tbl := k_in (List.mem_append_right _ (List.mem_of_getElem? (i := 989) (by decide +kernel))) (by decide +kernel)
set_option maxRecDepth 100000 in
theorem wc_X5_duel : Cond.code yX5_duel cX5_duel 8 (some .int) ∈ k_tbl := k_in (List.mem_append_right _ (List.mem_of_getElem? (i := 992) (by decide +kernel))) (by decide +kernel)
set_option maxRecDepth 100000 in
theorem wn_X5_duel : Cond.instanceMethod yX5_duel ∈ k_tbl := k_in (List.mem_append_right _ (List.mem_of_getElem? (i := 990) (by decide +kernel))) (by decide +kernel)
set_option maxRecDepth 100000 in
theorem ws_X5_duel : Cond.selects RX5 yX5_duel yX5_duel ∈ k_tbl := k_in (List.mem_append_right _ (List.mem_of_getElem? (i := 991) (by decide +kernel))) (by decide +kernel)
theorem lkV_RL_149 : k_lkV RL 149 5 yX5_duel cX5_duel 8 (some .int) 1 := ⟨⟨wm_RL_149, wi_RX5, wc_X5_duel, by decide +kernel, by decide⟩, wn_X5_duel, ws_X5_duel, _, _, rfl⟩
set_option maxRecDepth 100000 in
theorem wm_RL_150 : Cond.methodLink RL 150 yX4_odds ∈ k_tbl := k_in (List.mem_append_right _ (List.mem_of_getElem? (i := 552) (by decide +kernel))) (by decide +kernel)
set_option maxRecDepth 100000 in
theorem wc_X4_odds : Cond.code yX4_odds cX4_odds 6 (some .int) ∈ k_tbl := k_in (List.mem_append_right _ (List.mem_of_getElem? (i := 555) (by decide +kernel))) (by decide +kernel)
set_option maxRecDepth 100000 in
theorem wn_X4_odds : Cond.instanceMethod yX4_odds ∈ k_tbl := k_in (List.mem_append_right _ (List.mem_of_getElem? (i := 553) (by decide +kernel))) (by decide +kernel)
set_option maxRecDepth 100000 in
theorem ws_X4_odds : Cond.selects RX4 yX4_odds yX4_odds ∈ k_tbl := k_in (List.mem_append_right _ (List.mem_of_getElem? (i := 554) (by decide +kernel))) (by decide +kernel)
theorem lkV_RL_150 : k_lkV RL 150 4 yX4_odds cX4_odds 6 (some .int) 2 := ⟨⟨wm_RL_150, wi_RX4, wc_X4_odds, by decide +kernel, by decide⟩, wn_X4_odds, ws_X4_odds, _, _, rfl⟩
set_option maxRecDepth 100000 in
theorem wm_RL_153 : Cond.methodLink RL 153 yX5_odds ∈ k_tbl := k_in (List.mem_append_right _ (List.mem_of_getElem? (i := 998) (by decide +kernel))) (by decide +kernel)
set_option maxRecDepth 100000 in
theorem wc_X5_odds : Cond.code yX5_odds cX5_odds 3 (some .int) ∈ k_tbl := k_in (List.mem_append_right _ (List.mem_of_getElem? (i := 1001) (by decide +kernel))) (by decide +kernel)
set_option maxRecDepth 100000 in
theorem wn_X5_odds : Cond.instanceMethod yX5_odds ∈ k_tbl := k_in (List.mem_append_right _ (List.mem_of_getElem? (i := 999) (by decide +kernel))) (by decide +kernel)
set_option maxRecDepth 100000 in
theorem ws_X5_odds : Cond.selects RX5 yX5_odds yX5_odds ∈ k_tbl := k_in (List.mem_append_right _ (List.mem_of_getElem? (i := 1000) (by decide +kernel))) (by decide +kernel)
theorem lkV_RL_153 : k_lkV RL 153 5 yX5_odds cX5_odds 3 (some .int) 2 := ⟨⟨wm_RL_153, wi_RX5, wc_X5_odds, by decide +kernel, by decide⟩, wn_X5_odds, ws_X5_odds, _, _, rfl⟩
set_option maxRecDepth 100000 in
theorem wm_RL_154 : Cond.methodLink RL 154 yX4_mid ∈ k_tbl := k_in (List.mem_append_right _ (List.mem_of_getElem? (i := 577) (by decide +kernel))) (by decide +kernel)
set_option maxRecDepth 100000 in
theorem wc_X4_mid : Cond.code yX4_mid cX4_mid 5 (some .int) ∈ k_tbl := k_in (List.mem_append_right _ (List.mem_of_getElem? (i := 580) (by decide +kernel))) (by decide +kernel)
set_option maxRecDepth 100000 in
theorem wn_X4_mid : Cond.instanceMethod yX4_mid ∈ k_tbl := k_in (List.mem_append_right _ (List.mem_of_getElem? (i := 578) (by decide +kernel))) (by decide +kernel)
set_option maxRecDepth 100000 in
theorem ws_X4_mid : Cond.selects RX4 yX4_mid yX4_mid ∈ k_tbl := k_in (List.mem_append_right _ (List.mem_of_getElem? (i := 579) (by decide +kernel))) (by decide +kernel)
theorem lkV_RL_154 : k_lkV RL 154 4 yX4_mid cX4_mid 5 (some .int) 1 := ⟨⟨wm_RL_154, wi_RX4, wc_X4_mid, by decide +kernel, by decide⟩, wn_X4_mid, ws_X4_mid, _, _, rfl⟩
set_option maxRecDepth 100000 in
theorem wm_RL_157 : Cond.methodLink RL 157 yX5_mid ∈ k_tbl := k_in (List.mem_append_right _ (List.mem_of_getElem? (i := 1020) (by decide +kernel))) (by decide +kernel)
set_option maxRecDepth 100000 in
theorem wc_X5_mid : Cond.code yX5_mid cX5_mid 2 (some .int) ∈ k_tbl := k_in (List.mem_append_right _ (List.mem_of_getElem? (i := 1023) (by decide +kernel))) (by decide +kernel)
set_option maxRecDepth 100000 in
theorem wn_X5_mid : Cond.instanceMethod yX5_mid ∈ k_tbl := k_in (List.mem_append_right _ (List.mem_of_getElem? (i := 1021) (by decide +kernel))) (by decide +kernel)
set_option maxRecDepth 100000 in
theorem ws_X5_mid : Cond.selects RX5 yX5_mid yX5_mid ∈ k_tbl := k_in (List.mem_append_right _ (List.mem_of_getElem? (i := 1022) (by decide +kernel))) (by decide +kernel)
theorem lkV_RL_157 : k_lkV RL 157 5 yX5_mid cX5_mid 2 (some .int) 1 := ⟨⟨wm_RL_157, wi_RX5, wc_X5_mid, by decide +kernel, by decide⟩, wn_X5_mid, ws_X5_mid, _, _, rfl⟩
set_option maxRecDepth 100000 in
theorem wm_RL_158 : Cond.methodLink RL 158 yX4_lots ∈ k_tbl := k_in (List.mem_append_right _ (List.mem_of_getElem? (i := 581) (by decide +kernel))) (by decide +kernel)
set_option maxRecDepth 100000 in
theorem wc_X4_lots : Cond.code yX4_lots cX4_lots 6 (some .int) ∈ k_tbl := k_in (List.mem_append_right _ (List.mem_of_getElem? (i := 584) (by decide +kernel))) (by decide +kernel)
set_option maxRecDepth 100000 in
theorem wn_X4_lots : Cond.instanceMethod yX4_lots ∈ k_tbl := k_in (List.mem_append_right _ (List.mem_of_getElem? (i := 582) (by decide +kernel))) (by decide +kernel)
set_option maxRecDepth 100000 in
theorem ws_X4_lots : Cond.selects RX4 yX4_lots yX4_lots ∈ k_tbl := k_in (List.mem_append_right _ (List.mem_of_getElem? (i := 583) (by decide +kernel))) (by decide +kernel)
theorem lkV_RL_158 : k_lkV RL 158 4 yX4_lots cX4_lots 6 (some .int) 2 := ⟨⟨wm_RL_158, wi_RX4, wc_X4_lots, by decide +kernel, by decide⟩, wn_X4_lots, ws_X4_lots, _, _, rfl⟩
set_option maxRecDepth 100000 in
theorem wm_RL_161 : Cond.methodLink RL 161 yX5_lots ∈ k_tbl := k_in (List.mem_append_right _ (List.mem_of_getElem? (i := 1024) (by decide +kernel))) (by decide +kernel)
set_option maxRecDepth 100000 in
theorem wc_X5_lots : Cond.code yX5_lots cX5_lots 8 (some .int) ∈ k_tbl := k_in (List.mem_append_right _ (List.mem_of_getElem? (i := 1027) (by decide +kernel))) (by decide +kernel)
set_option maxRecDepth 100000 in
theorem wn_X5_lots : Cond.instanceMethod yX5_lots ∈ k_tbl := k_in (List.mem_append_right _ (List.mem_of_getElem? (i := 1025) (by decide +kernel))) (by decide +kernel)
set_option maxRecDepth 100000 in
theorem ws_X5_lots : Cond.selects RX5 yX5_lots yX5_lots ∈ k_tbl := k_in (List.mem_append_right _ (List.mem_of_getElem? (i := 1026) (by decide +kernel))) (by decide +kernel)
theorem lkV_RL_161 : k_lkV RL 161 5 yX5_lots cX5_lots 8 (some .int) 2 := ⟨⟨wm_RL_161, wi_RX5, wc_X5_lots, by decide +kernel, by decide⟩, wn_X5_lots, ws_X5_lots, _, _, rfl⟩
set_option maxRecDepth 100000 in
theorem wm_RL_162 : Cond.methodLink RL 162 yX4_asked ∈ k_tbl := k_in (List.mem_append_right _ (List.mem_of_getElem? (i := 591) (by decide +kernel))) (by decide +kernel)
set_option maxRecDepth 100000 in
theorem wc_X4_asked : Cond.code yX4_asked cX4_asked 1 (some .int) ∈ k_tbl := k_in (List.mem_append_right _ (List.mem_of_getElem? (i := 594) (by decide +kernel))) (by decide +kernel)
set_option maxRecDepth 100000 in
theorem wn_X4_asked : Cond.instanceMethod yX4_asked ∈ k_tbl := k_in (List.mem_append_right _ (List.mem_of_getElem? (i := 592) (by decide +kernel))) (by decide +kernel)
set_option maxRecDepth 100000 in
theorem ws_X4_asked : Cond.selects RX4 yX4_asked yX4_asked ∈ k_tbl := k_in (List.mem_append_right _ (List.mem_of_getElem? (i := 593) (by decide +kernel))) (by decide +kernel)
theorem lkV_RL_162 : k_lkV RL 162 4 yX4_asked cX4_asked 1 (some .int) 0 := ⟨⟨wm_RL_162, wi_RX4, wc_X4_asked, by decide +kernel, by decide⟩, wn_X4_asked, ws_X4_asked, _, _, rfl⟩
set_option maxRecDepth 100000 in
theorem wm_RL_165 : Cond.methodLink RL 165 yX5_asked ∈ k_tbl := k_in (List.mem_append_right _ (List.mem_of_getElem? (i := 1032) (by decide +kernel))) (by decide +kernel)
set_option maxRecDepth 100000 in
theorem wc_X5_asked : Cond.code yX5_asked cX5_asked 1 (some .int) ∈ k_tbl := k_in (List.mem_append_right _ (List.mem_of_getElem? (i := 1035) (by decide +kernel))) (by decide +kernel)
set_option maxRecDepth 100000 in
theorem wn_X5_asked : Cond.instanceMethod yX5_asked ∈ k_tbl := k_in (List.mem_append_right _ (List.mem_of_getElem? (i := 1033) (by decide +kernel))) (by decide +kernel)
set_option maxRecDepth 100000 in
theorem ws_X5_asked : Cond.selects RX5 yX5_asked yX5_asked ∈ k_tbl := k_in (List.mem_append_right _ (List.mem_of_getElem? (i := 1034) (by decide +kernel))) (by decide +kernel)
theorem lkV_RL_165 : k_lkV RL 165 5 yX5_asked cX5_asked 1 (some .int) 0 := ⟨⟨wm_RL_165, wi_RX5, wc_X5_asked, by decide +kernel, by decide⟩, wn_X5_asked, ws_X5_asked, _, _, rfl⟩
set_option maxRecDepth 100000 in
theorem wm_RL_166 : Cond.methodLink RL 166 yX4_upper ∈ k_tbl := k_in (List.mem_append_right _ (List.mem_of_getElem? (i := 595) (by decide +kernel))) (by decide +kernel)
set_option maxRecDepth 100000 in
theorem wc_X4_upper : Cond.code yX4_upper cX4_upper 1 (some .long) ∈ k_tbl := k_in (List.mem_append_right _ (List.mem_of_getElem? (i := 598) (by decide +kernel))) (by decide +kernel)
set_option maxRecDepth 100000 in
theorem wn_X4_upper : Cond.instanceMethod yX4_upper ∈ k_tbl := k_in (List.mem_append_right _ (List.mem_of_getElem? (i := 596) (by decide +kernel))) (by decide +kernel)
set_option maxRecDepth 100000 in
theorem ws_X4_upper : Cond.selects RX4 yX4_upper yX4_upper ∈ k_tbl := k_in (List.mem_append_right _ (List.mem_of_getElem? (i := 597) (by decide +kernel))) (by decide +kernel)
theorem lkV_RL_166 : k_lkV RL 166 4 yX4_upper cX4_upper 1 (some .long) 0 := ⟨⟨wm_RL_166, wi_RX4, wc_X4_upper, by decide +kernel, by decide⟩, wn_X4_upper, ws_X4_upper, _, _, rfl⟩
set_option maxRecDepth 100000 in
theorem wm_RL_170 : Cond.methodLink RL 170 yX5_upper ∈ k_tbl := k_in (List.mem_append_right _ (List.mem_of_getElem? (i := 1036) (by decide +kernel))) (by decide +kernel)
set_option maxRecDepth 100000 in
theorem wc_X5_upper : Cond.code yX5_upper cX5_upper 1 (some .long) ∈ k_tbl := k_in (List.mem_append_right _ (List.mem_of_getElem? (i := 1039) (by decide +kernel))) (by decide +kernel)
set_option maxRecDepth 100000 in
theorem wn_X5_upper : Cond.instanceMethod yX5_upper ∈ k_tbl := k_in (List.mem_append_right _ (List.mem_of_getElem? (i := 1037) (by decide +kernel))) (by decide +kernel)
set_option maxRecDepth 100000 in
theorem ws_X5_upper : Cond.selects RX5 yX5_upper yX5_upper ∈ k_tbl := k_in (List.mem_append_right _ (List.mem_of_getElem? (i := 1038) (by decide +kernel))) (by decide +kernel)
theorem lkV_RL_170 : k_lkV RL 170 5 yX5_upper cX5_upper 1 (some .long) 0 := ⟨⟨wm_RL_170, wi_RX5, wc_X5_upper, by decide +kernel, by decide⟩, wn_X5_upper, ws_X5_upper, _, _, rfl⟩
set_option maxRecDepth 100000 in
theorem wm_RL_171 : Cond.methodLink RL 171 yX4_lower ∈ k_tbl := k_in (List.mem_append_right _ (List.mem_of_getElem? (i := 599) (by decide +kernel))) (by decide +kernel)
set_option maxRecDepth 100000 in
theorem wc_X4_lower : Cond.code yX4_lower cX4_lower 1 (some .long) ∈ k_tbl := k_in (List.mem_append_right _ (List.mem_of_getElem? (i := 602) (by decide +kernel))) (by decide +kernel)
set_option maxRecDepth 100000 in
theorem wn_X4_lower : Cond.instanceMethod yX4_lower ∈ k_tbl := k_in (List.mem_append_right _ (List.mem_of_getElem? (i := 600) (by decide +kernel))) (by decide +kernel)
set_option maxRecDepth 100000 in
theorem ws_X4_lower : Cond.selects RX4 yX4_lower yX4_lower ∈ k_tbl := k_in (List.mem_append_right _ (List.mem_of_getElem? (i := 601) (by decide +kernel))) (by decide +kernel)
theorem lkV_RL_171 : k_lkV RL 171 4 yX4_lower cX4_lower 1 (some .long) 0 := ⟨⟨wm_RL_171, wi_RX4, wc_X4_lower, by decide +kernel, by decide⟩, wn_X4_lower, ws_X4_lower, _, _, rfl⟩
set_option maxRecDepth 100000 in
theorem wm_RL_174 : Cond.methodLink RL 174 yX5_lower ∈ k_tbl := k_in (List.mem_append_right _ (List.mem_of_getElem? (i := 1040) (by decide +kernel))) (by decide +kernel)
set_option maxRecDepth 100000 in
theorem wc_X5_lower : Cond.code yX5_lower cX5_lower 1 (some .long) ∈ k_tbl := k_in (List.mem_append_right _ (List.mem_of_getElem? (i := 1043) (by decide +kernel))) (by decide +kernel)
set_option maxRecDepth 100000 in
theorem wn_X5_lower : Cond.instanceMethod yX5_lower ∈ k_tbl := k_in (List.mem_append_right _ (List.mem_of_getElem? (i := 1041) (by decide +kernel))) (by decide +kernel)
set_option maxRecDepth 100000 in
theorem ws_X5_lower : Cond.selects RX5 yX5_lower yX5_lower ∈ k_tbl := k_in (List.mem_append_right _ (List.mem_of_getElem? (i := 1042) (by decide +kernel))) (by decide +kernel)
theorem lkV_RL_174 : k_lkV RL 174 5 yX5_lower cX5_lower 1 (some .long) 0 := ⟨⟨wm_RL_174, wi_RX5, wc_X5_lower, by decide +kernel, by decide⟩, wn_X5_lower, ws_X5_lower, _, _, rfl⟩
set_option maxRecDepth 100000 in
theorem wm_RL_175 : Cond.methodLink RL 175 yX4_count ∈ k_tbl := k_in (List.mem_append_right _ (List.mem_of_getElem? (i := 603) (by decide +kernel))) (by decide +kernel)
set_option maxRecDepth 100000 in
theorem wc_X4_count : Cond.code yX4_count cX4_count 2 (some .int) ∈ k_tbl := k_in (List.mem_append_right _ (List.mem_of_getElem? (i := 606) (by decide +kernel))) (by decide +kernel)
set_option maxRecDepth 100000 in
theorem wn_X4_count : Cond.instanceMethod yX4_count ∈ k_tbl := k_in (List.mem_append_right _ (List.mem_of_getElem? (i := 604) (by decide +kernel))) (by decide +kernel)
set_option maxRecDepth 100000 in
theorem ws_X4_count : Cond.selects RX4 yX4_count yX4_count ∈ k_tbl := k_in (List.mem_append_right _ (List.mem_of_getElem? (i := 605) (by decide +kernel))) (by decide +kernel)
theorem lkV_RL_175 : k_lkV RL 175 4 yX4_count cX4_count 2 (some .int) 1 := ⟨⟨wm_RL_175, wi_RX4, wc_X4_count, by decide +kernel, by decide⟩, wn_X4_count, ws_X4_count, _, _, rfl⟩
set_option maxRecDepth 100000 in
theorem wm_RL_178 : Cond.methodLink RL 178 yX5_count ∈ k_tbl := k_in (List.mem_append_right _ (List.mem_of_getElem? (i := 1044) (by decide +kernel))) (by decide +kernel)
theorem lkV_RL_178 : k_lkV RL 178 5 yX5_count cX5_count 2 (some .int) 1 := ⟨⟨wm_RL_178, wi_RX5, wc_X5_count, by decide +kernel, by decide⟩, wn_X5_count, ws_X5_count, _, _, rfl⟩
set_option maxRecDepth 100000 in
theorem wm_RL_179 : Cond.methodLink RL 179 yX4_finding ∈ k_tbl := k_in (List.mem_append_right _ (List.mem_of_getElem? (i := 624) (by decide +kernel))) (by decide +kernel)
set_option maxRecDepth 100000 in
theorem wc_X4_finding : Cond.code yX4_finding cX4_finding 1 (some .int) ∈ k_tbl := k_in (List.mem_append_right _ (List.mem_of_getElem? (i := 627) (by decide +kernel))) (by decide +kernel)
set_option maxRecDepth 100000 in
theorem wn_X4_finding : Cond.instanceMethod yX4_finding ∈ k_tbl := k_in (List.mem_append_right _ (List.mem_of_getElem? (i := 625) (by decide +kernel))) (by decide +kernel)
set_option maxRecDepth 100000 in
theorem ws_X4_finding : Cond.selects RX4 yX4_finding yX4_finding ∈ k_tbl := k_in (List.mem_append_right _ (List.mem_of_getElem? (i := 626) (by decide +kernel))) (by decide +kernel)
theorem lkV_RL_179 : k_lkV RL 179 4 yX4_finding cX4_finding 1 (some .int) 0 := ⟨⟨wm_RL_179, wi_RX4, wc_X4_finding, by decide +kernel, by decide⟩, wn_X4_finding, ws_X4_finding, _, _, rfl⟩
set_option maxRecDepth 100000 in
theorem wm_RL_182 : Cond.methodLink RL 182 yX5_finding ∈ k_tbl := k_in (List.mem_append_right _ (List.mem_of_getElem? (i := 1059) (by decide +kernel))) (by decide +kernel)
set_option maxRecDepth 100000 in
theorem wc_X5_finding : Cond.code yX5_finding cX5_finding 1 (some .int) ∈ k_tbl := k_in (List.mem_append_right _ (List.mem_of_getElem? (i := 1062) (by decide +kernel))) (by decide +kernel)
set_option maxRecDepth 100000 in
theorem wn_X5_finding : Cond.instanceMethod yX5_finding ∈ k_tbl := k_in (List.mem_append_right _ (List.mem_of_getElem? (i := 1060) (by decide +kernel))) (by decide +kernel)
set_option maxRecDepth 100000 in
theorem ws_X5_finding : Cond.selects RX5 yX5_finding yX5_finding ∈ k_tbl := k_in (List.mem_append_right _ (List.mem_of_getElem? (i := 1061) (by decide +kernel))) (by decide +kernel)
theorem lkV_RL_182 : k_lkV RL 182 5 yX5_finding cX5_finding 1 (some .int) 0 := ⟨⟨wm_RL_182, wi_RX5, wc_X5_finding, by decide +kernel, by decide⟩, wn_X5_finding, ws_X5_finding, _, _, rfl⟩
set_option maxRecDepth 100000 in
theorem wm_RL_183 : Cond.methodLink RL 183 yX4_findings ∈ k_tbl := k_in (List.mem_append_right _ (List.mem_of_getElem? (i := 628) (by decide +kernel))) (by decide +kernel)
set_option maxRecDepth 100000 in
theorem wc_X4_findings : Cond.code yX4_findings cX4_findings 2 (some .int) ∈ k_tbl := k_in (List.mem_append_right _ (List.mem_of_getElem? (i := 631) (by decide +kernel))) (by decide +kernel)
set_option maxRecDepth 100000 in
theorem wn_X4_findings : Cond.instanceMethod yX4_findings ∈ k_tbl := k_in (List.mem_append_right _ (List.mem_of_getElem? (i := 629) (by decide +kernel))) (by decide +kernel)
set_option maxRecDepth 100000 in
theorem ws_X4_findings : Cond.selects RX4 yX4_findings yX4_findings ∈ k_tbl := k_in (List.mem_append_right _ (List.mem_of_getElem? (i := 630) (by decide +kernel))) (by decide +kernel)
theorem lkV_RL_183 : k_lkV RL 183 4 yX4_findings cX4_findings 2 (some .int) 1 := ⟨⟨wm_RL_183, wi_RX4, wc_X4_findings, by decide +kernel, by decide⟩, wn_X4_findings, ws_X4_findings, _, _, rfl⟩
set_option maxRecDepth 100000 in
theorem wm_RL_186 : Cond.methodLink RL 186 yX5_findings ∈ k_tbl := k_in (List.mem_append_right _ (List.mem_of_getElem? (i := 1063) (by decide +kernel))) (by decide +kernel)
set_option maxRecDepth 100000 in
theorem wc_X5_findings : Cond.code yX5_findings cX5_findings 2 (some .int) ∈ k_tbl := k_in (List.mem_append_right _ (List.mem_of_getElem? (i := 1066) (by decide +kernel))) (by decide +kernel)
set_option maxRecDepth 100000 in
theorem wn_X5_findings : Cond.instanceMethod yX5_findings ∈ k_tbl := k_in (List.mem_append_right _ (List.mem_of_getElem? (i := 1064) (by decide +kernel))) (by decide +kernel)
set_option maxRecDepth 100000 in
theorem ws_X5_findings : Cond.selects RX5 yX5_findings yX5_findings ∈ k_tbl := k_in (List.mem_append_right _ (List.mem_of_getElem? (i := 1065) (by decide +kernel))) (by decide +kernel)
theorem lkV_RL_186 : k_lkV RL 186 5 yX5_findings cX5_findings 2 (some .int) 1 := ⟨⟨wm_RL_186, wi_RX5, wc_X5_findings, by decide +kernel, by decide⟩, wn_X5_findings, ws_X5_findings, _, _, rfl⟩
set_option maxRecDepth 100000 in
theorem wm_RL_187 : Cond.methodLink RL 187 yX4_digest ∈ k_tbl := k_in (List.mem_append_right _ (List.mem_of_getElem? (i := 632) (by decide +kernel))) (by decide +kernel)
set_option maxRecDepth 100000 in
theorem wc_X4_digest : Cond.code yX4_digest cX4_digest 5 (some .long) ∈ k_tbl := k_in (List.mem_append_right _ (List.mem_of_getElem? (i := 635) (by decide +kernel))) (by decide +kernel)
set_option maxRecDepth 100000 in
theorem wn_X4_digest : Cond.instanceMethod yX4_digest ∈ k_tbl := k_in (List.mem_append_right _ (List.mem_of_getElem? (i := 633) (by decide +kernel))) (by decide +kernel)
set_option maxRecDepth 100000 in
theorem ws_X4_digest : Cond.selects RX4 yX4_digest yX4_digest ∈ k_tbl := k_in (List.mem_append_right _ (List.mem_of_getElem? (i := 634) (by decide +kernel))) (by decide +kernel)
theorem lkV_RL_187 : k_lkV RL 187 4 yX4_digest cX4_digest 5 (some .long) 0 := ⟨⟨wm_RL_187, wi_RX4, wc_X4_digest, by decide +kernel, by decide⟩, wn_X4_digest, ws_X4_digest, _, _, rfl⟩
set_option maxRecDepth 100000 in
theorem wm_RL_190 : Cond.methodLink RL 190 yX5_digest ∈ k_tbl := k_in (List.mem_append_right _ (List.mem_of_getElem? (i := 1067) (by decide +kernel))) (by decide +kernel)
set_option maxRecDepth 100000 in
theorem wc_X5_digest : Cond.code yX5_digest cX5_digest 5 (some .long) ∈ k_tbl := k_in (List.mem_append_right _ (List.mem_of_getElem? (i := 1070) (by decide +kernel))) (by decide +kernel)
set_option maxRecDepth 100000 in
theorem wn_X5_digest : Cond.instanceMethod yX5_digest ∈ k_tbl := k_in (List.mem_append_right _ (List.mem_of_getElem? (i := 1068) (by decide +kernel))) (by decide +kernel)
set_option maxRecDepth 100000 in
theorem ws_X5_digest : Cond.selects RX5 yX5_digest yX5_digest ∈ k_tbl := k_in (List.mem_append_right _ (List.mem_of_getElem? (i := 1069) (by decide +kernel))) (by decide +kernel)
theorem lkV_RL_190 : k_lkV RL 190 5 yX5_digest cX5_digest 5 (some .long) 0 := ⟨⟨wm_RL_190, wi_RX5, wc_X5_digest, by decide +kernel, by decide⟩, wn_X5_digest, ws_X5_digest, _, _, rfl⟩
/-! the law: its script, its rows -/
def k_scr (X : k_C) (b N : Nat) (xs : Nat → Int32) : Prop := match X with
  | (_, _, _, _, s, _, _, _, _, _, _, _, _, A, _, _) => va_X b N xs s s.heap ∧ b < s.heap.size ∧ ¬ A b
theorem J_sld {X : k_C} {ad : Nat → Nat} {cc : ByteArray} {own : String} {nL : Nat} {ret : Option FieldType} {d : Nat} {I : StI} {L : StL} {pc : Nat} {lv : List (Nat × Value)} {st : List Value} {b N : Nat} {xs : Nat → Int32} {i : Int32} (hx : Ok X cc own nL ret d) (hX : k_scr X b N xs) (hin : vp_in i N) (hd : decode cc pc = .ok (.iaload, 1)) (kk : J X ad nL I L (pc + 1) lv (.int (xs i.toNatClampNeg) :: st)) : J X ad nL I L pc lv (.int i :: .ref b :: st) := by
  obtain ⟨p, l, e, R, s, m, args, below, meth, c, Q, D, cA, A, cells, slots⟩ := X
  obtain ⟨hexec, hb, hml, hown, hts, hlk, hr, hA, hZ, hK, hcl, hsl, hfr, hlo⟩ := hx
  intro H locs ls hW hl
  obtain ⟨h1, h2, h3⟩ := hX
  exact va_sld hexec hb h1 h2 h3 hW.2.2 hin hd (kk H locs ls hW hl)
theorem J_slen {X : k_C} {ad : Nat → Nat} {cc : ByteArray} {own : String} {nL : Nat} {ret : Option FieldType} {d : Nat} {I : StI} {L : StL} {pc : Nat} {lv : List (Nat × Value)} {st : List Value} {b N : Nat} {xs : Nat → Int32} (hx : Ok X cc own nL ret d) (hX : k_scr X b N xs) (hd : decode cc pc = .ok (.arraylength, 1)) (kk : J X ad nL I L (pc + 1) lv (.int (nI N) :: st)) : J X ad nL I L pc lv (.ref b :: st) := by
  obtain ⟨p, l, e, R, s, m, args, below, meth, c, Q, D, cA, A, cells, slots⟩ := X
  obtain ⟨hexec, hb, hml, hown, hts, hlk, hr, hA, hZ, hK, hcl, hsl, hfr, hlo⟩ := hx
  intro H locs ls hW hl
  obtain ⟨h1, h2, h3⟩ := hX
  exact va_slen hexec hb h1 h2 h3 hW.2.2 hd (kk H locs ls hW hl)
theorem scr_in {i j N : Nat} (hi : i + 6 ≤ N ∧ N ≤ 3072) (hj : j < 6) : vp_in (nI i + nI j) N := by
  rw [nI_add]
  exact vp_in_iff.mpr (by rw [i_n (by omega)]; omega)
theorem scr_in0 {i N : Nat} (hi : i + 6 ≤ N ∧ N ≤ 3072) : vp_in (nI i) N := vp_in_iff.mpr (by rw [i_n (by omega)]; omega)
theorem lawC_0 {X : k_C} {ad : Nat → Nat} {I : StI} {L : StL} {b N i : Nat} {xs : Nat → Int32} (hx : Ok X code RL 4 ret 20) (hX : k_scr X b N xs) (hi : i + 6 ≤ N ∧ N ≤ 3072) (hR : Rel I L) (kk : ∀ I L, Rel I L → J X ad 4 I L 1332 [(3, .int (nI i)), (0, .ref b), (1, .ref (ad 0)), (2, .ref (ad 63))] []) : J X ad 4 I L 220 [(3, .int (nI i)), (0, .ref b), (1, .ref (ad 0)), (2, .ref (ad 63))] [] := by
  obtain ⟨t, et, u, eu, e1, er⟩ := L_row hR (xs (nI i + nI 1).toNatClampNeg) (xs (nI i + nI 2).toNatClampNeg)
  refine J_aload_n hx dL_220 2 rfl ?_
  refine J_aload_n hx dL_221 1 rfl ?_
  refine J_iload_n hx dL_222 0 rfl ?_
  refine J_iconst (v := nI 1) hx dL_223 (by decide) ?_
  refine J_iadd hx dL_224 ?_
  refine J_sld hx hX (scr_in hi (by decide)) dL_225 ?_
  refine J_aload_n hx dL_226 1 rfl ?_
  refine J_iload_n hx dL_227 0 rfl ?_
  refine J_iconst (v := nI 2) hx dL_228 (by decide) ?_
  refine J_iadd hx dL_229 ?_
  refine J_sld hx hX (scr_in hi (by decide)) dL_230 ?_
  refine J_callVi hx lkV_RL_13 (rfl : k_sh 0 = (4, k_N 4)) [.int (xs (nI i + nI 1).toNatClampNeg), .int (xs (nI i + nI 2).toNatClampNeg)] [] rfl rfl (Nat.le_of_ble_eq_true rfl) (Nat.le_of_ble_eq_true rfl) (s_X4_row ⟨t, et, ⟨rfl, rfl, rfl⟩⟩) dL_231 ?_
  refine J_aload_n hx dL_234 3 rfl ?_
  refine J_aload_n hx dL_235 1 rfl ?_
  refine J_iload_n hx dL_236 0 rfl ?_
  refine J_iconst (v := nI 1) hx dL_237 (by decide) ?_
  refine J_iadd hx dL_238 ?_
  refine J_sld hx hX (scr_in hi (by decide)) dL_239 ?_
  refine J_aload_n hx dL_240 1 rfl ?_
  refine J_iload_n hx dL_241 0 rfl ?_
  refine J_iconst (v := nI 2) hx dL_242 (by decide) ?_
  refine J_iadd hx dL_243 ?_
  refine J_sld hx hX (scr_in hi (by decide)) dL_244 ?_
  refine J_callVi hx lkV_RL_17 (rfl : k_sh 63 = (5, k_N 5)) [.int (xs (nI i + nI 1).toNatClampNeg), .int (xs (nI i + nI 2).toNatClampNeg)] [.int t.1] rfl rfl (Nat.le_of_ble_eq_true rfl) (Nat.le_of_ble_eq_true rfl) (s_X5_row ⟨u, eu, ⟨rfl, rfl, rfl⟩⟩) dL_245 ?_
  exact J_ic_eq hx dL_248 1332 (by decide) (fun _ => kk _ _ er) (fun c => absurd e1 c)
theorem lawC_1 {X : k_C} {ad : Nat → Nat} {I : StI} {L : StL} {b N i : Nat} {xs : Nat → Int32} (hx : Ok X code RL 4 ret 20) (hX : k_scr X b N xs) (hi : i + 6 ≤ N ∧ N ≤ 3072) (hR : Rel I L) (kk : ∀ I L, Rel I L → J X ad 4 I L 1332 [(3, .int (nI i)), (0, .ref b), (1, .ref (ad 0)), (2, .ref (ad 63))] []) : J X ad 4 I L 253 [(3, .int (nI i)), (0, .ref b), (1, .ref (ad 0)), (2, .ref (ad 63))] [] := by
  obtain ⟨t, et, u, eu, e1, er⟩ := L_lay hR (xs (nI i + nI 1).toNatClampNeg) (xs (nI i + nI 2).toNatClampNeg) (xs (nI i + nI 3).toNatClampNeg)
  refine J_aload_n hx dL_253 2 rfl ?_
  refine J_aload_n hx dL_254 1 rfl ?_
  refine J_iload_n hx dL_255 0 rfl ?_
  refine J_iconst (v := nI 1) hx dL_256 (by decide) ?_
  refine J_iadd hx dL_257 ?_
  refine J_sld hx hX (scr_in hi (by decide)) dL_258 ?_
  refine J_aload_n hx dL_259 1 rfl ?_
  refine J_iload_n hx dL_260 0 rfl ?_
  refine J_iconst (v := nI 2) hx dL_261 (by decide) ?_
  refine J_iadd hx dL_262 ?_
  refine J_sld hx hX (scr_in hi (by decide)) dL_263 ?_
  refine J_aload_n hx dL_264 1 rfl ?_
  refine J_iload_n hx dL_265 0 rfl ?_
  refine J_iconst (v := nI 3) hx dL_266 (by decide) ?_
  refine J_iadd hx dL_267 ?_
  refine J_sld hx hX (scr_in hi (by decide)) dL_268 ?_
  refine J_callVi hx lkV_RL_18 (rfl : k_sh 0 = (4, k_N 4)) [.int (xs (nI i + nI 1).toNatClampNeg), .int (xs (nI i + nI 2).toNatClampNeg), .int (xs (nI i + nI 3).toNatClampNeg)] [] rfl rfl (Nat.le_of_ble_eq_true rfl) (Nat.le_of_ble_eq_true rfl) (s_X4_lay ⟨t, et, ⟨rfl, rfl, rfl⟩⟩) dL_269 ?_
  refine J_aload_n hx dL_272 3 rfl ?_
  refine J_aload_n hx dL_273 1 rfl ?_
  refine J_iload_n hx dL_274 0 rfl ?_
  refine J_iconst (v := nI 1) hx dL_275 (by decide) ?_
  refine J_iadd hx dL_276 ?_
  refine J_sld hx hX (scr_in hi (by decide)) dL_277 ?_
  refine J_aload_n hx dL_278 1 rfl ?_
  refine J_iload_n hx dL_279 0 rfl ?_
  refine J_iconst (v := nI 2) hx dL_280 (by decide) ?_
  refine J_iadd hx dL_281 ?_
  refine J_sld hx hX (scr_in hi (by decide)) dL_282 ?_
  refine J_aload_n hx dL_283 1 rfl ?_
  refine J_iload_n hx dL_284 0 rfl ?_
  refine J_iconst (v := nI 3) hx dL_285 (by decide) ?_
  refine J_iadd hx dL_286 ?_
  refine J_sld hx hX (scr_in hi (by decide)) dL_287 ?_
  refine J_callVi hx lkV_RL_22 (rfl : k_sh 63 = (5, k_N 5)) [.int (xs (nI i + nI 1).toNatClampNeg), .int (xs (nI i + nI 2).toNatClampNeg), .int (xs (nI i + nI 3).toNatClampNeg)] [.int t.1] rfl rfl (Nat.le_of_ble_eq_true rfl) (Nat.le_of_ble_eq_true rfl) (s_X5_lay ⟨u, eu, ⟨rfl, rfl, rfl⟩⟩) dL_288 ?_
  exact J_ic_eq hx dL_291 1332 (by decide) (fun _ => kk _ _ er) (fun c => absurd e1 c)
theorem lawC_2 {X : k_C} {ad : Nat → Nat} {I : StI} {L : StL} {b N i : Nat} {xs : Nat → Int32} (hx : Ok X code RL 4 ret 20) (hX : k_scr X b N xs) (hi : i + 6 ≤ N ∧ N ≤ 3072) (hR : Rel I L) (kk : ∀ I L, Rel I L → J X ad 4 I L 1332 [(3, .int (nI i)), (0, .ref b), (1, .ref (ad 0)), (2, .ref (ad 63))] []) : J X ad 4 I L 296 [(3, .int (nI i)), (0, .ref b), (1, .ref (ad 0)), (2, .ref (ad 63))] [] := by
  obtain ⟨t, et, u, eu, e1, er⟩ := L_at hR (xs (nI i + nI 1).toNatClampNeg) (xs (nI i + nI 2).toNatClampNeg)
  refine J_aload_n hx dL_296 2 rfl ?_
  refine J_aload_n hx dL_297 1 rfl ?_
  refine J_iload_n hx dL_298 0 rfl ?_
  refine J_iconst (v := nI 1) hx dL_299 (by decide) ?_
  refine J_iadd hx dL_300 ?_
  refine J_sld hx hX (scr_in hi (by decide)) dL_301 ?_
  refine J_aload_n hx dL_302 1 rfl ?_
  refine J_iload_n hx dL_303 0 rfl ?_
  refine J_iconst (v := nI 2) hx dL_304 (by decide) ?_
  refine J_iadd hx dL_305 ?_
  refine J_sld hx hX (scr_in hi (by decide)) dL_306 ?_
  refine J_callVi hx lkV_RL_23 (rfl : k_sh 0 = (4, k_N 4)) [.int (xs (nI i + nI 1).toNatClampNeg), .int (xs (nI i + nI 2).toNatClampNeg)] [] rfl rfl (Nat.le_of_ble_eq_true rfl) (Nat.le_of_ble_eq_true rfl) (s_X4_at ⟨t, et, ⟨rfl, rfl, rfl⟩⟩) dL_307 ?_
  refine J_aload_n hx dL_310 3 rfl ?_
  refine J_aload_n hx dL_311 1 rfl ?_
  refine J_iload_n hx dL_312 0 rfl ?_
  refine J_iconst (v := nI 1) hx dL_313 (by decide) ?_
  refine J_iadd hx dL_314 ?_
  refine J_sld hx hX (scr_in hi (by decide)) dL_315 ?_
  refine J_aload_n hx dL_316 1 rfl ?_
  refine J_iload_n hx dL_317 0 rfl ?_
  refine J_iconst (v := nI 2) hx dL_318 (by decide) ?_
  refine J_iadd hx dL_319 ?_
  refine J_sld hx hX (scr_in hi (by decide)) dL_320 ?_
  refine J_callVi hx lkV_RL_26 (rfl : k_sh 63 = (5, k_N 5)) [.int (xs (nI i + nI 1).toNatClampNeg), .int (xs (nI i + nI 2).toNatClampNeg)] [.int t.1] rfl rfl (Nat.le_of_ble_eq_true rfl) (Nat.le_of_ble_eq_true rfl) (s_X5_at ⟨u, eu, ⟨rfl, rfl, rfl⟩⟩) dL_321 ?_
  exact J_ic_eq hx dL_324 1332 (by decide) (fun _ => kk _ _ er) (fun c => absurd e1 c)
theorem lawC_3 {X : k_C} {ad : Nat → Nat} {I : StI} {L : StL} {b N i : Nat} {xs : Nat → Int32} (hx : Ok X code RL 4 ret 20) (hX : k_scr X b N xs) (hi : i + 6 ≤ N ∧ N ≤ 3072) (hR : Rel I L) (kk : ∀ I L, Rel I L → J X ad 4 I L 1332 [(3, .int (nI i)), (0, .ref b), (1, .ref (ad 0)), (2, .ref (ad 63))] []) : J X ad 4 I L 329 [(3, .int (nI i)), (0, .ref b), (1, .ref (ad 0)), (2, .ref (ad 63))] [] := by
  obtain ⟨t, et, u, eu, e1, er⟩ := L_tear hR (xs (nI i + nI 1).toNatClampNeg)
  refine J_aload_n hx dL_329 2 rfl ?_
  refine J_aload_n hx dL_330 1 rfl ?_
  refine J_iload_n hx dL_331 0 rfl ?_
  refine J_iconst (v := nI 1) hx dL_332 (by decide) ?_
  refine J_iadd hx dL_333 ?_
  refine J_sld hx hX (scr_in hi (by decide)) dL_334 ?_
  refine J_callVi hx lkV_RL_27 (rfl : k_sh 0 = (4, k_N 4)) [.int (xs (nI i + nI 1).toNatClampNeg)] [] rfl rfl (Nat.le_of_ble_eq_true rfl) (Nat.le_of_ble_eq_true rfl) (s_X4_tear ⟨t, et, ⟨rfl, rfl, rfl⟩⟩) dL_335 ?_
  refine J_aload_n hx dL_338 3 rfl ?_
  refine J_aload_n hx dL_339 1 rfl ?_
  refine J_iload_n hx dL_340 0 rfl ?_
  refine J_iconst (v := nI 1) hx dL_341 (by decide) ?_
  refine J_iadd hx dL_342 ?_
  refine J_sld hx hX (scr_in hi (by decide)) dL_343 ?_
  refine J_callVi hx lkV_RL_31 (rfl : k_sh 63 = (5, k_N 5)) [.int (xs (nI i + nI 1).toNatClampNeg)] [.int t.1] rfl rfl (Nat.le_of_ble_eq_true rfl) (Nat.le_of_ble_eq_true rfl) (s_X5_tear ⟨u, eu, ⟨rfl, rfl, rfl⟩⟩) dL_344 ?_
  exact J_ic_eq hx dL_347 1332 (by decide) (fun _ => kk _ _ er) (fun c => absurd e1 c)
theorem lawC_4 {X : k_C} {ad : Nat → Nat} {I : StI} {L : StL} {b N i : Nat} {xs : Nat → Int32} (hx : Ok X code RL 4 ret 20) (hX : k_scr X b N xs) (hi : i + 6 ≤ N ∧ N ≤ 3072) (hR : Rel I L) (kk : ∀ I L, Rel I L → J X ad 4 I L 1332 [(3, .int (nI i)), (0, .ref b), (1, .ref (ad 0)), (2, .ref (ad 63))] []) : J X ad 4 I L 352 [(3, .int (nI i)), (0, .ref b), (1, .ref (ad 0)), (2, .ref (ad 63))] [] := by
  obtain ⟨t, et, u, eu, e1, er⟩ := L_copy hR (xs (nI i + nI 1).toNatClampNeg) (xs (nI i + nI 2).toNatClampNeg) (xs (nI i + nI 3).toNatClampNeg) (xs (nI i + nI 4).toNatClampNeg) (xs (nI i + nI 5).toNatClampNeg)
  refine J_aload_n hx dL_352 2 rfl ?_
  refine J_aload_n hx dL_353 1 rfl ?_
  refine J_iload_n hx dL_354 0 rfl ?_
  refine J_iconst (v := nI 1) hx dL_355 (by decide) ?_
  refine J_iadd hx dL_356 ?_
  refine J_sld hx hX (scr_in hi (by decide)) dL_357 ?_
  refine J_aload_n hx dL_358 1 rfl ?_
  refine J_iload_n hx dL_359 0 rfl ?_
  refine J_iconst (v := nI 2) hx dL_360 (by decide) ?_
  refine J_iadd hx dL_361 ?_
  refine J_sld hx hX (scr_in hi (by decide)) dL_362 ?_
  refine J_aload_n hx dL_363 1 rfl ?_
  refine J_iload_n hx dL_364 0 rfl ?_
  refine J_iconst (v := nI 3) hx dL_365 (by decide) ?_
  refine J_iadd hx dL_366 ?_
  refine J_sld hx hX (scr_in hi (by decide)) dL_367 ?_
  refine J_aload_n hx dL_368 1 rfl ?_
  refine J_iload_n hx dL_369 0 rfl ?_
  refine J_iconst (v := nI 4) hx dL_370 (by decide) ?_
  refine J_iadd hx dL_371 ?_
  refine J_sld hx hX (scr_in hi (by decide)) dL_372 ?_
  refine J_aload_n hx dL_373 1 rfl ?_
  refine J_iload_n hx dL_374 0 rfl ?_
  refine J_iconst (v := nI 5) hx dL_375 (by decide) ?_
  refine J_iadd hx dL_376 ?_
  refine J_sld hx hX (scr_in hi (by decide)) dL_377 ?_
  refine J_callVi hx lkV_RL_32 (rfl : k_sh 0 = (4, k_N 4)) [.int (xs (nI i + nI 1).toNatClampNeg), .int (xs (nI i + nI 2).toNatClampNeg), .int (xs (nI i + nI 3).toNatClampNeg), .int (xs (nI i + nI 4).toNatClampNeg), .int (xs (nI i + nI 5).toNatClampNeg)] [] rfl rfl (Nat.le_of_ble_eq_true rfl) (Nat.le_of_ble_eq_true rfl) (s_X4_copy ⟨t, et, ⟨rfl, rfl, rfl⟩⟩) dL_378 ?_
  refine J_aload_n hx dL_381 3 rfl ?_
  refine J_aload_n hx dL_382 1 rfl ?_
  refine J_iload_n hx dL_383 0 rfl ?_
  refine J_iconst (v := nI 1) hx dL_384 (by decide) ?_
  refine J_iadd hx dL_385 ?_
  refine J_sld hx hX (scr_in hi (by decide)) dL_386 ?_
  refine J_aload_n hx dL_387 1 rfl ?_
  refine J_iload_n hx dL_388 0 rfl ?_
  refine J_iconst (v := nI 2) hx dL_389 (by decide) ?_
  refine J_iadd hx dL_390 ?_
  refine J_sld hx hX (scr_in hi (by decide)) dL_391 ?_
  refine J_aload_n hx dL_392 1 rfl ?_
  refine J_iload_n hx dL_393 0 rfl ?_
  refine J_iconst (v := nI 3) hx dL_394 (by decide) ?_
  refine J_iadd hx dL_395 ?_
  refine J_sld hx hX (scr_in hi (by decide)) dL_396 ?_
  refine J_aload_n hx dL_397 1 rfl ?_
  refine J_iload_n hx dL_398 0 rfl ?_
  refine J_iconst (v := nI 4) hx dL_399 (by decide) ?_
  refine J_iadd hx dL_400 ?_
  refine J_sld hx hX (scr_in hi (by decide)) dL_401 ?_
  refine J_aload_n hx dL_402 1 rfl ?_
  refine J_iload_n hx dL_403 0 rfl ?_
  refine J_iconst (v := nI 5) hx dL_404 (by decide) ?_
  refine J_iadd hx dL_405 ?_
  refine J_sld hx hX (scr_in hi (by decide)) dL_406 ?_
  refine J_callVi hx lkV_RL_36 (rfl : k_sh 63 = (5, k_N 5)) [.int (xs (nI i + nI 1).toNatClampNeg), .int (xs (nI i + nI 2).toNatClampNeg), .int (xs (nI i + nI 3).toNatClampNeg), .int (xs (nI i + nI 4).toNatClampNeg), .int (xs (nI i + nI 5).toNatClampNeg)] [.int t.1] rfl rfl (Nat.le_of_ble_eq_true rfl) (Nat.le_of_ble_eq_true rfl) (s_X5_copy ⟨u, eu, ⟨rfl, rfl, rfl⟩⟩) dL_407 ?_
  exact J_ic_eq hx dL_410 1332 (by decide) (fun _ => kk _ _ er) (fun c => absurd e1 c)
theorem lawC_5 {X : k_C} {ad : Nat → Nat} {I : StI} {L : StL} {b N i : Nat} {xs : Nat → Int32} (hx : Ok X code RL 4 ret 20) (hX : k_scr X b N xs) (hi : i + 6 ≤ N ∧ N ≤ 3072) (hR : Rel I L) (kk : ∀ I L, Rel I L → J X ad 4 I L 1332 [(3, .int (nI i)), (0, .ref b), (1, .ref (ad 0)), (2, .ref (ad 63))] []) : J X ad 4 I L 415 [(3, .int (nI i)), (0, .ref b), (1, .ref (ad 0)), (2, .ref (ad 63))] [] := by
  obtain ⟨t, et, u, eu, e1, er⟩ := L_mean hR (xs (nI i + nI 1).toNatClampNeg)
  refine J_aload_n hx dL_415 2 rfl ?_
  refine J_aload_n hx dL_416 1 rfl ?_
  refine J_iload_n hx dL_417 0 rfl ?_
  refine J_iconst (v := nI 1) hx dL_418 (by decide) ?_
  refine J_iadd hx dL_419 ?_
  refine J_sld hx hX (scr_in hi (by decide)) dL_420 ?_
  refine J_callVi hx lkV_RL_37 (rfl : k_sh 0 = (4, k_N 4)) [.int (xs (nI i + nI 1).toNatClampNeg)] [] rfl rfl (Nat.le_of_ble_eq_true rfl) (Nat.le_of_ble_eq_true rfl) (s_X4_mean ⟨t, et, ⟨rfl, rfl, rfl⟩⟩) dL_421 ?_
  refine J_aload_n hx dL_424 3 rfl ?_
  refine J_aload_n hx dL_425 1 rfl ?_
  refine J_iload_n hx dL_426 0 rfl ?_
  refine J_iconst (v := nI 1) hx dL_427 (by decide) ?_
  refine J_iadd hx dL_428 ?_
  refine J_sld hx hX (scr_in hi (by decide)) dL_429 ?_
  refine J_callVi hx lkV_RL_40 (rfl : k_sh 63 = (5, k_N 5)) [.int (xs (nI i + nI 1).toNatClampNeg)] [.int t.1] rfl rfl (Nat.le_of_ble_eq_true rfl) (Nat.le_of_ble_eq_true rfl) (s_X5_mean ⟨u, eu, ⟨rfl, rfl, rfl⟩⟩) dL_430 ?_
  exact J_ic_eq hx dL_433 1332 (by decide) (fun _ => kk _ _ er) (fun c => absurd e1 c)
theorem lawC_6 {X : k_C} {ad : Nat → Nat} {I : StI} {L : StL} {b N i : Nat} {xs : Nat → Int32} (hx : Ok X code RL 4 ret 20) (hX : k_scr X b N xs) (hi : i + 6 ≤ N ∧ N ≤ 3072) (hR : Rel I L) (kk : ∀ I L, Rel I L → J X ad 4 I L 1332 [(3, .int (nI i)), (0, .ref b), (1, .ref (ad 0)), (2, .ref (ad 63))] []) : J X ad 4 I L 438 [(3, .int (nI i)), (0, .ref b), (1, .ref (ad 0)), (2, .ref (ad 63))] [] := by
  obtain ⟨t, et, u, eu, e1, er⟩ := L_text hR (xs (nI i + nI 1).toNatClampNeg) (xs (nI i + nI 2).toNatClampNeg)
  refine J_aload_n hx dL_438 2 rfl ?_
  refine J_aload_n hx dL_439 1 rfl ?_
  refine J_iload_n hx dL_440 0 rfl ?_
  refine J_iconst (v := nI 1) hx dL_441 (by decide) ?_
  refine J_iadd hx dL_442 ?_
  refine J_sld hx hX (scr_in hi (by decide)) dL_443 ?_
  refine J_aload_n hx dL_444 1 rfl ?_
  refine J_iload_n hx dL_445 0 rfl ?_
  refine J_iconst (v := nI 2) hx dL_446 (by decide) ?_
  refine J_iadd hx dL_447 ?_
  refine J_sld hx hX (scr_in hi (by decide)) dL_448 ?_
  refine J_callVi hx lkV_RL_41 (rfl : k_sh 0 = (4, k_N 4)) [.int (xs (nI i + nI 1).toNatClampNeg), .int (xs (nI i + nI 2).toNatClampNeg)] [] rfl rfl (Nat.le_of_ble_eq_true rfl) (Nat.le_of_ble_eq_true rfl) (s_X4_text ⟨t, et, ⟨rfl, rfl, rfl⟩⟩) dL_449 ?_
  refine J_aload_n hx dL_452 3 rfl ?_
  refine J_aload_n hx dL_453 1 rfl ?_
  refine J_iload_n hx dL_454 0 rfl ?_
  refine J_iconst (v := nI 1) hx dL_455 (by decide) ?_
  refine J_iadd hx dL_456 ?_
  refine J_sld hx hX (scr_in hi (by decide)) dL_457 ?_
  refine J_aload_n hx dL_458 1 rfl ?_
  refine J_iload_n hx dL_459 0 rfl ?_
  refine J_iconst (v := nI 2) hx dL_460 (by decide) ?_
  refine J_iadd hx dL_461 ?_
  refine J_sld hx hX (scr_in hi (by decide)) dL_462 ?_
  refine J_callVi hx lkV_RL_44 (rfl : k_sh 63 = (5, k_N 5)) [.int (xs (nI i + nI 1).toNatClampNeg), .int (xs (nI i + nI 2).toNatClampNeg)] [.int t.1] rfl rfl (Nat.le_of_ble_eq_true rfl) (Nat.le_of_ble_eq_true rfl) (s_X5_text ⟨u, eu, ⟨rfl, rfl, rfl⟩⟩) dL_463 ?_
  exact J_ic_eq hx dL_466 1332 (by decide) (fun _ => kk _ _ er) (fun c => absurd e1 c)
theorem lawC_7 {X : k_C} {ad : Nat → Nat} {I : StI} {L : StL} {b N i : Nat} {xs : Nat → Int32} (hx : Ok X code RL 4 ret 20) (hX : k_scr X b N xs) (hi : i + 6 ≤ N ∧ N ≤ 3072) (hR : Rel I L) (kk : ∀ I L, Rel I L → J X ad 4 I L 1332 [(3, .int (nI i)), (0, .ref b), (1, .ref (ad 0)), (2, .ref (ad 63))] []) : J X ad 4 I L 471 [(3, .int (nI i)), (0, .ref b), (1, .ref (ad 0)), (2, .ref (ad 63))] [] := by
  obtain ⟨t, et, u, eu, e1, er⟩ := L_put hR (xs (nI i + nI 1).toNatClampNeg) (xs (nI i + nI 2).toNatClampNeg) (xs (nI i + nI 3).toNatClampNeg)
  refine J_aload_n hx dL_471 2 rfl ?_
  refine J_aload_n hx dL_472 1 rfl ?_
  refine J_iload_n hx dL_473 0 rfl ?_
  refine J_iconst (v := nI 1) hx dL_474 (by decide) ?_
  refine J_iadd hx dL_475 ?_
  refine J_sld hx hX (scr_in hi (by decide)) dL_476 ?_
  refine J_aload_n hx dL_477 1 rfl ?_
  refine J_iload_n hx dL_478 0 rfl ?_
  refine J_iconst (v := nI 2) hx dL_479 (by decide) ?_
  refine J_iadd hx dL_480 ?_
  refine J_sld hx hX (scr_in hi (by decide)) dL_481 ?_
  refine J_aload_n hx dL_482 1 rfl ?_
  refine J_iload_n hx dL_483 0 rfl ?_
  refine J_iconst (v := nI 3) hx dL_484 (by decide) ?_
  refine J_iadd hx dL_485 ?_
  refine J_sld hx hX (scr_in hi (by decide)) dL_486 ?_
  refine J_callVi hx lkV_RL_45 (rfl : k_sh 0 = (4, k_N 4)) [.int (xs (nI i + nI 1).toNatClampNeg), .int (xs (nI i + nI 2).toNatClampNeg), .int (xs (nI i + nI 3).toNatClampNeg)] [] rfl rfl (Nat.le_of_ble_eq_true rfl) (Nat.le_of_ble_eq_true rfl) (s_X4_put ⟨t, et, ⟨rfl, rfl, rfl⟩⟩) dL_487 ?_
  refine J_aload_n hx dL_490 3 rfl ?_
  refine J_aload_n hx dL_491 1 rfl ?_
  refine J_iload_n hx dL_492 0 rfl ?_
  refine J_iconst (v := nI 1) hx dL_493 (by decide) ?_
  refine J_iadd hx dL_494 ?_
  refine J_sld hx hX (scr_in hi (by decide)) dL_495 ?_
  refine J_aload_n hx dL_496 1 rfl ?_
  refine J_iload_n hx dL_497 0 rfl ?_
  refine J_iconst (v := nI 2) hx dL_498 (by decide) ?_
  refine J_iadd hx dL_499 ?_
  refine J_sld hx hX (scr_in hi (by decide)) dL_500 ?_
  refine J_aload_n hx dL_501 1 rfl ?_
  refine J_iload_n hx dL_502 0 rfl ?_
  refine J_iconst (v := nI 3) hx dL_503 (by decide) ?_
  refine J_iadd hx dL_504 ?_
  refine J_sld hx hX (scr_in hi (by decide)) dL_505 ?_
  refine J_callVi hx lkV_RL_48 (rfl : k_sh 63 = (5, k_N 5)) [.int (xs (nI i + nI 1).toNatClampNeg), .int (xs (nI i + nI 2).toNatClampNeg), .int (xs (nI i + nI 3).toNatClampNeg)] [.int t.1] rfl rfl (Nat.le_of_ble_eq_true rfl) (Nat.le_of_ble_eq_true rfl) (s_X5_put ⟨u, eu, ⟨rfl, rfl, rfl⟩⟩) dL_506 ?_
  exact J_ic_eq hx dL_509 1332 (by decide) (fun _ => kk _ _ er) (fun c => absurd e1 c)
theorem lawC_8 {X : k_C} {ad : Nat → Nat} {I : StI} {L : StL} {b N i : Nat} {xs : Nat → Int32} (hx : Ok X code RL 4 ret 20) (hX : k_scr X b N xs) (hi : i + 6 ≤ N ∧ N ≤ 3072) (hR : Rel I L) (kk : ∀ I L, Rel I L → J X ad 4 I L 1332 [(3, .int (nI i)), (0, .ref b), (1, .ref (ad 0)), (2, .ref (ad 63))] []) : J X ad 4 I L 514 [(3, .int (nI i)), (0, .ref b), (1, .ref (ad 0)), (2, .ref (ad 63))] [] := by
  obtain ⟨t, et, u, eu, e1, er⟩ := L_fault hR (xs (nI i + nI 1).toNatClampNeg)
  refine J_aload_n hx dL_514 2 rfl ?_
  refine J_aload_n hx dL_515 1 rfl ?_
  refine J_iload_n hx dL_516 0 rfl ?_
  refine J_iconst (v := nI 1) hx dL_517 (by decide) ?_
  refine J_iadd hx dL_518 ?_
  refine J_sld hx hX (scr_in hi (by decide)) dL_519 ?_
  refine J_callVi hx lkV_RL_49 (rfl : k_sh 0 = (4, k_N 4)) [.int (xs (nI i + nI 1).toNatClampNeg)] [] rfl rfl (Nat.le_of_ble_eq_true rfl) (Nat.le_of_ble_eq_true rfl) (s_X4_fault ⟨t, et, ⟨rfl, rfl, rfl⟩⟩) dL_520 ?_
  refine J_aload_n hx dL_523 3 rfl ?_
  refine J_aload_n hx dL_524 1 rfl ?_
  refine J_iload_n hx dL_525 0 rfl ?_
  refine J_iconst (v := nI 1) hx dL_526 (by decide) ?_
  refine J_iadd hx dL_527 ?_
  refine J_sld hx hX (scr_in hi (by decide)) dL_528 ?_
  refine J_callVi hx lkV_RL_52 (rfl : k_sh 63 = (5, k_N 5)) [.int (xs (nI i + nI 1).toNatClampNeg)] [.int t.1] rfl rfl (Nat.le_of_ble_eq_true rfl) (Nat.le_of_ble_eq_true rfl) (s_X5_fault ⟨u, eu, ⟨rfl, rfl, rfl⟩⟩) dL_529 ?_
  exact J_ic_eq hx dL_532 1332 (by decide) (fun _ => kk _ _ er) (fun c => absurd e1 c)
theorem lawC_9 {X : k_C} {ad : Nat → Nat} {I : StI} {L : StL} {b N i : Nat} {xs : Nat → Int32} (hx : Ok X code RL 4 ret 20) (hX : k_scr X b N xs) (hi : i + 6 ≤ N ∧ N ≤ 3072) (hR : Rel I L) (kk : ∀ I L, Rel I L → J X ad 4 I L 1332 [(3, .int (nI i)), (0, .ref b), (1, .ref (ad 0)), (2, .ref (ad 63))] []) : J X ad 4 I L 537 [(3, .int (nI i)), (0, .ref b), (1, .ref (ad 0)), (2, .ref (ad 63))] [] := by
  obtain ⟨t, et, u, eu, e1, er⟩ := L_house hR (xs (nI i + nI 1).toNatClampNeg)
  refine J_aload_n hx dL_537 2 rfl ?_
  refine J_aload_n hx dL_538 1 rfl ?_
  refine J_iload_n hx dL_539 0 rfl ?_
  refine J_iconst (v := nI 1) hx dL_540 (by decide) ?_
  refine J_iadd hx dL_541 ?_
  refine J_sld hx hX (scr_in hi (by decide)) dL_542 ?_
  refine J_callVi hx lkV_RL_53 (rfl : k_sh 0 = (4, k_N 4)) [.int (xs (nI i + nI 1).toNatClampNeg)] [] rfl rfl (Nat.le_of_ble_eq_true rfl) (Nat.le_of_ble_eq_true rfl) (s_X4_house ⟨t, et, ⟨rfl, rfl, rfl⟩⟩) dL_543 ?_
  refine J_aload_n hx dL_546 3 rfl ?_
  refine J_aload_n hx dL_547 1 rfl ?_
  refine J_iload_n hx dL_548 0 rfl ?_
  refine J_iconst (v := nI 1) hx dL_549 (by decide) ?_
  refine J_iadd hx dL_550 ?_
  refine J_sld hx hX (scr_in hi (by decide)) dL_551 ?_
  refine J_callVi hx lkV_RL_56 (rfl : k_sh 63 = (5, k_N 5)) [.int (xs (nI i + nI 1).toNatClampNeg)] [.int t.1] rfl rfl (Nat.le_of_ble_eq_true rfl) (Nat.le_of_ble_eq_true rfl) (s_X5_house ⟨u, eu, ⟨rfl, rfl, rfl⟩⟩) dL_552 ?_
  exact J_ic_eq hx dL_555 1332 (by decide) (fun _ => kk _ _ er) (fun c => absurd e1 c)
theorem lawC_10 {X : k_C} {ad : Nat → Nat} {I : StI} {L : StL} {b N i : Nat} {xs : Nat → Int32} (hx : Ok X code RL 4 ret 20) (hX : k_scr X b N xs) (hi : i + 6 ≤ N ∧ N ≤ 3072) (hR : Rel I L) (kk : ∀ I L, Rel I L → J X ad 4 I L 1332 [(3, .int (nI i)), (0, .ref b), (1, .ref (ad 0)), (2, .ref (ad 63))] []) : J X ad 4 I L 560 [(3, .int (nI i)), (0, .ref b), (1, .ref (ad 0)), (2, .ref (ad 63))] [] := by
  obtain ⟨t, et, u, eu, e1, er⟩ := L_caller hR (xs (nI i + nI 1).toNatClampNeg) (xs (nI i + nI 2).toNatClampNeg)
  refine J_aload_n hx dL_560 2 rfl ?_
  refine J_aload_n hx dL_561 1 rfl ?_
  refine J_iload_n hx dL_562 0 rfl ?_
  refine J_iconst (v := nI 1) hx dL_563 (by decide) ?_
  refine J_iadd hx dL_564 ?_
  refine J_sld hx hX (scr_in hi (by decide)) dL_565 ?_
  refine J_aload_n hx dL_566 1 rfl ?_
  refine J_iload_n hx dL_567 0 rfl ?_
  refine J_iconst (v := nI 2) hx dL_568 (by decide) ?_
  refine J_iadd hx dL_569 ?_
  refine J_sld hx hX (scr_in hi (by decide)) dL_570 ?_
  refine J_callVi hx lkV_RL_57 (rfl : k_sh 0 = (4, k_N 4)) [.int (xs (nI i + nI 1).toNatClampNeg), .int (xs (nI i + nI 2).toNatClampNeg)] [] rfl rfl (Nat.le_of_ble_eq_true rfl) (Nat.le_of_ble_eq_true rfl) (s_X4_caller ⟨t, et, ⟨rfl, rfl, rfl⟩⟩) dL_571 ?_
  refine J_aload_n hx dL_574 3 rfl ?_
  refine J_aload_n hx dL_575 1 rfl ?_
  refine J_iload_n hx dL_576 0 rfl ?_
  refine J_iconst (v := nI 1) hx dL_577 (by decide) ?_
  refine J_iadd hx dL_578 ?_
  refine J_sld hx hX (scr_in hi (by decide)) dL_579 ?_
  refine J_aload_n hx dL_580 1 rfl ?_
  refine J_iload_n hx dL_581 0 rfl ?_
  refine J_iconst (v := nI 2) hx dL_582 (by decide) ?_
  refine J_iadd hx dL_583 ?_
  refine J_sld hx hX (scr_in hi (by decide)) dL_584 ?_
  refine J_callVi hx lkV_RL_60 (rfl : k_sh 63 = (5, k_N 5)) [.int (xs (nI i + nI 1).toNatClampNeg), .int (xs (nI i + nI 2).toNatClampNeg)] [.int t.1] rfl rfl (Nat.le_of_ble_eq_true rfl) (Nat.le_of_ble_eq_true rfl) (s_X5_caller ⟨u, eu, ⟨rfl, rfl, rfl⟩⟩) dL_585 ?_
  exact J_ic_eq hx dL_588 1332 (by decide) (fun _ => kk _ _ er) (fun c => absurd e1 c)
theorem lawC_11 {X : k_C} {ad : Nat → Nat} {I : StI} {L : StL} {b N i : Nat} {xs : Nat → Int32} (hx : Ok X code RL 4 ret 20) (hX : k_scr X b N xs) (hi : i + 6 ≤ N ∧ N ≤ 3072) (hR : Rel I L) (kk : ∀ I L, Rel I L → J X ad 4 I L 1332 [(3, .int (nI i)), (0, .ref b), (1, .ref (ad 0)), (2, .ref (ad 63))] []) : J X ad 4 I L 593 [(3, .int (nI i)), (0, .ref b), (1, .ref (ad 0)), (2, .ref (ad 63))] [] := by
  obtain ⟨t, et, u, eu, e1, er⟩ := L_mark hR (xs (nI i + nI 1).toNatClampNeg) (xs (nI i + nI 2).toNatClampNeg)
  refine J_aload_n hx dL_593 2 rfl ?_
  refine J_aload_n hx dL_594 1 rfl ?_
  refine J_iload_n hx dL_595 0 rfl ?_
  refine J_iconst (v := nI 1) hx dL_596 (by decide) ?_
  refine J_iadd hx dL_597 ?_
  refine J_sld hx hX (scr_in hi (by decide)) dL_598 ?_
  refine J_aload_n hx dL_599 1 rfl ?_
  refine J_iload_n hx dL_600 0 rfl ?_
  refine J_iconst (v := nI 2) hx dL_601 (by decide) ?_
  refine J_iadd hx dL_602 ?_
  refine J_sld hx hX (scr_in hi (by decide)) dL_603 ?_
  refine J_callVi hx lkV_RL_61 (rfl : k_sh 0 = (4, k_N 4)) [.int (xs (nI i + nI 1).toNatClampNeg), .int (xs (nI i + nI 2).toNatClampNeg)] [] rfl rfl (Nat.le_of_ble_eq_true rfl) (Nat.le_of_ble_eq_true rfl) (s_X4_mark ⟨t, et, ⟨rfl, rfl, rfl⟩⟩) dL_604 ?_
  refine J_aload_n hx dL_607 3 rfl ?_
  refine J_aload_n hx dL_608 1 rfl ?_
  refine J_iload_n hx dL_609 0 rfl ?_
  refine J_iconst (v := nI 1) hx dL_610 (by decide) ?_
  refine J_iadd hx dL_611 ?_
  refine J_sld hx hX (scr_in hi (by decide)) dL_612 ?_
  refine J_aload_n hx dL_613 1 rfl ?_
  refine J_iload_n hx dL_614 0 rfl ?_
  refine J_iconst (v := nI 2) hx dL_615 (by decide) ?_
  refine J_iadd hx dL_616 ?_
  refine J_sld hx hX (scr_in hi (by decide)) dL_617 ?_
  refine J_callVi hx lkV_RL_64 (rfl : k_sh 63 = (5, k_N 5)) [.int (xs (nI i + nI 1).toNatClampNeg), .int (xs (nI i + nI 2).toNatClampNeg)] [.int t.1] rfl rfl (Nat.le_of_ble_eq_true rfl) (Nat.le_of_ble_eq_true rfl) (s_X5_mark ⟨u, eu, ⟨rfl, rfl, rfl⟩⟩) dL_618 ?_
  exact J_ic_eq hx dL_621 1332 (by decide) (fun _ => kk _ _ er) (fun c => absurd e1 c)
theorem lawC_12 {X : k_C} {ad : Nat → Nat} {I : StI} {L : StL} {b N i : Nat} {xs : Nat → Int32} (hx : Ok X code RL 4 ret 20) (hX : k_scr X b N xs) (hi : i + 6 ≤ N ∧ N ≤ 3072) (hR : Rel I L) (kk : ∀ I L, Rel I L → J X ad 4 I L 1332 [(3, .int (nI i)), (0, .ref b), (1, .ref (ad 0)), (2, .ref (ad 63))] []) : J X ad 4 I L 626 [(3, .int (nI i)), (0, .ref b), (1, .ref (ad 0)), (2, .ref (ad 63))] [] := by
  obtain ⟨r, e1, e2⟩ := L_up hR (xs (nI i + nI 1).toNatClampNeg)
  refine J_aload_n hx dL_626 2 rfl ?_
  refine J_aload_n hx dL_627 1 rfl ?_
  refine J_iload_n hx dL_628 0 rfl ?_
  refine J_iconst (v := nI 1) hx dL_629 (by decide) ?_
  refine J_iadd hx dL_630 ?_
  refine J_sld hx hX (scr_in hi (by decide)) dL_631 ?_
  refine J_callVi hx lkV_RL_65 (rfl : k_sh 0 = (4, k_N 4)) [.int (xs (nI i + nI 1).toNatClampNeg)] [] rfl rfl (Nat.le_of_ble_eq_true rfl) (Nat.le_of_ble_eq_true rfl) (s_X4_up ⟨r, e1, ⟨rfl, rfl, rfl⟩⟩) dL_632 ?_
  refine J_aload_n hx dL_635 3 rfl ?_
  refine J_aload_n hx dL_636 1 rfl ?_
  refine J_iload_n hx dL_637 0 rfl ?_
  refine J_iconst (v := nI 1) hx dL_638 (by decide) ?_
  refine J_iadd hx dL_639 ?_
  refine J_sld hx hX (scr_in hi (by decide)) dL_640 ?_
  refine J_callVi hx lkV_RL_68 (rfl : k_sh 63 = (5, k_N 5)) [.int (xs (nI i + nI 1).toNatClampNeg)] [.int r] rfl rfl (Nat.le_of_ble_eq_true rfl) (Nat.le_of_ble_eq_true rfl) (s_X5_up ⟨r, e2, ⟨rfl, rfl, rfl⟩⟩) dL_641 ?_
  exact J_ic_eq hx dL_644 1332 (by decide) (fun _ => kk _ _ hR) (fun c => absurd rfl c)
theorem lawC_13 {X : k_C} {ad : Nat → Nat} {I : StI} {L : StL} {b N i : Nat} {xs : Nat → Int32} (hx : Ok X code RL 4 ret 20) (hX : k_scr X b N xs) (hi : i + 6 ≤ N ∧ N ≤ 3072) (hR : Rel I L) (kk : ∀ I L, Rel I L → J X ad 4 I L 1332 [(3, .int (nI i)), (0, .ref b), (1, .ref (ad 0)), (2, .ref (ad 63))] []) : J X ad 4 I L 649 [(3, .int (nI i)), (0, .ref b), (1, .ref (ad 0)), (2, .ref (ad 63))] [] := by
  obtain ⟨t, et, u, eu, e1, er⟩ := L_step hR 
  refine J_aload_n hx dL_649 2 rfl ?_
  refine J_callVi hx lkV_RL_69 (rfl : k_sh 0 = (4, k_N 4)) [] [] rfl rfl (Nat.le_of_ble_eq_true rfl) (Nat.le_of_ble_eq_true rfl) (s_X4_step ⟨t, et, ⟨rfl, rfl, rfl⟩⟩) dL_650 ?_
  refine J_aload_n hx dL_653 3 rfl ?_
  refine J_callVi hx lkV_RL_73 (rfl : k_sh 63 = (5, k_N 5)) [] [.int t.1] rfl rfl (Nat.le_of_ble_eq_true rfl) (Nat.le_of_ble_eq_true rfl) (s_X5_step ⟨u, eu, ⟨rfl, rfl, rfl⟩⟩) dL_654 ?_
  exact J_ic_eq hx dL_657 1332 (by decide) (fun _ => kk _ _ er) (fun c => absurd e1 c)
theorem lawC_14 {X : k_C} {ad : Nat → Nat} {I : StI} {L : StL} {b N i : Nat} {xs : Nat → Int32} (hx : Ok X code RL 4 ret 20) (hX : k_scr X b N xs) (hi : i + 6 ≤ N ∧ N ≤ 3072) (hR : Rel I L) (kk : ∀ I L, Rel I L → J X ad 4 I L 1332 [(3, .int (nI i)), (0, .ref b), (1, .ref (ad 0)), (2, .ref (ad 63))] []) : J X ad 4 I L 662 [(3, .int (nI i)), (0, .ref b), (1, .ref (ad 0)), (2, .ref (ad 63))] [] := by
  obtain ⟨t, et, u, eu, e1, er⟩ := L_flip hR (xs (nI i + nI 1).toNatClampNeg)
  refine J_aload_n hx dL_662 2 rfl ?_
  refine J_aload_n hx dL_663 1 rfl ?_
  refine J_iload_n hx dL_664 0 rfl ?_
  refine J_iconst (v := nI 1) hx dL_665 (by decide) ?_
  refine J_iadd hx dL_666 ?_
  refine J_sld hx hX (scr_in hi (by decide)) dL_667 ?_
  refine J_callVi hx lkV_RL_74 (rfl : k_sh 0 = (4, k_N 4)) [.int (xs (nI i + nI 1).toNatClampNeg)] [] rfl rfl (Nat.le_of_ble_eq_true rfl) (Nat.le_of_ble_eq_true rfl) (s_X4_flip ⟨t, et, ⟨rfl, rfl, rfl⟩⟩) dL_668 ?_
  refine J_aload_n hx dL_671 3 rfl ?_
  refine J_aload_n hx dL_672 1 rfl ?_
  refine J_iload_n hx dL_673 0 rfl ?_
  refine J_iconst (v := nI 1) hx dL_674 (by decide) ?_
  refine J_iadd hx dL_675 ?_
  refine J_sld hx hX (scr_in hi (by decide)) dL_676 ?_
  refine J_callVi hx lkV_RL_77 (rfl : k_sh 63 = (5, k_N 5)) [.int (xs (nI i + nI 1).toNatClampNeg)] [.int t.1] rfl rfl (Nat.le_of_ble_eq_true rfl) (Nat.le_of_ble_eq_true rfl) (s_X5_flip ⟨u, eu, ⟨rfl, rfl, rfl⟩⟩) dL_677 ?_
  exact J_ic_eq hx dL_680 1332 (by decide) (fun _ => kk _ _ er) (fun c => absurd e1 c)
theorem lawC_15 {X : k_C} {ad : Nat → Nat} {I : StI} {L : StL} {b N i : Nat} {xs : Nat → Int32} (hx : Ok X code RL 4 ret 20) (hX : k_scr X b N xs) (hi : i + 6 ≤ N ∧ N ≤ 3072) (hR : Rel I L) (kk : ∀ I L, Rel I L → J X ad 4 I L 1332 [(3, .int (nI i)), (0, .ref b), (1, .ref (ad 0)), (2, .ref (ad 63))] []) : J X ad 4 I L 685 [(3, .int (nI i)), (0, .ref b), (1, .ref (ad 0)), (2, .ref (ad 63))] [] := by
  obtain ⟨t, et, u, eu, e1, er⟩ := L_room hR (xs (nI i + nI 1).toNatClampNeg)
  refine J_aload_n hx dL_685 2 rfl ?_
  refine J_aload_n hx dL_686 1 rfl ?_
  refine J_iload_n hx dL_687 0 rfl ?_
  refine J_iconst (v := nI 1) hx dL_688 (by decide) ?_
  refine J_iadd hx dL_689 ?_
  refine J_sld hx hX (scr_in hi (by decide)) dL_690 ?_
  refine J_callVi hx lkV_RL_78 (rfl : k_sh 0 = (4, k_N 4)) [.int (xs (nI i + nI 1).toNatClampNeg)] [] rfl rfl (Nat.le_of_ble_eq_true rfl) (Nat.le_of_ble_eq_true rfl) (s_X4_room ⟨t, et, ⟨rfl, rfl, rfl⟩⟩) dL_691 ?_
  refine J_aload_n hx dL_694 3 rfl ?_
  refine J_aload_n hx dL_695 1 rfl ?_
  refine J_iload_n hx dL_696 0 rfl ?_
  refine J_iconst (v := nI 1) hx dL_697 (by decide) ?_
  refine J_iadd hx dL_698 ?_
  refine J_sld hx hX (scr_in hi (by decide)) dL_699 ?_
  refine J_callVi hx lkV_RL_81 (rfl : k_sh 63 = (5, k_N 5)) [.int (xs (nI i + nI 1).toNatClampNeg)] [.int t.1] rfl rfl (Nat.le_of_ble_eq_true rfl) (Nat.le_of_ble_eq_true rfl) (s_X5_room ⟨u, eu, ⟨rfl, rfl, rfl⟩⟩) dL_700 ?_
  exact J_ic_eq hx dL_703 1332 (by decide) (fun _ => kk _ _ er) (fun c => absurd e1 c)
theorem lawC_16 {X : k_C} {ad : Nat → Nat} {I : StI} {L : StL} {b N i : Nat} {xs : Nat → Int32} (hx : Ok X code RL 4 ret 20) (hX : k_scr X b N xs) (hi : i + 6 ≤ N ∧ N ≤ 3072) (hR : Rel I L) (kk : ∀ I L, Rel I L → J X ad 4 I L 1332 [(3, .int (nI i)), (0, .ref b), (1, .ref (ad 0)), (2, .ref (ad 63))] []) : J X ad 4 I L 708 [(3, .int (nI i)), (0, .ref b), (1, .ref (ad 0)), (2, .ref (ad 63))] [] := by
  obtain ⟨t, et, u, eu, e1, er⟩ := L_limit hR (xs (nI i + nI 1).toNatClampNeg) (xs (nI i + nI 2).toNatClampNeg)
  refine J_aload_n hx dL_708 2 rfl ?_
  refine J_aload_n hx dL_709 1 rfl ?_
  refine J_iload_n hx dL_710 0 rfl ?_
  refine J_iconst (v := nI 1) hx dL_711 (by decide) ?_
  refine J_iadd hx dL_712 ?_
  refine J_sld hx hX (scr_in hi (by decide)) dL_713 ?_
  refine J_aload_n hx dL_714 1 rfl ?_
  refine J_iload_n hx dL_715 0 rfl ?_
  refine J_iconst (v := nI 2) hx dL_716 (by decide) ?_
  refine J_iadd hx dL_717 ?_
  refine J_sld hx hX (scr_in hi (by decide)) dL_718 ?_
  refine J_callVi hx lkV_RL_82 (rfl : k_sh 0 = (4, k_N 4)) [.int (xs (nI i + nI 1).toNatClampNeg), .int (xs (nI i + nI 2).toNatClampNeg)] [] rfl rfl (Nat.le_of_ble_eq_true rfl) (Nat.le_of_ble_eq_true rfl) (s_X4_limit ⟨t, et, ⟨rfl, rfl, rfl⟩⟩) dL_719 ?_
  refine J_aload_n hx dL_722 3 rfl ?_
  refine J_aload_n hx dL_723 1 rfl ?_
  refine J_iload_n hx dL_724 0 rfl ?_
  refine J_iconst (v := nI 1) hx dL_725 (by decide) ?_
  refine J_iadd hx dL_726 ?_
  refine J_sld hx hX (scr_in hi (by decide)) dL_727 ?_
  refine J_aload_n hx dL_728 1 rfl ?_
  refine J_iload_n hx dL_729 0 rfl ?_
  refine J_iconst (v := nI 2) hx dL_730 (by decide) ?_
  refine J_iadd hx dL_731 ?_
  refine J_sld hx hX (scr_in hi (by decide)) dL_732 ?_
  refine J_callVi hx lkV_RL_85 (rfl : k_sh 63 = (5, k_N 5)) [.int (xs (nI i + nI 1).toNatClampNeg), .int (xs (nI i + nI 2).toNatClampNeg)] [.int t.1] rfl rfl (Nat.le_of_ble_eq_true rfl) (Nat.le_of_ble_eq_true rfl) (s_X5_limit ⟨u, eu, ⟨rfl, rfl, rfl⟩⟩) dL_733 ?_
  exact J_ic_eq hx dL_736 1332 (by decide) (fun _ => kk _ _ er) (fun c => absurd e1 c)
theorem lawC_17 {X : k_C} {ad : Nat → Nat} {I : StI} {L : StL} {b N i : Nat} {xs : Nat → Int32} (hx : Ok X code RL 4 ret 20) (hX : k_scr X b N xs) (hi : i + 6 ≤ N ∧ N ≤ 3072) (hR : Rel I L) (kk : ∀ I L, Rel I L → J X ad 4 I L 1332 [(3, .int (nI i)), (0, .ref b), (1, .ref (ad 0)), (2, .ref (ad 63))] []) : J X ad 4 I L 741 [(3, .int (nI i)), (0, .ref b), (1, .ref (ad 0)), (2, .ref (ad 63))] [] := by
  obtain ⟨t, et, u, eu, e1, er⟩ := L_reset hR (xs (nI i + nI 1).toNatClampNeg)
  refine J_aload_n hx dL_741 2 rfl ?_
  refine J_aload_n hx dL_742 1 rfl ?_
  refine J_iload_n hx dL_743 0 rfl ?_
  refine J_iconst (v := nI 1) hx dL_744 (by decide) ?_
  refine J_iadd hx dL_745 ?_
  refine J_sld hx hX (scr_in hi (by decide)) dL_746 ?_
  refine J_callVi hx lkV_RL_86 (rfl : k_sh 0 = (4, k_N 4)) [.int (xs (nI i + nI 1).toNatClampNeg)] [] rfl rfl (Nat.le_of_ble_eq_true rfl) (Nat.le_of_ble_eq_true rfl) (s_X4_reset ⟨t, et, ⟨rfl, rfl, rfl⟩⟩) dL_747 ?_
  refine J_aload_n hx dL_750 3 rfl ?_
  refine J_aload_n hx dL_751 1 rfl ?_
  refine J_iload_n hx dL_752 0 rfl ?_
  refine J_iconst (v := nI 1) hx dL_753 (by decide) ?_
  refine J_iadd hx dL_754 ?_
  refine J_sld hx hX (scr_in hi (by decide)) dL_755 ?_
  refine J_callVi hx lkV_RL_89 (rfl : k_sh 63 = (5, k_N 5)) [.int (xs (nI i + nI 1).toNatClampNeg)] [.int t.1] rfl rfl (Nat.le_of_ble_eq_true rfl) (Nat.le_of_ble_eq_true rfl) (s_X5_reset ⟨u, eu, ⟨rfl, rfl, rfl⟩⟩) dL_756 ?_
  exact J_ic_eq hx dL_759 1332 (by decide) (fun _ => kk _ _ er) (fun c => absurd e1 c)
theorem lawC_18 {X : k_C} {ad : Nat → Nat} {I : StI} {L : StL} {b N i : Nat} {xs : Nat → Int32} (hx : Ok X code RL 4 ret 20) (hX : k_scr X b N xs) (hi : i + 6 ≤ N ∧ N ≤ 3072) (hR : Rel I L) (kk : ∀ I L, Rel I L → J X ad 4 I L 1332 [(3, .int (nI i)), (0, .ref b), (1, .ref (ad 0)), (2, .ref (ad 63))] []) : J X ad 4 I L 764 [(3, .int (nI i)), (0, .ref b), (1, .ref (ad 0)), (2, .ref (ad 63))] [] := by
  obtain ⟨t, et, u, eu, e1, er⟩ := L_undo hR (xs (nI i + nI 1).toNatClampNeg)
  refine J_aload_n hx dL_764 2 rfl ?_
  refine J_aload_n hx dL_765 1 rfl ?_
  refine J_iload_n hx dL_766 0 rfl ?_
  refine J_iconst (v := nI 1) hx dL_767 (by decide) ?_
  refine J_iadd hx dL_768 ?_
  refine J_sld hx hX (scr_in hi (by decide)) dL_769 ?_
  refine J_callVi hx lkV_RL_90 (rfl : k_sh 0 = (4, k_N 4)) [.int (xs (nI i + nI 1).toNatClampNeg)] [] rfl rfl (Nat.le_of_ble_eq_true rfl) (Nat.le_of_ble_eq_true rfl) (s_X4_undo ⟨t, et, ⟨rfl, rfl, rfl⟩⟩) dL_770 ?_
  refine J_aload_n hx dL_773 3 rfl ?_
  refine J_aload_n hx dL_774 1 rfl ?_
  refine J_iload_n hx dL_775 0 rfl ?_
  refine J_iconst (v := nI 1) hx dL_776 (by decide) ?_
  refine J_iadd hx dL_777 ?_
  refine J_sld hx hX (scr_in hi (by decide)) dL_778 ?_
  refine J_callVi hx lkV_RL_93 (rfl : k_sh 63 = (5, k_N 5)) [.int (xs (nI i + nI 1).toNatClampNeg)] [.int t.1] rfl rfl (Nat.le_of_ble_eq_true rfl) (Nat.le_of_ble_eq_true rfl) (s_X5_undo ⟨u, eu, ⟨rfl, rfl, rfl⟩⟩) dL_779 ?_
  exact J_ic_eq hx dL_782 1332 (by decide) (fun _ => kk _ _ er) (fun c => absurd e1 c)
theorem lawC_19 {X : k_C} {ad : Nat → Nat} {I : StI} {L : StL} {b N i : Nat} {xs : Nat → Int32} (hx : Ok X code RL 4 ret 20) (hX : k_scr X b N xs) (hi : i + 6 ≤ N ∧ N ≤ 3072) (hR : Rel I L) (kk : ∀ I L, Rel I L → J X ad 4 I L 1332 [(3, .int (nI i)), (0, .ref b), (1, .ref (ad 0)), (2, .ref (ad 63))] []) : J X ad 4 I L 787 [(3, .int (nI i)), (0, .ref b), (1, .ref (ad 0)), (2, .ref (ad 63))] [] := by
  obtain ⟨t, et, u, eu, e1, er⟩ := L_keep hR (xs (nI i + nI 1).toNatClampNeg)
  refine J_aload_n hx dL_787 2 rfl ?_
  refine J_aload_n hx dL_788 1 rfl ?_
  refine J_iload_n hx dL_789 0 rfl ?_
  refine J_iconst (v := nI 1) hx dL_790 (by decide) ?_
  refine J_iadd hx dL_791 ?_
  refine J_sld hx hX (scr_in hi (by decide)) dL_792 ?_
  refine J_callVi hx lkV_RL_94 (rfl : k_sh 0 = (4, k_N 4)) [.int (xs (nI i + nI 1).toNatClampNeg)] [] rfl rfl (Nat.le_of_ble_eq_true rfl) (Nat.le_of_ble_eq_true rfl) (s_X4_keep ⟨t, et, ⟨rfl, rfl, rfl⟩⟩) dL_793 ?_
  refine J_aload_n hx dL_796 3 rfl ?_
  refine J_aload_n hx dL_797 1 rfl ?_
  refine J_iload_n hx dL_798 0 rfl ?_
  refine J_iconst (v := nI 1) hx dL_799 (by decide) ?_
  refine J_iadd hx dL_800 ?_
  refine J_sld hx hX (scr_in hi (by decide)) dL_801 ?_
  refine J_callVi hx lkV_RL_97 (rfl : k_sh 63 = (5, k_N 5)) [.int (xs (nI i + nI 1).toNatClampNeg)] [.int t.1] rfl rfl (Nat.le_of_ble_eq_true rfl) (Nat.le_of_ble_eq_true rfl) (s_X5_keep ⟨u, eu, ⟨rfl, rfl, rfl⟩⟩) dL_802 ?_
  exact J_ic_eq hx dL_805 1332 (by decide) (fun _ => kk _ _ er) (fun c => absurd e1 c)
theorem lawC_20 {X : k_C} {ad : Nat → Nat} {I : StI} {L : StL} {b N i : Nat} {xs : Nat → Int32} (hx : Ok X code RL 4 ret 20) (hX : k_scr X b N xs) (hi : i + 6 ≤ N ∧ N ≤ 3072) (hR : Rel I L) (kk : ∀ I L, Rel I L → J X ad 4 I L 1332 [(3, .int (nI i)), (0, .ref b), (1, .ref (ad 0)), (2, .ref (ad 63))] []) : J X ad 4 I L 810 [(3, .int (nI i)), (0, .ref b), (1, .ref (ad 0)), (2, .ref (ad 63))] [] := by
  obtain ⟨t, et, u, eu, e1, er⟩ := L_on hR (xs (nI i + nI 1).toNatClampNeg)
  refine J_aload_n hx dL_810 2 rfl ?_
  refine J_aload_n hx dL_811 1 rfl ?_
  refine J_iload_n hx dL_812 0 rfl ?_
  refine J_iconst (v := nI 1) hx dL_813 (by decide) ?_
  refine J_iadd hx dL_814 ?_
  refine J_sld hx hX (scr_in hi (by decide)) dL_815 ?_
  refine J_callVi hx lkV_RL_98 (rfl : k_sh 0 = (4, k_N 4)) [.int (xs (nI i + nI 1).toNatClampNeg)] [] rfl rfl (Nat.le_of_ble_eq_true rfl) (Nat.le_of_ble_eq_true rfl) (s_X4_on ⟨t, et, ⟨rfl, rfl, rfl⟩⟩) dL_816 ?_
  refine J_aload_n hx dL_819 3 rfl ?_
  refine J_aload_n hx dL_820 1 rfl ?_
  refine J_iload_n hx dL_821 0 rfl ?_
  refine J_iconst (v := nI 1) hx dL_822 (by decide) ?_
  refine J_iadd hx dL_823 ?_
  refine J_sld hx hX (scr_in hi (by decide)) dL_824 ?_
  refine J_callVi hx lkV_RL_101 (rfl : k_sh 63 = (5, k_N 5)) [.int (xs (nI i + nI 1).toNatClampNeg)] [.int t.1] rfl rfl (Nat.le_of_ble_eq_true rfl) (Nat.le_of_ble_eq_true rfl) (s_X5_on ⟨u, eu, ⟨rfl, rfl, rfl⟩⟩) dL_825 ?_
  exact J_ic_eq hx dL_828 1332 (by decide) (fun _ => kk _ _ er) (fun c => absurd e1 c)
theorem lawC_21 {X : k_C} {ad : Nat → Nat} {I : StI} {L : StL} {b N i : Nat} {xs : Nat → Int32} (hx : Ok X code RL 4 ret 20) (hX : k_scr X b N xs) (hi : i + 6 ≤ N ∧ N ≤ 3072) (hR : Rel I L) (kk : ∀ I L, Rel I L → J X ad 4 I L 1332 [(3, .int (nI i)), (0, .ref b), (1, .ref (ad 0)), (2, .ref (ad 63))] []) : J X ad 4 I L 833 [(3, .int (nI i)), (0, .ref b), (1, .ref (ad 0)), (2, .ref (ad 63))] [] := by
  obtain ⟨t, et, u, eu, e1, er⟩ := L_calls hR 
  refine J_aload_n hx dL_833 2 rfl ?_
  refine J_callVi hx lkV_RL_102 (rfl : k_sh 0 = (4, k_N 4)) [] [] rfl rfl (Nat.le_of_ble_eq_true rfl) (Nat.le_of_ble_eq_true rfl) (s_X4_calls ⟨t, et, ⟨rfl, rfl, rfl⟩⟩) dL_834 ?_
  refine J_aload_n hx dL_837 3 rfl ?_
  refine J_callVi hx lkV_RL_105 (rfl : k_sh 63 = (5, k_N 5)) [] [.int t.1] rfl rfl (Nat.le_of_ble_eq_true rfl) (Nat.le_of_ble_eq_true rfl) (s_X5_calls ⟨u, eu, ⟨rfl, rfl, rfl⟩⟩) dL_838 ?_
  exact J_ic_eq hx dL_841 1332 (by decide) (fun _ => kk _ _ er) (fun c => absurd e1 c)
theorem lawC_22 {X : k_C} {ad : Nat → Nat} {I : StI} {L : StL} {b N i : Nat} {xs : Nat → Int32} (hx : Ok X code RL 4 ret 20) (hX : k_scr X b N xs) (hi : i + 6 ≤ N ∧ N ≤ 3072) (hR : Rel I L) (kk : ∀ I L, Rel I L → J X ad 4 I L 1332 [(3, .int (nI i)), (0, .ref b), (1, .ref (ad 0)), (2, .ref (ad 63))] []) : J X ad 4 I L 846 [(3, .int (nI i)), (0, .ref b), (1, .ref (ad 0)), (2, .ref (ad 63))] [] := by
  obtain ⟨t, et, u, eu, e1, er⟩ := L_later hR (xs (nI i + nI 1).toNatClampNeg) (xs (nI i + nI 2).toNatClampNeg)
  refine J_aload_n hx dL_846 2 rfl ?_
  refine J_aload_n hx dL_847 1 rfl ?_
  refine J_iload_n hx dL_848 0 rfl ?_
  refine J_iconst (v := nI 1) hx dL_849 (by decide) ?_
  refine J_iadd hx dL_850 ?_
  refine J_sld hx hX (scr_in hi (by decide)) dL_851 ?_
  refine J_aload_n hx dL_852 1 rfl ?_
  refine J_iload_n hx dL_853 0 rfl ?_
  refine J_iconst (v := nI 2) hx dL_854 (by decide) ?_
  refine J_iadd hx dL_855 ?_
  refine J_sld hx hX (scr_in hi (by decide)) dL_856 ?_
  refine J_callVi hx lkV_RL_106 (rfl : k_sh 0 = (4, k_N 4)) [.int (xs (nI i + nI 1).toNatClampNeg), .int (xs (nI i + nI 2).toNatClampNeg)] [] rfl rfl (Nat.le_of_ble_eq_true rfl) (Nat.le_of_ble_eq_true rfl) (s_X4_later ⟨t, et, ⟨rfl, rfl, rfl⟩⟩) dL_857 ?_
  refine J_aload_n hx dL_860 3 rfl ?_
  refine J_aload_n hx dL_861 1 rfl ?_
  refine J_iload_n hx dL_862 0 rfl ?_
  refine J_iconst (v := nI 1) hx dL_863 (by decide) ?_
  refine J_iadd hx dL_864 ?_
  refine J_sld hx hX (scr_in hi (by decide)) dL_865 ?_
  refine J_aload_n hx dL_866 1 rfl ?_
  refine J_iload_n hx dL_867 0 rfl ?_
  refine J_iconst (v := nI 2) hx dL_868 (by decide) ?_
  refine J_iadd hx dL_869 ?_
  refine J_sld hx hX (scr_in hi (by decide)) dL_870 ?_
  refine J_callVi hx lkV_RL_109 (rfl : k_sh 63 = (5, k_N 5)) [.int (xs (nI i + nI 1).toNatClampNeg), .int (xs (nI i + nI 2).toNatClampNeg)] [.int t.1] rfl rfl (Nat.le_of_ble_eq_true rfl) (Nat.le_of_ble_eq_true rfl) (s_X5_later ⟨u, eu, ⟨rfl, rfl, rfl⟩⟩) dL_871 ?_
  exact J_ic_eq hx dL_874 1332 (by decide) (fun _ => kk _ _ er) (fun c => absurd e1 c)
theorem lawC_23 {X : k_C} {ad : Nat → Nat} {I : StI} {L : StL} {b N i : Nat} {xs : Nat → Int32} (hx : Ok X code RL 4 ret 20) (hX : k_scr X b N xs) (hi : i + 6 ≤ N ∧ N ≤ 3072) (hR : Rel I L) (kk : ∀ I L, Rel I L → J X ad 4 I L 1332 [(3, .int (nI i)), (0, .ref b), (1, .ref (ad 0)), (2, .ref (ad 63))] []) : J X ad 4 I L 879 [(3, .int (nI i)), (0, .ref b), (1, .ref (ad 0)), (2, .ref (ad 63))] [] := by
  obtain ⟨t, et, u, eu, e1, er⟩ := L_trips hR (xs (nI i + nI 1).toNatClampNeg)
  refine J_aload_n hx dL_879 2 rfl ?_
  refine J_aload_n hx dL_880 1 rfl ?_
  refine J_iload_n hx dL_881 0 rfl ?_
  refine J_iconst (v := nI 1) hx dL_882 (by decide) ?_
  refine J_iadd hx dL_883 ?_
  refine J_sld hx hX (scr_in hi (by decide)) dL_884 ?_
  refine J_callVi hx lkV_RL_110 (rfl : k_sh 0 = (4, k_N 4)) [.int (xs (nI i + nI 1).toNatClampNeg)] [] rfl rfl (Nat.le_of_ble_eq_true rfl) (Nat.le_of_ble_eq_true rfl) (s_X4_trips ⟨t, et, ⟨rfl, rfl, rfl⟩⟩) dL_885 ?_
  refine J_aload_n hx dL_888 3 rfl ?_
  refine J_aload_n hx dL_889 1 rfl ?_
  refine J_iload_n hx dL_890 0 rfl ?_
  refine J_iconst (v := nI 1) hx dL_891 (by decide) ?_
  refine J_iadd hx dL_892 ?_
  refine J_sld hx hX (scr_in hi (by decide)) dL_893 ?_
  refine J_callVi hx lkV_RL_113 (rfl : k_sh 63 = (5, k_N 5)) [.int (xs (nI i + nI 1).toNatClampNeg)] [.int t.1] rfl rfl (Nat.le_of_ble_eq_true rfl) (Nat.le_of_ble_eq_true rfl) (s_X5_trips ⟨u, eu, ⟨rfl, rfl, rfl⟩⟩) dL_894 ?_
  exact J_ic_eq hx dL_897 1332 (by decide) (fun _ => kk _ _ er) (fun c => absurd e1 c)
theorem lawC_24 {X : k_C} {ad : Nat → Nat} {I : StI} {L : StL} {b N i : Nat} {xs : Nat → Int32} (hx : Ok X code RL 4 ret 20) (hX : k_scr X b N xs) (hi : i + 6 ≤ N ∧ N ≤ 3072) (hR : Rel I L) (kk : ∀ I L, Rel I L → J X ad 4 I L 1332 [(3, .int (nI i)), (0, .ref b), (1, .ref (ad 0)), (2, .ref (ad 63))] []) : J X ad 4 I L 902 [(3, .int (nI i)), (0, .ref b), (1, .ref (ad 0)), (2, .ref (ad 63))] [] := by
  obtain ⟨t, et, u, eu, e1, er⟩ := L_worst hR 
  refine J_aload_n hx dL_902 2 rfl ?_
  refine J_callVi hx lkV_RL_114 (rfl : k_sh 0 = (4, k_N 4)) [] [] rfl rfl (Nat.le_of_ble_eq_true rfl) (Nat.le_of_ble_eq_true rfl) (s_X4_worst ⟨t, et, ⟨rfl, rfl, rfl⟩⟩) dL_903 ?_
  refine J_aload_n hx dL_906 3 rfl ?_
  refine J_callVi hx lkV_RL_117 (rfl : k_sh 63 = (5, k_N 5)) [] [.int t.1] rfl rfl (Nat.le_of_ble_eq_true rfl) (Nat.le_of_ble_eq_true rfl) (s_X5_worst ⟨u, eu, ⟨rfl, rfl, rfl⟩⟩) dL_907 ?_
  exact J_ic_eq hx dL_910 1332 (by decide) (fun _ => kk _ _ er) (fun c => absurd e1 c)
theorem lawC_25 {X : k_C} {ad : Nat → Nat} {I : StI} {L : StL} {b N i : Nat} {xs : Nat → Int32} (hx : Ok X code RL 4 ret 20) (hX : k_scr X b N xs) (hi : i + 6 ≤ N ∧ N ≤ 3072) (hR : Rel I L) (kk : ∀ I L, Rel I L → J X ad 4 I L 1332 [(3, .int (nI i)), (0, .ref b), (1, .ref (ad 0)), (2, .ref (ad 63))] []) : J X ad 4 I L 915 [(3, .int (nI i)), (0, .ref b), (1, .ref (ad 0)), (2, .ref (ad 63))] [] := by
  obtain ⟨t, et, u, eu, e1, er⟩ := L_best hR (xs (nI i + nI 1).toNatClampNeg)
  refine J_aload_n hx dL_915 2 rfl ?_
  refine J_aload_n hx dL_916 1 rfl ?_
  refine J_iload_n hx dL_917 0 rfl ?_
  refine J_iconst (v := nI 1) hx dL_918 (by decide) ?_
  refine J_iadd hx dL_919 ?_
  refine J_sld hx hX (scr_in hi (by decide)) dL_920 ?_
  refine J_callVi hx lkV_RL_118 (rfl : k_sh 0 = (4, k_N 4)) [.int (xs (nI i + nI 1).toNatClampNeg)] [] rfl rfl (Nat.le_of_ble_eq_true rfl) (Nat.le_of_ble_eq_true rfl) (s_X4_best ⟨t, et, ⟨rfl, rfl, rfl⟩⟩) dL_921 ?_
  refine J_aload_n hx dL_924 3 rfl ?_
  refine J_aload_n hx dL_925 1 rfl ?_
  refine J_iload_n hx dL_926 0 rfl ?_
  refine J_iconst (v := nI 1) hx dL_927 (by decide) ?_
  refine J_iadd hx dL_928 ?_
  refine J_sld hx hX (scr_in hi (by decide)) dL_929 ?_
  refine J_callVi hx lkV_RL_121 (rfl : k_sh 63 = (5, k_N 5)) [.int (xs (nI i + nI 1).toNatClampNeg)] [.int t.1] rfl rfl (Nat.le_of_ble_eq_true rfl) (Nat.le_of_ble_eq_true rfl) (s_X5_best ⟨u, eu, ⟨rfl, rfl, rfl⟩⟩) dL_930 ?_
  exact J_ic_eq hx dL_933 1332 (by decide) (fun _ => kk _ _ er) (fun c => absurd e1 c)
theorem lawC_26 {X : k_C} {ad : Nat → Nat} {I : StI} {L : StL} {b N i : Nat} {xs : Nat → Int32} (hx : Ok X code RL 4 ret 20) (hX : k_scr X b N xs) (hi : i + 6 ≤ N ∧ N ≤ 3072) (hR : Rel I L) (kk : ∀ I L, Rel I L → J X ad 4 I L 1332 [(3, .int (nI i)), (0, .ref b), (1, .ref (ad 0)), (2, .ref (ad 63))] []) : J X ad 4 I L 938 [(3, .int (nI i)), (0, .ref b), (1, .ref (ad 0)), (2, .ref (ad 63))] [] := by
  obtain ⟨t, et, u, eu, e1, er⟩ := L_mend hR (xs (nI i + nI 1).toNatClampNeg)
  refine J_aload_n hx dL_938 2 rfl ?_
  refine J_aload_n hx dL_939 1 rfl ?_
  refine J_iload_n hx dL_940 0 rfl ?_
  refine J_iconst (v := nI 1) hx dL_941 (by decide) ?_
  refine J_iadd hx dL_942 ?_
  refine J_sld hx hX (scr_in hi (by decide)) dL_943 ?_
  refine J_callVi hx lkV_RL_122 (rfl : k_sh 0 = (4, k_N 4)) [.int (xs (nI i + nI 1).toNatClampNeg)] [] rfl rfl (Nat.le_of_ble_eq_true rfl) (Nat.le_of_ble_eq_true rfl) (s_X4_mend ⟨t, et, ⟨rfl, rfl, rfl⟩⟩) dL_944 ?_
  refine J_aload_n hx dL_947 3 rfl ?_
  refine J_aload_n hx dL_948 1 rfl ?_
  refine J_iload_n hx dL_949 0 rfl ?_
  refine J_iconst (v := nI 1) hx dL_950 (by decide) ?_
  refine J_iadd hx dL_951 ?_
  refine J_sld hx hX (scr_in hi (by decide)) dL_952 ?_
  refine J_callVi hx lkV_RL_125 (rfl : k_sh 63 = (5, k_N 5)) [.int (xs (nI i + nI 1).toNatClampNeg)] [.int t.1] rfl rfl (Nat.le_of_ble_eq_true rfl) (Nat.le_of_ble_eq_true rfl) (s_X5_mend ⟨u, eu, ⟨rfl, rfl, rfl⟩⟩) dL_953 ?_
  exact J_ic_eq hx dL_956 1332 (by decide) (fun _ => kk _ _ er) (fun c => absurd e1 c)
theorem lawC_27 {X : k_C} {ad : Nat → Nat} {I : StI} {L : StL} {b N i : Nat} {xs : Nat → Int32} (hx : Ok X code RL 4 ret 20) (hX : k_scr X b N xs) (hi : i + 6 ≤ N ∧ N ≤ 3072) (hR : Rel I L) (kk : ∀ I L, Rel I L → J X ad 4 I L 1332 [(3, .int (nI i)), (0, .ref b), (1, .ref (ad 0)), (2, .ref (ad 63))] []) : J X ad 4 I L 961 [(3, .int (nI i)), (0, .ref b), (1, .ref (ad 0)), (2, .ref (ad 63))] [] := by
  obtain ⟨t, et, u, eu, e1, er⟩ := L_tune hR (xs (nI i + nI 1).toNatClampNeg) (xs (nI i + nI 2).toNatClampNeg)
  refine J_aload_n hx dL_961 2 rfl ?_
  refine J_aload_n hx dL_962 1 rfl ?_
  refine J_iload_n hx dL_963 0 rfl ?_
  refine J_iconst (v := nI 1) hx dL_964 (by decide) ?_
  refine J_iadd hx dL_965 ?_
  refine J_sld hx hX (scr_in hi (by decide)) dL_966 ?_
  refine J_aload_n hx dL_967 1 rfl ?_
  refine J_iload_n hx dL_968 0 rfl ?_
  refine J_iconst (v := nI 2) hx dL_969 (by decide) ?_
  refine J_iadd hx dL_970 ?_
  refine J_sld hx hX (scr_in hi (by decide)) dL_971 ?_
  refine J_callVi hx lkV_RL_126 (rfl : k_sh 0 = (4, k_N 4)) [.int (xs (nI i + nI 1).toNatClampNeg), .int (xs (nI i + nI 2).toNatClampNeg)] [] rfl rfl (Nat.le_of_ble_eq_true rfl) (Nat.le_of_ble_eq_true rfl) (s_X4_tune ⟨t, et, ⟨rfl, rfl, rfl⟩⟩) dL_972 ?_
  refine J_aload_n hx dL_975 3 rfl ?_
  refine J_aload_n hx dL_976 1 rfl ?_
  refine J_iload_n hx dL_977 0 rfl ?_
  refine J_iconst (v := nI 1) hx dL_978 (by decide) ?_
  refine J_iadd hx dL_979 ?_
  refine J_sld hx hX (scr_in hi (by decide)) dL_980 ?_
  refine J_aload_n hx dL_981 1 rfl ?_
  refine J_iload_n hx dL_982 0 rfl ?_
  refine J_iconst (v := nI 2) hx dL_983 (by decide) ?_
  refine J_iadd hx dL_984 ?_
  refine J_sld hx hX (scr_in hi (by decide)) dL_985 ?_
  refine J_callVi hx lkV_RL_129 (rfl : k_sh 63 = (5, k_N 5)) [.int (xs (nI i + nI 1).toNatClampNeg), .int (xs (nI i + nI 2).toNatClampNeg)] [.int t.1] rfl rfl (Nat.le_of_ble_eq_true rfl) (Nat.le_of_ble_eq_true rfl) (s_X5_tune ⟨u, eu, ⟨rfl, rfl, rfl⟩⟩) dL_986 ?_
  exact J_ic_eq hx dL_989 1332 (by decide) (fun _ => kk _ _ er) (fun c => absurd e1 c)
theorem lawC_28 {X : k_C} {ad : Nat → Nat} {I : StI} {L : StL} {b N i : Nat} {xs : Nat → Int32} (hx : Ok X code RL 4 ret 20) (hX : k_scr X b N xs) (hi : i + 6 ≤ N ∧ N ≤ 3072) (hR : Rel I L) (kk : ∀ I L, Rel I L → J X ad 4 I L 1332 [(3, .int (nI i)), (0, .ref b), (1, .ref (ad 0)), (2, .ref (ad 63))] []) : J X ad 4 I L 994 [(3, .int (nI i)), (0, .ref b), (1, .ref (ad 0)), (2, .ref (ad 63))] [] := by
  obtain ⟨t, et, u, eu, e1, er⟩ := L_hush hR (xs (nI i + nI 1).toNatClampNeg)
  refine J_aload_n hx dL_994 2 rfl ?_
  refine J_aload_n hx dL_995 1 rfl ?_
  refine J_iload_n hx dL_996 0 rfl ?_
  refine J_iconst (v := nI 1) hx dL_997 (by decide) ?_
  refine J_iadd hx dL_998 ?_
  refine J_sld hx hX (scr_in hi (by decide)) dL_999 ?_
  refine J_callVi hx lkV_RL_130 (rfl : k_sh 0 = (4, k_N 4)) [.int (xs (nI i + nI 1).toNatClampNeg)] [] rfl rfl (Nat.le_of_ble_eq_true rfl) (Nat.le_of_ble_eq_true rfl) (s_X4_hush ⟨t, et, ⟨rfl, rfl, rfl⟩⟩) dL_1000 ?_
  refine J_aload_n hx dL_1003 3 rfl ?_
  refine J_aload_n hx dL_1004 1 rfl ?_
  refine J_iload_n hx dL_1005 0 rfl ?_
  refine J_iconst (v := nI 1) hx dL_1006 (by decide) ?_
  refine J_iadd hx dL_1007 ?_
  refine J_sld hx hX (scr_in hi (by decide)) dL_1008 ?_
  refine J_callVi hx lkV_RL_133 (rfl : k_sh 63 = (5, k_N 5)) [.int (xs (nI i + nI 1).toNatClampNeg)] [.int t.1] rfl rfl (Nat.le_of_ble_eq_true rfl) (Nat.le_of_ble_eq_true rfl) (s_X5_hush ⟨u, eu, ⟨rfl, rfl, rfl⟩⟩) dL_1009 ?_
  exact J_ic_eq hx dL_1012 1332 (by decide) (fun _ => kk _ _ er) (fun c => absurd e1 c)
theorem lawC_29 {X : k_C} {ad : Nat → Nat} {I : StI} {L : StL} {b N i : Nat} {xs : Nat → Int32} (hx : Ok X code RL 4 ret 20) (hX : k_scr X b N xs) (hi : i + 6 ≤ N ∧ N ≤ 3072) (hR : Rel I L) (kk : ∀ I L, Rel I L → J X ad 4 I L 1332 [(3, .int (nI i)), (0, .ref b), (1, .ref (ad 0)), (2, .ref (ad 63))] []) : J X ad 4 I L 1017 [(3, .int (nI i)), (0, .ref b), (1, .ref (ad 0)), (2, .ref (ad 63))] [] := by
  obtain ⟨t, et, u, eu, e1, er⟩ := L_patterns hR (xs (nI i + nI 1).toNatClampNeg)
  refine J_aload_n hx dL_1017 2 rfl ?_
  refine J_aload_n hx dL_1018 1 rfl ?_
  refine J_iload_n hx dL_1019 0 rfl ?_
  refine J_iconst (v := nI 1) hx dL_1020 (by decide) ?_
  refine J_iadd hx dL_1021 ?_
  refine J_sld hx hX (scr_in hi (by decide)) dL_1022 ?_
  refine J_callVi hx lkV_RL_134 (rfl : k_sh 0 = (4, k_N 4)) [.int (xs (nI i + nI 1).toNatClampNeg)] [] rfl rfl (Nat.le_of_ble_eq_true rfl) (Nat.le_of_ble_eq_true rfl) (s_X4_patterns ⟨t, et, ⟨rfl, rfl, rfl⟩⟩) dL_1023 ?_
  refine J_aload_n hx dL_1026 3 rfl ?_
  refine J_aload_n hx dL_1027 1 rfl ?_
  refine J_iload_n hx dL_1028 0 rfl ?_
  refine J_iconst (v := nI 1) hx dL_1029 (by decide) ?_
  refine J_iadd hx dL_1030 ?_
  refine J_sld hx hX (scr_in hi (by decide)) dL_1031 ?_
  refine J_callVi hx lkV_RL_137 (rfl : k_sh 63 = (5, k_N 5)) [.int (xs (nI i + nI 1).toNatClampNeg)] [.int t.1] rfl rfl (Nat.le_of_ble_eq_true rfl) (Nat.le_of_ble_eq_true rfl) (s_X5_patterns ⟨u, eu, ⟨rfl, rfl, rfl⟩⟩) dL_1032 ?_
  exact J_ic_eq hx dL_1035 1332 (by decide) (fun _ => kk _ _ er) (fun c => absurd e1 c)
theorem lawC_30 {X : k_C} {ad : Nat → Nat} {I : StI} {L : StL} {b N i : Nat} {xs : Nat → Int32} (hx : Ok X code RL 4 ret 20) (hX : k_scr X b N xs) (hi : i + 6 ≤ N ∧ N ≤ 3072) (hR : Rel I L) (kk : ∀ I L, Rel I L → J X ad 4 I L 1332 [(3, .int (nI i)), (0, .ref b), (1, .ref (ad 0)), (2, .ref (ad 63))] []) : J X ad 4 I L 1040 [(3, .int (nI i)), (0, .ref b), (1, .ref (ad 0)), (2, .ref (ad 63))] [] := by
  obtain ⟨t, et, u, eu, e1, er⟩ := L_kinds hR (xs (nI i + nI 1).toNatClampNeg) (xs (nI i + nI 2).toNatClampNeg)
  refine J_aload_n hx dL_1040 2 rfl ?_
  refine J_aload_n hx dL_1041 1 rfl ?_
  refine J_iload_n hx dL_1042 0 rfl ?_
  refine J_iconst (v := nI 1) hx dL_1043 (by decide) ?_
  refine J_iadd hx dL_1044 ?_
  refine J_sld hx hX (scr_in hi (by decide)) dL_1045 ?_
  refine J_aload_n hx dL_1046 1 rfl ?_
  refine J_iload_n hx dL_1047 0 rfl ?_
  refine J_iconst (v := nI 2) hx dL_1048 (by decide) ?_
  refine J_iadd hx dL_1049 ?_
  refine J_sld hx hX (scr_in hi (by decide)) dL_1050 ?_
  refine J_callVi hx lkV_RL_138 (rfl : k_sh 0 = (4, k_N 4)) [.int (xs (nI i + nI 1).toNatClampNeg), .int (xs (nI i + nI 2).toNatClampNeg)] [] rfl rfl (Nat.le_of_ble_eq_true rfl) (Nat.le_of_ble_eq_true rfl) (s_X4_kinds ⟨t, et, ⟨rfl, rfl, rfl⟩⟩) dL_1051 ?_
  refine J_aload_n hx dL_1054 3 rfl ?_
  refine J_aload_n hx dL_1055 1 rfl ?_
  refine J_iload_n hx dL_1056 0 rfl ?_
  refine J_iconst (v := nI 1) hx dL_1057 (by decide) ?_
  refine J_iadd hx dL_1058 ?_
  refine J_sld hx hX (scr_in hi (by decide)) dL_1059 ?_
  refine J_aload_n hx dL_1060 1 rfl ?_
  refine J_iload_n hx dL_1061 0 rfl ?_
  refine J_iconst (v := nI 2) hx dL_1062 (by decide) ?_
  refine J_iadd hx dL_1063 ?_
  refine J_sld hx hX (scr_in hi (by decide)) dL_1064 ?_
  refine J_callVi hx lkV_RL_141 (rfl : k_sh 63 = (5, k_N 5)) [.int (xs (nI i + nI 1).toNatClampNeg), .int (xs (nI i + nI 2).toNatClampNeg)] [.int t.1] rfl rfl (Nat.le_of_ble_eq_true rfl) (Nat.le_of_ble_eq_true rfl) (s_X5_kinds ⟨u, eu, ⟨rfl, rfl, rfl⟩⟩) dL_1065 ?_
  exact J_ic_eq hx dL_1068 1332 (by decide) (fun _ => kk _ _ er) (fun c => absurd e1 c)
theorem lawC_31 {X : k_C} {ad : Nat → Nat} {I : StI} {L : StL} {b N i : Nat} {xs : Nat → Int32} (hx : Ok X code RL 4 ret 20) (hX : k_scr X b N xs) (hi : i + 6 ≤ N ∧ N ≤ 3072) (hR : Rel I L) (kk : ∀ I L, Rel I L → J X ad 4 I L 1332 [(3, .int (nI i)), (0, .ref b), (1, .ref (ad 0)), (2, .ref (ad 63))] []) : J X ad 4 I L 1073 [(3, .int (nI i)), (0, .ref b), (1, .ref (ad 0)), (2, .ref (ad 63))] [] := by
  obtain ⟨t, et, u, eu, e1, er⟩ := L_test hR (xs (nI i + nI 1).toNatClampNeg) (xs (nI i + nI 2).toNatClampNeg)
  refine J_aload_n hx dL_1073 2 rfl ?_
  refine J_aload_n hx dL_1074 1 rfl ?_
  refine J_iload_n hx dL_1075 0 rfl ?_
  refine J_iconst (v := nI 1) hx dL_1076 (by decide) ?_
  refine J_iadd hx dL_1077 ?_
  refine J_sld hx hX (scr_in hi (by decide)) dL_1078 ?_
  refine J_aload_n hx dL_1079 1 rfl ?_
  refine J_iload_n hx dL_1080 0 rfl ?_
  refine J_iconst (v := nI 2) hx dL_1081 (by decide) ?_
  refine J_iadd hx dL_1082 ?_
  refine J_sld hx hX (scr_in hi (by decide)) dL_1083 ?_
  refine J_callVi hx lkV_RL_142 (rfl : k_sh 0 = (4, k_N 4)) [.int (xs (nI i + nI 1).toNatClampNeg), .int (xs (nI i + nI 2).toNatClampNeg)] [] rfl rfl (Nat.le_of_ble_eq_true rfl) (Nat.le_of_ble_eq_true rfl) (s_X4_test ⟨t, et, ⟨rfl, rfl, rfl⟩⟩) dL_1084 ?_
  refine J_aload_n hx dL_1087 3 rfl ?_
  refine J_aload_n hx dL_1088 1 rfl ?_
  refine J_iload_n hx dL_1089 0 rfl ?_
  refine J_iconst (v := nI 1) hx dL_1090 (by decide) ?_
  refine J_iadd hx dL_1091 ?_
  refine J_sld hx hX (scr_in hi (by decide)) dL_1092 ?_
  refine J_aload_n hx dL_1093 1 rfl ?_
  refine J_iload_n hx dL_1094 0 rfl ?_
  refine J_iconst (v := nI 2) hx dL_1095 (by decide) ?_
  refine J_iadd hx dL_1096 ?_
  refine J_sld hx hX (scr_in hi (by decide)) dL_1097 ?_
  refine J_callVi hx lkV_RL_145 (rfl : k_sh 63 = (5, k_N 5)) [.int (xs (nI i + nI 1).toNatClampNeg), .int (xs (nI i + nI 2).toNatClampNeg)] [.int t.1] rfl rfl (Nat.le_of_ble_eq_true rfl) (Nat.le_of_ble_eq_true rfl) (s_X5_test ⟨u, eu, ⟨rfl, rfl, rfl⟩⟩) dL_1098 ?_
  exact J_ic_eq hx dL_1101 1332 (by decide) (fun _ => kk _ _ er) (fun c => absurd e1 c)
theorem lawC_32 {X : k_C} {ad : Nat → Nat} {I : StI} {L : StL} {b N i : Nat} {xs : Nat → Int32} (hx : Ok X code RL 4 ret 20) (hX : k_scr X b N xs) (hi : i + 6 ≤ N ∧ N ≤ 3072) (hR : Rel I L) (kk : ∀ I L, Rel I L → J X ad 4 I L 1332 [(3, .int (nI i)), (0, .ref b), (1, .ref (ad 0)), (2, .ref (ad 63))] []) : J X ad 4 I L 1106 [(3, .int (nI i)), (0, .ref b), (1, .ref (ad 0)), (2, .ref (ad 63))] [] := by
  obtain ⟨t, et, u, eu, e1, er⟩ := L_duel hR (xs (nI i + nI 1).toNatClampNeg)
  refine J_aload_n hx dL_1106 2 rfl ?_
  refine J_aload_n hx dL_1107 1 rfl ?_
  refine J_iload_n hx dL_1108 0 rfl ?_
  refine J_iconst (v := nI 1) hx dL_1109 (by decide) ?_
  refine J_iadd hx dL_1110 ?_
  refine J_sld hx hX (scr_in hi (by decide)) dL_1111 ?_
  refine J_callVi hx lkV_RL_146 (rfl : k_sh 0 = (4, k_N 4)) [.int (xs (nI i + nI 1).toNatClampNeg)] [] rfl rfl (Nat.le_of_ble_eq_true rfl) (Nat.le_of_ble_eq_true rfl) (s_X4_duel ⟨t, et, ⟨rfl, rfl, rfl⟩⟩) dL_1112 ?_
  refine J_aload_n hx dL_1115 3 rfl ?_
  refine J_aload_n hx dL_1116 1 rfl ?_
  refine J_iload_n hx dL_1117 0 rfl ?_
  refine J_iconst (v := nI 1) hx dL_1118 (by decide) ?_
  refine J_iadd hx dL_1119 ?_
  refine J_sld hx hX (scr_in hi (by decide)) dL_1120 ?_
  refine J_callVi hx lkV_RL_149 (rfl : k_sh 63 = (5, k_N 5)) [.int (xs (nI i + nI 1).toNatClampNeg)] [.int t.1] rfl rfl (Nat.le_of_ble_eq_true rfl) (Nat.le_of_ble_eq_true rfl) (s_X5_duel ⟨u, eu, ⟨rfl, rfl, rfl⟩⟩) dL_1121 ?_
  exact J_ic_eq hx dL_1124 1332 (by decide) (fun _ => kk _ _ er) (fun c => absurd e1 c)
theorem lawC_33 {X : k_C} {ad : Nat → Nat} {I : StI} {L : StL} {b N i : Nat} {xs : Nat → Int32} (hx : Ok X code RL 4 ret 20) (hX : k_scr X b N xs) (hi : i + 6 ≤ N ∧ N ≤ 3072) (hR : Rel I L) (kk : ∀ I L, Rel I L → J X ad 4 I L 1332 [(3, .int (nI i)), (0, .ref b), (1, .ref (ad 0)), (2, .ref (ad 63))] []) : J X ad 4 I L 1129 [(3, .int (nI i)), (0, .ref b), (1, .ref (ad 0)), (2, .ref (ad 63))] [] := by
  obtain ⟨t, et, u, eu, e1, er⟩ := L_odds hR (xs (nI i + nI 1).toNatClampNeg) (xs (nI i + nI 2).toNatClampNeg)
  refine J_aload_n hx dL_1129 2 rfl ?_
  refine J_aload_n hx dL_1130 1 rfl ?_
  refine J_iload_n hx dL_1131 0 rfl ?_
  refine J_iconst (v := nI 1) hx dL_1132 (by decide) ?_
  refine J_iadd hx dL_1133 ?_
  refine J_sld hx hX (scr_in hi (by decide)) dL_1134 ?_
  refine J_aload_n hx dL_1135 1 rfl ?_
  refine J_iload_n hx dL_1136 0 rfl ?_
  refine J_iconst (v := nI 2) hx dL_1137 (by decide) ?_
  refine J_iadd hx dL_1138 ?_
  refine J_sld hx hX (scr_in hi (by decide)) dL_1139 ?_
  refine J_callVi hx lkV_RL_150 (rfl : k_sh 0 = (4, k_N 4)) [.int (xs (nI i + nI 1).toNatClampNeg), .int (xs (nI i + nI 2).toNatClampNeg)] [] rfl rfl (Nat.le_of_ble_eq_true rfl) (Nat.le_of_ble_eq_true rfl) (s_X4_odds ⟨t, et, ⟨rfl, rfl, rfl⟩⟩) dL_1140 ?_
  refine J_aload_n hx dL_1143 3 rfl ?_
  refine J_aload_n hx dL_1144 1 rfl ?_
  refine J_iload_n hx dL_1145 0 rfl ?_
  refine J_iconst (v := nI 1) hx dL_1146 (by decide) ?_
  refine J_iadd hx dL_1147 ?_
  refine J_sld hx hX (scr_in hi (by decide)) dL_1148 ?_
  refine J_aload_n hx dL_1149 1 rfl ?_
  refine J_iload_n hx dL_1150 0 rfl ?_
  refine J_iconst (v := nI 2) hx dL_1151 (by decide) ?_
  refine J_iadd hx dL_1152 ?_
  refine J_sld hx hX (scr_in hi (by decide)) dL_1153 ?_
  refine J_callVi hx lkV_RL_153 (rfl : k_sh 63 = (5, k_N 5)) [.int (xs (nI i + nI 1).toNatClampNeg), .int (xs (nI i + nI 2).toNatClampNeg)] [.int t.1] rfl rfl (Nat.le_of_ble_eq_true rfl) (Nat.le_of_ble_eq_true rfl) (s_X5_odds ⟨u, eu, ⟨rfl, rfl, rfl⟩⟩) dL_1154 ?_
  exact J_ic_eq hx dL_1157 1332 (by decide) (fun _ => kk _ _ er) (fun c => absurd e1 c)
theorem lawC_34 {X : k_C} {ad : Nat → Nat} {I : StI} {L : StL} {b N i : Nat} {xs : Nat → Int32} (hx : Ok X code RL 4 ret 20) (hX : k_scr X b N xs) (hi : i + 6 ≤ N ∧ N ≤ 3072) (hR : Rel I L) (kk : ∀ I L, Rel I L → J X ad 4 I L 1332 [(3, .int (nI i)), (0, .ref b), (1, .ref (ad 0)), (2, .ref (ad 63))] []) : J X ad 4 I L 1162 [(3, .int (nI i)), (0, .ref b), (1, .ref (ad 0)), (2, .ref (ad 63))] [] := by
  obtain ⟨t, et, u, eu, e1, er⟩ := L_mid hR (xs (nI i + nI 1).toNatClampNeg)
  refine J_aload_n hx dL_1162 2 rfl ?_
  refine J_aload_n hx dL_1163 1 rfl ?_
  refine J_iload_n hx dL_1164 0 rfl ?_
  refine J_iconst (v := nI 1) hx dL_1165 (by decide) ?_
  refine J_iadd hx dL_1166 ?_
  refine J_sld hx hX (scr_in hi (by decide)) dL_1167 ?_
  refine J_callVi hx lkV_RL_154 (rfl : k_sh 0 = (4, k_N 4)) [.int (xs (nI i + nI 1).toNatClampNeg)] [] rfl rfl (Nat.le_of_ble_eq_true rfl) (Nat.le_of_ble_eq_true rfl) (s_X4_mid ⟨t, et, ⟨rfl, rfl, rfl⟩⟩) dL_1168 ?_
  refine J_aload_n hx dL_1171 3 rfl ?_
  refine J_aload_n hx dL_1172 1 rfl ?_
  refine J_iload_n hx dL_1173 0 rfl ?_
  refine J_iconst (v := nI 1) hx dL_1174 (by decide) ?_
  refine J_iadd hx dL_1175 ?_
  refine J_sld hx hX (scr_in hi (by decide)) dL_1176 ?_
  refine J_callVi hx lkV_RL_157 (rfl : k_sh 63 = (5, k_N 5)) [.int (xs (nI i + nI 1).toNatClampNeg)] [.int t.1] rfl rfl (Nat.le_of_ble_eq_true rfl) (Nat.le_of_ble_eq_true rfl) (s_X5_mid ⟨u, eu, ⟨rfl, rfl, rfl⟩⟩) dL_1177 ?_
  exact J_ic_eq hx dL_1180 1332 (by decide) (fun _ => kk _ _ er) (fun c => absurd e1 c)
theorem lawC_35 {X : k_C} {ad : Nat → Nat} {I : StI} {L : StL} {b N i : Nat} {xs : Nat → Int32} (hx : Ok X code RL 4 ret 20) (hX : k_scr X b N xs) (hi : i + 6 ≤ N ∧ N ≤ 3072) (hR : Rel I L) (kk : ∀ I L, Rel I L → J X ad 4 I L 1332 [(3, .int (nI i)), (0, .ref b), (1, .ref (ad 0)), (2, .ref (ad 63))] []) : J X ad 4 I L 1185 [(3, .int (nI i)), (0, .ref b), (1, .ref (ad 0)), (2, .ref (ad 63))] [] := by
  obtain ⟨t, et, u, eu, e1, er⟩ := L_lots hR (xs (nI i + nI 1).toNatClampNeg) (xs (nI i + nI 2).toNatClampNeg)
  refine J_aload_n hx dL_1185 2 rfl ?_
  refine J_aload_n hx dL_1186 1 rfl ?_
  refine J_iload_n hx dL_1187 0 rfl ?_
  refine J_iconst (v := nI 1) hx dL_1188 (by decide) ?_
  refine J_iadd hx dL_1189 ?_
  refine J_sld hx hX (scr_in hi (by decide)) dL_1190 ?_
  refine J_aload_n hx dL_1191 1 rfl ?_
  refine J_iload_n hx dL_1192 0 rfl ?_
  refine J_iconst (v := nI 2) hx dL_1193 (by decide) ?_
  refine J_iadd hx dL_1194 ?_
  refine J_sld hx hX (scr_in hi (by decide)) dL_1195 ?_
  refine J_callVi hx lkV_RL_158 (rfl : k_sh 0 = (4, k_N 4)) [.int (xs (nI i + nI 1).toNatClampNeg), .int (xs (nI i + nI 2).toNatClampNeg)] [] rfl rfl (Nat.le_of_ble_eq_true rfl) (Nat.le_of_ble_eq_true rfl) (s_X4_lots ⟨t, et, ⟨rfl, rfl, rfl⟩⟩) dL_1196 ?_
  refine J_aload_n hx dL_1199 3 rfl ?_
  refine J_aload_n hx dL_1200 1 rfl ?_
  refine J_iload_n hx dL_1201 0 rfl ?_
  refine J_iconst (v := nI 1) hx dL_1202 (by decide) ?_
  refine J_iadd hx dL_1203 ?_
  refine J_sld hx hX (scr_in hi (by decide)) dL_1204 ?_
  refine J_aload_n hx dL_1205 1 rfl ?_
  refine J_iload_n hx dL_1206 0 rfl ?_
  refine J_iconst (v := nI 2) hx dL_1207 (by decide) ?_
  refine J_iadd hx dL_1208 ?_
  refine J_sld hx hX (scr_in hi (by decide)) dL_1209 ?_
  refine J_callVi hx lkV_RL_161 (rfl : k_sh 63 = (5, k_N 5)) [.int (xs (nI i + nI 1).toNatClampNeg), .int (xs (nI i + nI 2).toNatClampNeg)] [.int t.1] rfl rfl (Nat.le_of_ble_eq_true rfl) (Nat.le_of_ble_eq_true rfl) (s_X5_lots ⟨u, eu, ⟨rfl, rfl, rfl⟩⟩) dL_1210 ?_
  exact J_ic_eq hx dL_1213 1332 (by decide) (fun _ => kk _ _ er) (fun c => absurd e1 c)
theorem lawC_36 {X : k_C} {ad : Nat → Nat} {I : StI} {L : StL} {b N i : Nat} {xs : Nat → Int32} (hx : Ok X code RL 4 ret 20) (hX : k_scr X b N xs) (hi : i + 6 ≤ N ∧ N ≤ 3072) (hR : Rel I L) (kk : ∀ I L, Rel I L → J X ad 4 I L 1332 [(3, .int (nI i)), (0, .ref b), (1, .ref (ad 0)), (2, .ref (ad 63))] []) : J X ad 4 I L 1218 [(3, .int (nI i)), (0, .ref b), (1, .ref (ad 0)), (2, .ref (ad 63))] [] := by
  obtain ⟨r, e1, e2⟩ := L_asked hR 
  refine J_aload_n hx dL_1218 2 rfl ?_
  refine J_callVi hx lkV_RL_162 (rfl : k_sh 0 = (4, k_N 4)) [] [] rfl rfl (Nat.le_of_ble_eq_true rfl) (Nat.le_of_ble_eq_true rfl) (s_X4_asked ⟨r, e1, ⟨rfl, rfl, rfl⟩⟩) dL_1219 ?_
  refine J_aload_n hx dL_1222 3 rfl ?_
  refine J_callVi hx lkV_RL_165 (rfl : k_sh 63 = (5, k_N 5)) [] [.int r] rfl rfl (Nat.le_of_ble_eq_true rfl) (Nat.le_of_ble_eq_true rfl) (s_X5_asked ⟨r, e2, ⟨rfl, rfl, rfl⟩⟩) dL_1223 ?_
  exact J_ic_eq hx dL_1226 1332 (by decide) (fun _ => kk _ _ hR) (fun c => absurd rfl c)
theorem lawC_37 {X : k_C} {ad : Nat → Nat} {I : StI} {L : StL} {b N i : Nat} {xs : Nat → Int32} (hx : Ok X code RL 4 ret 20) (hX : k_scr X b N xs) (hi : i + 6 ≤ N ∧ N ≤ 3072) (hR : Rel I L) (kk : ∀ I L, Rel I L → J X ad 4 I L 1332 [(3, .int (nI i)), (0, .ref b), (1, .ref (ad 0)), (2, .ref (ad 63))] []) : J X ad 4 I L 1231 [(3, .int (nI i)), (0, .ref b), (1, .ref (ad 0)), (2, .ref (ad 63))] [] := by
  obtain ⟨r, e1, e2⟩ := L_upper hR 
  refine J_aload_n hx dL_1231 2 rfl ?_
  refine J_callVl hx lkV_RL_166 (rfl : k_sh 0 = (4, k_N 4)) [] [] rfl rfl (Nat.le_of_ble_eq_true rfl) (Nat.le_of_ble_eq_true rfl) (s_X4_upper ⟨r, e1, ⟨rfl, rfl, rfl⟩⟩) dL_1232 ?_
  refine J_aload_n hx dL_1235 3 rfl ?_
  refine J_callVl hx lkV_RL_170 (rfl : k_sh 63 = (5, k_N 5)) [] [.long r] rfl rfl (Nat.le_of_ble_eq_true rfl) (Nat.le_of_ble_eq_true rfl) (s_X5_upper ⟨r, e2, ⟨rfl, rfl, rfl⟩⟩) dL_1236 ?_
  refine J_lcmp hx dL_1239 ?_
  exact J_if_eq hx dL_1240 1332 (by decide) (fun _ => kk _ _ hR) (fun c => absurd ((lg_cmp_eq r r).mpr rfl) c)
theorem lawC_38 {X : k_C} {ad : Nat → Nat} {I : StI} {L : StL} {b N i : Nat} {xs : Nat → Int32} (hx : Ok X code RL 4 ret 20) (hX : k_scr X b N xs) (hi : i + 6 ≤ N ∧ N ≤ 3072) (hR : Rel I L) (kk : ∀ I L, Rel I L → J X ad 4 I L 1332 [(3, .int (nI i)), (0, .ref b), (1, .ref (ad 0)), (2, .ref (ad 63))] []) : J X ad 4 I L 1245 [(3, .int (nI i)), (0, .ref b), (1, .ref (ad 0)), (2, .ref (ad 63))] [] := by
  obtain ⟨r, e1, e2⟩ := L_lower hR 
  refine J_aload_n hx dL_1245 2 rfl ?_
  refine J_callVl hx lkV_RL_171 (rfl : k_sh 0 = (4, k_N 4)) [] [] rfl rfl (Nat.le_of_ble_eq_true rfl) (Nat.le_of_ble_eq_true rfl) (s_X4_lower ⟨r, e1, ⟨rfl, rfl, rfl⟩⟩) dL_1246 ?_
  refine J_aload_n hx dL_1249 3 rfl ?_
  refine J_callVl hx lkV_RL_174 (rfl : k_sh 63 = (5, k_N 5)) [] [.long r] rfl rfl (Nat.le_of_ble_eq_true rfl) (Nat.le_of_ble_eq_true rfl) (s_X5_lower ⟨r, e2, ⟨rfl, rfl, rfl⟩⟩) dL_1250 ?_
  refine J_lcmp hx dL_1253 ?_
  exact J_if_eq hx dL_1254 1332 (by decide) (fun _ => kk _ _ hR) (fun c => absurd ((lg_cmp_eq r r).mpr rfl) c)
theorem lawC_39 {X : k_C} {ad : Nat → Nat} {I : StI} {L : StL} {b N i : Nat} {xs : Nat → Int32} (hx : Ok X code RL 4 ret 20) (hX : k_scr X b N xs) (hi : i + 6 ≤ N ∧ N ≤ 3072) (hR : Rel I L) (kk : ∀ I L, Rel I L → J X ad 4 I L 1332 [(3, .int (nI i)), (0, .ref b), (1, .ref (ad 0)), (2, .ref (ad 63))] []) : J X ad 4 I L 1259 [(3, .int (nI i)), (0, .ref b), (1, .ref (ad 0)), (2, .ref (ad 63))] [] := by
  obtain ⟨r, e1, e2⟩ := L_count hR (xs (nI i + nI 1).toNatClampNeg)
  refine J_aload_n hx dL_1259 2 rfl ?_
  refine J_aload_n hx dL_1260 1 rfl ?_
  refine J_iload_n hx dL_1261 0 rfl ?_
  refine J_iconst (v := nI 1) hx dL_1262 (by decide) ?_
  refine J_iadd hx dL_1263 ?_
  refine J_sld hx hX (scr_in hi (by decide)) dL_1264 ?_
  refine J_callVi hx lkV_RL_175 (rfl : k_sh 0 = (4, k_N 4)) [.int (xs (nI i + nI 1).toNatClampNeg)] [] rfl rfl (Nat.le_of_ble_eq_true rfl) (Nat.le_of_ble_eq_true rfl) (s_X4_count ⟨r, e1, ⟨rfl, rfl, rfl⟩⟩) dL_1265 ?_
  refine J_aload_n hx dL_1268 3 rfl ?_
  refine J_aload_n hx dL_1269 1 rfl ?_
  refine J_iload_n hx dL_1270 0 rfl ?_
  refine J_iconst (v := nI 1) hx dL_1271 (by decide) ?_
  refine J_iadd hx dL_1272 ?_
  refine J_sld hx hX (scr_in hi (by decide)) dL_1273 ?_
  refine J_callVi hx lkV_RL_178 (rfl : k_sh 63 = (5, k_N 5)) [.int (xs (nI i + nI 1).toNatClampNeg)] [.int r] rfl rfl (Nat.le_of_ble_eq_true rfl) (Nat.le_of_ble_eq_true rfl) (s_X5_count ⟨r, e2, ⟨rfl, rfl, rfl⟩⟩) dL_1274 ?_
  exact J_ic_eq hx dL_1277 1332 (by decide) (fun _ => kk _ _ hR) (fun c => absurd rfl c)
theorem lawC_40 {X : k_C} {ad : Nat → Nat} {I : StI} {L : StL} {b N i : Nat} {xs : Nat → Int32} (hx : Ok X code RL 4 ret 20) (hX : k_scr X b N xs) (hi : i + 6 ≤ N ∧ N ≤ 3072) (hR : Rel I L) (kk : ∀ I L, Rel I L → J X ad 4 I L 1332 [(3, .int (nI i)), (0, .ref b), (1, .ref (ad 0)), (2, .ref (ad 63))] []) : J X ad 4 I L 1282 [(3, .int (nI i)), (0, .ref b), (1, .ref (ad 0)), (2, .ref (ad 63))] [] := by
  obtain ⟨r, e1, e2⟩ := L_finding hR 
  refine J_aload_n hx dL_1282 2 rfl ?_
  refine J_callVi hx lkV_RL_179 (rfl : k_sh 0 = (4, k_N 4)) [] [] rfl rfl (Nat.le_of_ble_eq_true rfl) (Nat.le_of_ble_eq_true rfl) (s_X4_finding ⟨r, e1, ⟨rfl, rfl, rfl⟩⟩) dL_1283 ?_
  refine J_aload_n hx dL_1286 3 rfl ?_
  refine J_callVi hx lkV_RL_182 (rfl : k_sh 63 = (5, k_N 5)) [] [.int r] rfl rfl (Nat.le_of_ble_eq_true rfl) (Nat.le_of_ble_eq_true rfl) (s_X5_finding ⟨r, e2, ⟨rfl, rfl, rfl⟩⟩) dL_1287 ?_
  exact J_ic_eq hx dL_1290 1332 (by decide) (fun _ => kk _ _ hR) (fun c => absurd rfl c)
theorem lawC_41 {X : k_C} {ad : Nat → Nat} {I : StI} {L : StL} {b N i : Nat} {xs : Nat → Int32} (hx : Ok X code RL 4 ret 20) (hX : k_scr X b N xs) (hi : i + 6 ≤ N ∧ N ≤ 3072) (hR : Rel I L) (kk : ∀ I L, Rel I L → J X ad 4 I L 1332 [(3, .int (nI i)), (0, .ref b), (1, .ref (ad 0)), (2, .ref (ad 63))] []) : J X ad 4 I L 1295 [(3, .int (nI i)), (0, .ref b), (1, .ref (ad 0)), (2, .ref (ad 63))] [] := by
  obtain ⟨r, e1, e2⟩ := L_findings hR (xs (nI i + nI 1).toNatClampNeg)
  refine J_aload_n hx dL_1295 2 rfl ?_
  refine J_aload_n hx dL_1296 1 rfl ?_
  refine J_iload_n hx dL_1297 0 rfl ?_
  refine J_iconst (v := nI 1) hx dL_1298 (by decide) ?_
  refine J_iadd hx dL_1299 ?_
  refine J_sld hx hX (scr_in hi (by decide)) dL_1300 ?_
  refine J_callVi hx lkV_RL_183 (rfl : k_sh 0 = (4, k_N 4)) [.int (xs (nI i + nI 1).toNatClampNeg)] [] rfl rfl (Nat.le_of_ble_eq_true rfl) (Nat.le_of_ble_eq_true rfl) (s_X4_findings ⟨r, e1, ⟨rfl, rfl, rfl⟩⟩) dL_1301 ?_
  refine J_aload_n hx dL_1304 3 rfl ?_
  refine J_aload_n hx dL_1305 1 rfl ?_
  refine J_iload_n hx dL_1306 0 rfl ?_
  refine J_iconst (v := nI 1) hx dL_1307 (by decide) ?_
  refine J_iadd hx dL_1308 ?_
  refine J_sld hx hX (scr_in hi (by decide)) dL_1309 ?_
  refine J_callVi hx lkV_RL_186 (rfl : k_sh 63 = (5, k_N 5)) [.int (xs (nI i + nI 1).toNatClampNeg)] [.int r] rfl rfl (Nat.le_of_ble_eq_true rfl) (Nat.le_of_ble_eq_true rfl) (s_X5_findings ⟨r, e2, ⟨rfl, rfl, rfl⟩⟩) dL_1310 ?_
  exact J_ic_eq hx dL_1313 1332 (by decide) (fun _ => kk _ _ hR) (fun c => absurd rfl c)
theorem lawC_42 {X : k_C} {ad : Nat → Nat} {I : StI} {L : StL} {b N i : Nat} {xs : Nat → Int32} (hx : Ok X code RL 4 ret 20) (hX : k_scr X b N xs) (hi : i + 6 ≤ N ∧ N ≤ 3072) (hR : Rel I L) (kk : ∀ I L, Rel I L → J X ad 4 I L 1332 [(3, .int (nI i)), (0, .ref b), (1, .ref (ad 0)), (2, .ref (ad 63))] []) : J X ad 4 I L 1318 [(3, .int (nI i)), (0, .ref b), (1, .ref (ad 0)), (2, .ref (ad 63))] [] := by
  obtain ⟨r, e1, e2⟩ := L_digest hR 
  refine J_aload_n hx dL_1318 2 rfl ?_
  refine J_callVl hx lkV_RL_187 (rfl : k_sh 0 = (4, k_N 4)) [] [] rfl rfl (Nat.le_of_ble_eq_true rfl) (Nat.le_of_ble_eq_true rfl) (s_X4_digest ⟨r, e1, ⟨rfl, rfl, rfl⟩⟩) dL_1319 ?_
  refine J_aload_n hx dL_1322 3 rfl ?_
  refine J_callVl hx lkV_RL_190 (rfl : k_sh 63 = (5, k_N 5)) [] [.long r] rfl rfl (Nat.le_of_ble_eq_true rfl) (Nat.le_of_ble_eq_true rfl) (s_X5_digest ⟨r, e2, ⟨rfl, rfl, rfl⟩⟩) dL_1323 ?_
  refine J_lcmp hx dL_1326 ?_
  exact J_if_eq hx dL_1327 1332 (by decide) (fun _ => kk _ _ hR) (fun c => absurd ((lg_cmp_eq r r).mpr rfl) c)
