/-! ===== the law: its 40 cases, its loop ===== -/
theorem tw_c_X11_island : Cond.code yX11_island cX11_island 2 (some .int) ∈ TB := tb_of 374 (by decide +kernel)
theorem mb_X11_island : MB yX11_island cX11_island 2 (some .int) 0 := ⟨tw_i_RX11, tw_c_X11_island, ⟨by decide +kernel, by decide +kernel⟩, by decide +kernel⟩
theorem tw_l_RL_13 : Cond.methodLink RL 13 yX11_island ∈ TB := tb_of 371 (by decide +kernel)
theorem tw_n_X11_island : Cond.instanceMethod yX11_island ∈ TB := tb_of 372 (by decide +kernel)
theorem tw_e_X11_island : Cond.selects yX11_island.cls yX11_island yX11_island ∈ TB := tb_of 373 (by decide +kernel)
theorem mv_L_13 : MV RL 13 9 yX11_island cX11_island 2 (some .int) 0 := ⟨mb_X11_island, tw_l_RL_13, tw_n_X11_island, tw_e_X11_island, ⟨_, _, rfl⟩, by decide⟩
theorem tw_c_X12_island : Cond.code yX12_island cX12_island 2 (some .int) ∈ TB := tb_of 1053 (by decide +kernel)
theorem mb_X12_island : MB yX12_island cX12_island 2 (some .int) 0 := ⟨tw_i_RX12, tw_c_X12_island, ⟨by decide +kernel, by decide +kernel⟩, by decide +kernel⟩
theorem tw_l_RL_17 : Cond.methodLink RL 17 yX12_island ∈ TB := tb_of 1050 (by decide +kernel)
theorem tw_n_X12_island : Cond.instanceMethod yX12_island ∈ TB := tb_of 1051 (by decide +kernel)
theorem tw_e_X12_island : Cond.selects yX12_island.cls yX12_island yX12_island ∈ TB := tb_of 1052 (by decide +kernel)
theorem mv_L_17 : MV RL 17 10 yX12_island cX12_island 2 (some .int) 0 := ⟨mb_X12_island, tw_l_RL_17, tw_n_X12_island, tw_e_X12_island, ⟨_, _, rfl⟩, by decide⟩
theorem tw_c_X11_wind : Cond.code yX11_wind cX11_wind 5 (some .int) ∈ TB := tb_of 386 (by decide +kernel)
theorem mb_X11_wind : MB yX11_wind cX11_wind 5 (some .int) 3 := ⟨tw_i_RX11, tw_c_X11_wind, ⟨by decide +kernel, by decide +kernel⟩, by decide +kernel⟩
theorem tw_l_RL_18 : Cond.methodLink RL 18 yX11_wind ∈ TB := tb_of 383 (by decide +kernel)
theorem tw_n_X11_wind : Cond.instanceMethod yX11_wind ∈ TB := tb_of 384 (by decide +kernel)
theorem tw_e_X11_wind : Cond.selects yX11_wind.cls yX11_wind yX11_wind ∈ TB := tb_of 385 (by decide +kernel)
theorem mv_L_18 : MV RL 18 9 yX11_wind cX11_wind 5 (some .int) 3 := ⟨mb_X11_wind, tw_l_RL_18, tw_n_X11_wind, tw_e_X11_wind, ⟨_, _, rfl⟩, by decide⟩
theorem tw_c_X12_wind : Cond.code yX12_wind cX12_wind 5 (some .int) ∈ TB := tb_of 1060 (by decide +kernel)
theorem mb_X12_wind : MB yX12_wind cX12_wind 5 (some .int) 3 := ⟨tw_i_RX12, tw_c_X12_wind, ⟨by decide +kernel, by decide +kernel⟩, by decide +kernel⟩
theorem tw_l_RL_22 : Cond.methodLink RL 22 yX12_wind ∈ TB := tb_of 1057 (by decide +kernel)
theorem tw_n_X12_wind : Cond.instanceMethod yX12_wind ∈ TB := tb_of 1058 (by decide +kernel)
theorem tw_e_X12_wind : Cond.selects yX12_wind.cls yX12_wind yX12_wind ∈ TB := tb_of 1059 (by decide +kernel)
theorem mv_L_22 : MV RL 22 10 yX12_wind cX12_wind 5 (some .int) 3 := ⟨mb_X12_wind, tw_l_RL_22, tw_n_X12_wind, tw_e_X12_wind, ⟨_, _, rfl⟩, by decide⟩
theorem tw_c_X11_user : Cond.code yX11_user cX11_user 4 (some .int) ∈ TB := tb_of 405 (by decide +kernel)
theorem mb_X11_user : MB yX11_user cX11_user 4 (some .int) 3 := ⟨tw_i_RX11, tw_c_X11_user, ⟨by decide +kernel, by decide +kernel⟩, by decide +kernel⟩
theorem tw_l_RL_23 : Cond.methodLink RL 23 yX11_user ∈ TB := tb_of 402 (by decide +kernel)
theorem tw_n_X11_user : Cond.instanceMethod yX11_user ∈ TB := tb_of 403 (by decide +kernel)
theorem tw_e_X11_user : Cond.selects yX11_user.cls yX11_user yX11_user ∈ TB := tb_of 404 (by decide +kernel)
theorem mv_L_23 : MV RL 23 9 yX11_user cX11_user 4 (some .int) 3 := ⟨mb_X11_user, tw_l_RL_23, tw_n_X11_user, tw_e_X11_user, ⟨_, _, rfl⟩, by decide⟩
theorem tw_c_X12_user : Cond.code yX12_user cX12_user 4 (some .int) ∈ TB := tb_of 1073 (by decide +kernel)
theorem mb_X12_user : MB yX12_user cX12_user 4 (some .int) 3 := ⟨tw_i_RX12, tw_c_X12_user, ⟨by decide +kernel, by decide +kernel⟩, by decide +kernel⟩
theorem tw_l_RL_26 : Cond.methodLink RL 26 yX12_user ∈ TB := tb_of 1070 (by decide +kernel)
theorem tw_n_X12_user : Cond.instanceMethod yX12_user ∈ TB := tb_of 1071 (by decide +kernel)
theorem tw_e_X12_user : Cond.selects yX12_user.cls yX12_user yX12_user ∈ TB := tb_of 1072 (by decide +kernel)
theorem mv_L_26 : MV RL 26 10 yX12_user cX12_user 4 (some .int) 3 := ⟨mb_X12_user, tw_l_RL_26, tw_n_X12_user, tw_e_X12_user, ⟨_, _, rfl⟩, by decide⟩
theorem tw_c_X11_type : Cond.code yX11_type cX11_type 2 (some .int) ∈ TB := tb_of 436 (by decide +kernel)
theorem mb_X11_type : MB yX11_type cX11_type 2 (some .int) 1 := ⟨tw_i_RX11, tw_c_X11_type, ⟨by decide +kernel, by decide +kernel⟩, by decide +kernel⟩
theorem tw_l_RL_27 : Cond.methodLink RL 27 yX11_type ∈ TB := tb_of 433 (by decide +kernel)
theorem tw_n_X11_type : Cond.instanceMethod yX11_type ∈ TB := tb_of 434 (by decide +kernel)
theorem tw_e_X11_type : Cond.selects yX11_type.cls yX11_type yX11_type ∈ TB := tb_of 435 (by decide +kernel)
theorem mv_L_27 : MV RL 27 9 yX11_type cX11_type 2 (some .int) 1 := ⟨mb_X11_type, tw_l_RL_27, tw_n_X11_type, tw_e_X11_type, ⟨_, _, rfl⟩, by decide⟩
theorem tw_c_X12_type : Cond.code yX12_type cX12_type 2 (some .int) ∈ TB := tb_of 1087 (by decide +kernel)
theorem mb_X12_type : MB yX12_type cX12_type 2 (some .int) 1 := ⟨tw_i_RX12, tw_c_X12_type, ⟨by decide +kernel, by decide +kernel⟩, by decide +kernel⟩
theorem tw_l_RL_31 : Cond.methodLink RL 31 yX12_type ∈ TB := tb_of 1084 (by decide +kernel)
theorem tw_n_X12_type : Cond.instanceMethod yX12_type ∈ TB := tb_of 1085 (by decide +kernel)
theorem tw_e_X12_type : Cond.selects yX12_type.cls yX12_type yX12_type ∈ TB := tb_of 1086 (by decide +kernel)
theorem mv_L_31 : MV RL 31 10 yX12_type cX12_type 2 (some .int) 1 := ⟨mb_X12_type, tw_l_RL_31, tw_n_X12_type, tw_e_X12_type, ⟨_, _, rfl⟩, by decide⟩
theorem tw_c_X11_clear : Cond.code yX11_clear cX11_clear 2 (some .int) ∈ TB := tb_of 449 (by decide +kernel)
theorem mb_X11_clear : MB yX11_clear cX11_clear 2 (some .int) 0 := ⟨tw_i_RX11, tw_c_X11_clear, ⟨by decide +kernel, by decide +kernel⟩, by decide +kernel⟩
theorem tw_l_RL_32 : Cond.methodLink RL 32 yX11_clear ∈ TB := tb_of 446 (by decide +kernel)
theorem tw_n_X11_clear : Cond.instanceMethod yX11_clear ∈ TB := tb_of 447 (by decide +kernel)
theorem tw_e_X11_clear : Cond.selects yX11_clear.cls yX11_clear yX11_clear ∈ TB := tb_of 448 (by decide +kernel)
theorem mv_L_32 : MV RL 32 9 yX11_clear cX11_clear 2 (some .int) 0 := ⟨mb_X11_clear, tw_l_RL_32, tw_n_X11_clear, tw_e_X11_clear, ⟨_, _, rfl⟩, by decide⟩
theorem tw_c_X12_clear : Cond.code yX12_clear cX12_clear 2 (some .int) ∈ TB := tb_of 1092 (by decide +kernel)
theorem mb_X12_clear : MB yX12_clear cX12_clear 2 (some .int) 0 := ⟨tw_i_RX12, tw_c_X12_clear, ⟨by decide +kernel, by decide +kernel⟩, by decide +kernel⟩
theorem tw_l_RL_35 : Cond.methodLink RL 35 yX12_clear ∈ TB := tb_of 1089 (by decide +kernel)
theorem tw_n_X12_clear : Cond.instanceMethod yX12_clear ∈ TB := tb_of 1090 (by decide +kernel)
theorem tw_e_X12_clear : Cond.selects yX12_clear.cls yX12_clear yX12_clear ∈ TB := tb_of 1091 (by decide +kernel)
theorem mv_L_35 : MV RL 35 10 yX12_clear cX12_clear 2 (some .int) 0 := ⟨mb_X12_clear, tw_l_RL_35, tw_n_X12_clear, tw_e_X12_clear, ⟨_, _, rfl⟩, by decide⟩
theorem tw_c_X11_read : Cond.code yX11_read cX11_read 2 (some .int) ∈ TB := tb_of 453 (by decide +kernel)
theorem mb_X11_read : MB yX11_read cX11_read 2 (some .int) 0 := ⟨tw_i_RX11, tw_c_X11_read, ⟨by decide +kernel, by decide +kernel⟩, by decide +kernel⟩
theorem tw_l_RL_36 : Cond.methodLink RL 36 yX11_read ∈ TB := tb_of 450 (by decide +kernel)
theorem tw_n_X11_read : Cond.instanceMethod yX11_read ∈ TB := tb_of 451 (by decide +kernel)
theorem tw_e_X11_read : Cond.selects yX11_read.cls yX11_read yX11_read ∈ TB := tb_of 452 (by decide +kernel)
theorem mv_L_36 : MV RL 36 9 yX11_read cX11_read 2 (some .int) 0 := ⟨mb_X11_read, tw_l_RL_36, tw_n_X11_read, tw_e_X11_read, ⟨_, _, rfl⟩, by decide⟩
theorem tw_c_X12_read : Cond.code yX12_read cX12_read 3 (some .int) ∈ TB := tb_of 1096 (by decide +kernel)
theorem mb_X12_read : MB yX12_read cX12_read 3 (some .int) 0 := ⟨tw_i_RX12, tw_c_X12_read, ⟨by decide +kernel, by decide +kernel⟩, by decide +kernel⟩
theorem tw_l_RL_39 : Cond.methodLink RL 39 yX12_read ∈ TB := tb_of 1093 (by decide +kernel)
theorem tw_n_X12_read : Cond.instanceMethod yX12_read ∈ TB := tb_of 1094 (by decide +kernel)
theorem tw_e_X12_read : Cond.selects yX12_read.cls yX12_read yX12_read ∈ TB := tb_of 1095 (by decide +kernel)
theorem mv_L_39 : MV RL 39 10 yX12_read cX12_read 3 (some .int) 0 := ⟨mb_X12_read, tw_l_RL_39, tw_n_X12_read, tw_e_X12_read, ⟨_, _, rfl⟩, by decide⟩
theorem tw_c_X11_hour : Cond.code yX11_hour cX11_hour 2 (some .int) ∈ TB := tb_of 619 (by decide +kernel)
theorem mb_X11_hour : MB yX11_hour cX11_hour 2 (some .int) 1 := ⟨tw_i_RX11, tw_c_X11_hour, ⟨by decide +kernel, by decide +kernel⟩, by decide +kernel⟩
theorem tw_l_RL_40 : Cond.methodLink RL 40 yX11_hour ∈ TB := tb_of 616 (by decide +kernel)
theorem tw_n_X11_hour : Cond.instanceMethod yX11_hour ∈ TB := tb_of 617 (by decide +kernel)
theorem tw_e_X11_hour : Cond.selects yX11_hour.cls yX11_hour yX11_hour ∈ TB := tb_of 618 (by decide +kernel)
theorem mv_L_40 : MV RL 40 9 yX11_hour cX11_hour 2 (some .int) 1 := ⟨mb_X11_hour, tw_l_RL_40, tw_n_X11_hour, tw_e_X11_hour, ⟨_, _, rfl⟩, by decide⟩
theorem tw_c_X12_hour : Cond.code yX12_hour cX12_hour 2 (some .int) ∈ TB := tb_of 1188 (by decide +kernel)
theorem mb_X12_hour : MB yX12_hour cX12_hour 2 (some .int) 1 := ⟨tw_i_RX12, tw_c_X12_hour, ⟨by decide +kernel, by decide +kernel⟩, by decide +kernel⟩
theorem tw_l_RL_43 : Cond.methodLink RL 43 yX12_hour ∈ TB := tb_of 1185 (by decide +kernel)
theorem tw_n_X12_hour : Cond.instanceMethod yX12_hour ∈ TB := tb_of 1186 (by decide +kernel)
theorem tw_e_X12_hour : Cond.selects yX12_hour.cls yX12_hour yX12_hour ∈ TB := tb_of 1187 (by decide +kernel)
theorem mv_L_43 : MV RL 43 10 yX12_hour cX12_hour 2 (some .int) 1 := ⟨mb_X12_hour, tw_l_RL_43, tw_n_X12_hour, tw_e_X12_hour, ⟨_, _, rfl⟩, by decide⟩
theorem tw_c_X11_suit : Cond.code yX11_suit cX11_suit 3 (some .int) ∈ TB := tb_of 637 (by decide +kernel)
theorem mb_X11_suit : MB yX11_suit cX11_suit 3 (some .int) 2 := ⟨tw_i_RX11, tw_c_X11_suit, ⟨by decide +kernel, by decide +kernel⟩, by decide +kernel⟩
theorem tw_l_RL_44 : Cond.methodLink RL 44 yX11_suit ∈ TB := tb_of 634 (by decide +kernel)
theorem tw_n_X11_suit : Cond.instanceMethod yX11_suit ∈ TB := tb_of 635 (by decide +kernel)
theorem tw_e_X11_suit : Cond.selects yX11_suit.cls yX11_suit yX11_suit ∈ TB := tb_of 636 (by decide +kernel)
theorem mv_L_44 : MV RL 44 9 yX11_suit cX11_suit 3 (some .int) 2 := ⟨mb_X11_suit, tw_l_RL_44, tw_n_X11_suit, tw_e_X11_suit, ⟨_, _, rfl⟩, by decide⟩
theorem tw_c_X12_suit : Cond.code yX12_suit cX12_suit 3 (some .int) ∈ TB := tb_of 1197 (by decide +kernel)
theorem mb_X12_suit : MB yX12_suit cX12_suit 3 (some .int) 2 := ⟨tw_i_RX12, tw_c_X12_suit, ⟨by decide +kernel, by decide +kernel⟩, by decide +kernel⟩
theorem tw_l_RL_48 : Cond.methodLink RL 48 yX12_suit ∈ TB := tb_of 1194 (by decide +kernel)
theorem tw_n_X12_suit : Cond.instanceMethod yX12_suit ∈ TB := tb_of 1195 (by decide +kernel)
theorem tw_e_X12_suit : Cond.selects yX12_suit.cls yX12_suit yX12_suit ∈ TB := tb_of 1196 (by decide +kernel)
theorem mv_L_48 : MV RL 48 10 yX12_suit cX12_suit 3 (some .int) 2 := ⟨mb_X12_suit, tw_l_RL_48, tw_n_X12_suit, tw_e_X12_suit, ⟨_, _, rfl⟩, by decide⟩
theorem tw_c_X11_hears : Cond.code yX11_hears cX11_hears 2 (some .int) ∈ TB := tb_of 646 (by decide +kernel)
theorem mb_X11_hears : MB yX11_hears cX11_hears 2 (some .int) 1 := ⟨tw_i_RX11, tw_c_X11_hears, ⟨by decide +kernel, by decide +kernel⟩, by decide +kernel⟩
theorem tw_l_RL_49 : Cond.methodLink RL 49 yX11_hears ∈ TB := tb_of 643 (by decide +kernel)
theorem tw_n_X11_hears : Cond.instanceMethod yX11_hears ∈ TB := tb_of 644 (by decide +kernel)
theorem tw_e_X11_hears : Cond.selects yX11_hears.cls yX11_hears yX11_hears ∈ TB := tb_of 645 (by decide +kernel)
theorem mv_L_49 : MV RL 49 9 yX11_hears cX11_hears 2 (some .int) 1 := ⟨mb_X11_hears, tw_l_RL_49, tw_n_X11_hears, tw_e_X11_hears, ⟨_, _, rfl⟩, by decide⟩
theorem tw_c_X12_hears : Cond.code yX12_hears cX12_hears 3 (some .int) ∈ TB := tb_of 1205 (by decide +kernel)
theorem mb_X12_hears : MB yX12_hears cX12_hears 3 (some .int) 1 := ⟨tw_i_RX12, tw_c_X12_hears, ⟨by decide +kernel, by decide +kernel⟩, by decide +kernel⟩
theorem tw_l_RL_52 : Cond.methodLink RL 52 yX12_hears ∈ TB := tb_of 1202 (by decide +kernel)
theorem tw_n_X12_hears : Cond.instanceMethod yX12_hears ∈ TB := tb_of 1203 (by decide +kernel)
theorem tw_e_X12_hears : Cond.selects yX12_hears.cls yX12_hears yX12_hears ∈ TB := tb_of 1204 (by decide +kernel)
theorem mv_L_52 : MV RL 52 10 yX12_hears cX12_hears 3 (some .int) 1 := ⟨mb_X12_hears, tw_l_RL_52, tw_n_X12_hears, tw_e_X12_hears, ⟨_, _, rfl⟩, by decide⟩
theorem tw_c_X11_pays : Cond.code yX11_pays cX11_pays 3 (some .int) ∈ TB := tb_of 670 (by decide +kernel)
theorem mb_X11_pays : MB yX11_pays cX11_pays 3 (some .int) 1 := ⟨tw_i_RX11, tw_c_X11_pays, ⟨by decide +kernel, by decide +kernel⟩, by decide +kernel⟩
theorem tw_l_RL_53 : Cond.methodLink RL 53 yX11_pays ∈ TB := tb_of 667 (by decide +kernel)
theorem tw_n_X11_pays : Cond.instanceMethod yX11_pays ∈ TB := tb_of 668 (by decide +kernel)
theorem tw_e_X11_pays : Cond.selects yX11_pays.cls yX11_pays yX11_pays ∈ TB := tb_of 669 (by decide +kernel)
theorem mv_L_53 : MV RL 53 9 yX11_pays cX11_pays 3 (some .int) 1 := ⟨mb_X11_pays, tw_l_RL_53, tw_n_X11_pays, tw_e_X11_pays, ⟨_, _, rfl⟩, by decide⟩
theorem tw_c_X12_pays : Cond.code yX12_pays cX12_pays 3 (some .int) ∈ TB := tb_of 1235 (by decide +kernel)
theorem mb_X12_pays : MB yX12_pays cX12_pays 3 (some .int) 1 := ⟨tw_i_RX12, tw_c_X12_pays, ⟨by decide +kernel, by decide +kernel⟩, by decide +kernel⟩
theorem tw_l_RL_56 : Cond.methodLink RL 56 yX12_pays ∈ TB := tb_of 1232 (by decide +kernel)
theorem tw_n_X12_pays : Cond.instanceMethod yX12_pays ∈ TB := tb_of 1233 (by decide +kernel)
theorem tw_e_X12_pays : Cond.selects yX12_pays.cls yX12_pays yX12_pays ∈ TB := tb_of 1234 (by decide +kernel)
theorem mv_L_56 : MV RL 56 10 yX12_pays cX12_pays 3 (some .int) 1 := ⟨mb_X12_pays, tw_l_RL_56, tw_n_X12_pays, tw_e_X12_pays, ⟨_, _, rfl⟩, by decide⟩
theorem tw_c_X11_undo : Cond.code yX11_undo cX11_undo 1 (some .int) ∈ TB := tb_of 676 (by decide +kernel)
theorem mb_X11_undo : MB yX11_undo cX11_undo 1 (some .int) 0 := ⟨tw_i_RX11, tw_c_X11_undo, ⟨by decide +kernel, by decide +kernel⟩, by decide +kernel⟩
theorem tw_l_RL_57 : Cond.methodLink RL 57 yX11_undo ∈ TB := tb_of 673 (by decide +kernel)
theorem tw_n_X11_undo : Cond.instanceMethod yX11_undo ∈ TB := tb_of 674 (by decide +kernel)
theorem tw_e_X11_undo : Cond.selects yX11_undo.cls yX11_undo yX11_undo ∈ TB := tb_of 675 (by decide +kernel)
theorem mv_L_57 : MV RL 57 9 yX11_undo cX11_undo 1 (some .int) 0 := ⟨mb_X11_undo, tw_l_RL_57, tw_n_X11_undo, tw_e_X11_undo, ⟨_, _, rfl⟩, by decide⟩
theorem tw_c_X12_undo : Cond.code yX12_undo cX12_undo 3 (some .int) ∈ TB := tb_of 1180 (by decide +kernel)
theorem mb_X12_undo : MB yX12_undo cX12_undo 3 (some .int) 0 := ⟨tw_i_RX12, tw_c_X12_undo, ⟨by decide +kernel, by decide +kernel⟩, by decide +kernel⟩
theorem tw_l_RL_60 : Cond.methodLink RL 60 yX12_undo ∈ TB := tb_of 1177 (by decide +kernel)
theorem tw_n_X12_undo : Cond.instanceMethod yX12_undo ∈ TB := tb_of 1178 (by decide +kernel)
theorem tw_e_X12_undo : Cond.selects yX12_undo.cls yX12_undo yX12_undo ∈ TB := tb_of 1179 (by decide +kernel)
theorem mv_L_60 : MV RL 60 10 yX12_undo cX12_undo 3 (some .int) 0 := ⟨mb_X12_undo, tw_l_RL_60, tw_n_X12_undo, tw_e_X12_undo, ⟨_, _, rfl⟩, by decide⟩
theorem tw_c_X11_of : Cond.code yX11_of cX11_of 3 (some .int) ∈ TB := tb_of 687 (by decide +kernel)
theorem mb_X11_of : MB yX11_of cX11_of 3 (some .int) 2 := ⟨tw_i_RX11, tw_c_X11_of, ⟨by decide +kernel, by decide +kernel⟩, by decide +kernel⟩
theorem tw_l_RL_61 : Cond.methodLink RL 61 yX11_of ∈ TB := tb_of 684 (by decide +kernel)
theorem tw_n_X11_of : Cond.instanceMethod yX11_of ∈ TB := tb_of 685 (by decide +kernel)
theorem tw_e_X11_of : Cond.selects yX11_of.cls yX11_of yX11_of ∈ TB := tb_of 686 (by decide +kernel)
theorem mv_L_61 : MV RL 61 9 yX11_of cX11_of 3 (some .int) 2 := ⟨mb_X11_of, tw_l_RL_61, tw_n_X11_of, tw_e_X11_of, ⟨_, _, rfl⟩, by decide⟩
theorem tw_c_X12_of : Cond.code yX12_of cX12_of 3 (some .int) ∈ TB := tb_of 1239 (by decide +kernel)
theorem mb_X12_of : MB yX12_of cX12_of 3 (some .int) 2 := ⟨tw_i_RX12, tw_c_X12_of, ⟨by decide +kernel, by decide +kernel⟩, by decide +kernel⟩
theorem tw_l_RL_64 : Cond.methodLink RL 64 yX12_of ∈ TB := tb_of 1236 (by decide +kernel)
theorem tw_n_X12_of : Cond.instanceMethod yX12_of ∈ TB := tb_of 1237 (by decide +kernel)
theorem tw_e_X12_of : Cond.selects yX12_of.cls yX12_of yX12_of ∈ TB := tb_of 1238 (by decide +kernel)
theorem mv_L_64 : MV RL 64 10 yX12_of cX12_of 3 (some .int) 2 := ⟨mb_X12_of, tw_l_RL_64, tw_n_X12_of, tw_e_X12_of, ⟨_, _, rfl⟩, by decide⟩
theorem tw_c_X11_about : Cond.code yX11_about cX11_about 3 (some .int) ∈ TB := tb_of 692 (by decide +kernel)
theorem mb_X11_about : MB yX11_about cX11_about 3 (some .int) 2 := ⟨tw_i_RX11, tw_c_X11_about, ⟨by decide +kernel, by decide +kernel⟩, by decide +kernel⟩
theorem tw_l_RL_65 : Cond.methodLink RL 65 yX11_about ∈ TB := tb_of 689 (by decide +kernel)
theorem tw_n_X11_about : Cond.instanceMethod yX11_about ∈ TB := tb_of 690 (by decide +kernel)
theorem tw_e_X11_about : Cond.selects yX11_about.cls yX11_about yX11_about ∈ TB := tb_of 691 (by decide +kernel)
theorem mv_L_65 : MV RL 65 9 yX11_about cX11_about 3 (some .int) 2 := ⟨mb_X11_about, tw_l_RL_65, tw_n_X11_about, tw_e_X11_about, ⟨_, _, rfl⟩, by decide⟩
theorem tw_c_X12_about : Cond.code yX12_about cX12_about 3 (some .int) ∈ TB := tb_of 1244 (by decide +kernel)
theorem mb_X12_about : MB yX12_about cX12_about 3 (some .int) 2 := ⟨tw_i_RX12, tw_c_X12_about, ⟨by decide +kernel, by decide +kernel⟩, by decide +kernel⟩
theorem tw_l_RL_68 : Cond.methodLink RL 68 yX12_about ∈ TB := tb_of 1241 (by decide +kernel)
theorem tw_n_X12_about : Cond.instanceMethod yX12_about ∈ TB := tb_of 1242 (by decide +kernel)
theorem tw_e_X12_about : Cond.selects yX12_about.cls yX12_about yX12_about ∈ TB := tb_of 1243 (by decide +kernel)
theorem mv_L_68 : MV RL 68 10 yX12_about cX12_about 3 (some .int) 2 := ⟨mb_X12_about, tw_l_RL_68, tw_n_X12_about, tw_e_X12_about, ⟨_, _, rfl⟩, by decide⟩
theorem tw_c_X11_blows : Cond.code yX11_blows cX11_blows 4 (some .int) ∈ TB := tb_of 696 (by decide +kernel)
theorem mb_X11_blows : MB yX11_blows cX11_blows 4 (some .int) 3 := ⟨tw_i_RX11, tw_c_X11_blows, ⟨by decide +kernel, by decide +kernel⟩, by decide +kernel⟩
theorem tw_l_RL_69 : Cond.methodLink RL 69 yX11_blows ∈ TB := tb_of 693 (by decide +kernel)
theorem tw_n_X11_blows : Cond.instanceMethod yX11_blows ∈ TB := tb_of 694 (by decide +kernel)
theorem tw_e_X11_blows : Cond.selects yX11_blows.cls yX11_blows yX11_blows ∈ TB := tb_of 695 (by decide +kernel)
theorem mv_L_69 : MV RL 69 9 yX11_blows cX11_blows 4 (some .int) 3 := ⟨mb_X11_blows, tw_l_RL_69, tw_n_X11_blows, tw_e_X11_blows, ⟨_, _, rfl⟩, by decide⟩
theorem tw_c_X12_blows : Cond.code yX12_blows cX12_blows 4 (some .int) ∈ TB := tb_of 1248 (by decide +kernel)
theorem mb_X12_blows : MB yX12_blows cX12_blows 4 (some .int) 3 := ⟨tw_i_RX12, tw_c_X12_blows, ⟨by decide +kernel, by decide +kernel⟩, by decide +kernel⟩
theorem tw_l_RL_72 : Cond.methodLink RL 72 yX12_blows ∈ TB := tb_of 1245 (by decide +kernel)
theorem tw_n_X12_blows : Cond.instanceMethod yX12_blows ∈ TB := tb_of 1246 (by decide +kernel)
theorem tw_e_X12_blows : Cond.selects yX12_blows.cls yX12_blows yX12_blows ∈ TB := tb_of 1247 (by decide +kernel)
theorem mv_L_72 : MV RL 72 10 yX12_blows cX12_blows 4 (some .int) 3 := ⟨mb_X12_blows, tw_l_RL_72, tw_n_X12_blows, tw_e_X12_blows, ⟨_, _, rfl⟩, by decide⟩
theorem tw_c_X11_takes : Cond.code yX11_takes cX11_takes 3 (some .int) ∈ TB := tb_of 701 (by decide +kernel)
theorem mb_X11_takes : MB yX11_takes cX11_takes 3 (some .int) 2 := ⟨tw_i_RX11, tw_c_X11_takes, ⟨by decide +kernel, by decide +kernel⟩, by decide +kernel⟩
theorem tw_l_RL_73 : Cond.methodLink RL 73 yX11_takes ∈ TB := tb_of 698 (by decide +kernel)
theorem tw_n_X11_takes : Cond.instanceMethod yX11_takes ∈ TB := tb_of 699 (by decide +kernel)
theorem tw_e_X11_takes : Cond.selects yX11_takes.cls yX11_takes yX11_takes ∈ TB := tb_of 700 (by decide +kernel)
theorem mv_L_73 : MV RL 73 9 yX11_takes cX11_takes 3 (some .int) 2 := ⟨mb_X11_takes, tw_l_RL_73, tw_n_X11_takes, tw_e_X11_takes, ⟨_, _, rfl⟩, by decide⟩
theorem tw_c_X12_takes : Cond.code yX12_takes cX12_takes 3 (some .int) ∈ TB := tb_of 1252 (by decide +kernel)
theorem mb_X12_takes : MB yX12_takes cX12_takes 3 (some .int) 2 := ⟨tw_i_RX12, tw_c_X12_takes, ⟨by decide +kernel, by decide +kernel⟩, by decide +kernel⟩
theorem tw_l_RL_76 : Cond.methodLink RL 76 yX12_takes ∈ TB := tb_of 1249 (by decide +kernel)
theorem tw_n_X12_takes : Cond.instanceMethod yX12_takes ∈ TB := tb_of 1250 (by decide +kernel)
theorem tw_e_X12_takes : Cond.selects yX12_takes.cls yX12_takes yX12_takes ∈ TB := tb_of 1251 (by decide +kernel)
theorem mv_L_76 : MV RL 76 10 yX12_takes cX12_takes 3 (some .int) 2 := ⟨mb_X12_takes, tw_l_RL_76, tw_n_X12_takes, tw_e_X12_takes, ⟨_, _, rfl⟩, by decide⟩
theorem tw_c_X11_then : Cond.code yX11_then cX11_then 3 (some .int) ∈ TB := tb_of 706 (by decide +kernel)
theorem mb_X11_then : MB yX11_then cX11_then 3 (some .int) 2 := ⟨tw_i_RX11, tw_c_X11_then, ⟨by decide +kernel, by decide +kernel⟩, by decide +kernel⟩
theorem tw_l_RL_77 : Cond.methodLink RL 77 yX11_then ∈ TB := tb_of 703 (by decide +kernel)
theorem tw_n_X11_then : Cond.instanceMethod yX11_then ∈ TB := tb_of 704 (by decide +kernel)
theorem tw_e_X11_then : Cond.selects yX11_then.cls yX11_then yX11_then ∈ TB := tb_of 705 (by decide +kernel)
theorem mv_L_77 : MV RL 77 9 yX11_then cX11_then 3 (some .int) 2 := ⟨mb_X11_then, tw_l_RL_77, tw_n_X11_then, tw_e_X11_then, ⟨_, _, rfl⟩, by decide⟩
theorem tw_c_X12_then : Cond.code yX12_then cX12_then 5 (some .int) ∈ TB := tb_of 1256 (by decide +kernel)
theorem mb_X12_then : MB yX12_then cX12_then 5 (some .int) 2 := ⟨tw_i_RX12, tw_c_X12_then, ⟨by decide +kernel, by decide +kernel⟩, by decide +kernel⟩
theorem tw_l_RL_80 : Cond.methodLink RL 80 yX12_then ∈ TB := tb_of 1253 (by decide +kernel)
theorem tw_n_X12_then : Cond.instanceMethod yX12_then ∈ TB := tb_of 1254 (by decide +kernel)
theorem tw_e_X12_then : Cond.selects yX12_then.cls yX12_then yX12_then ∈ TB := tb_of 1255 (by decide +kernel)
theorem mv_L_80 : MV RL 80 10 yX12_then cX12_then 5 (some .int) 2 := ⟨mb_X12_then, tw_l_RL_80, tw_n_X12_then, tw_e_X12_then, ⟨_, _, rfl⟩, by decide⟩
theorem tw_c_X11_calm : Cond.code yX11_calm cX11_calm 2 (some .int) ∈ TB := tb_of 717 (by decide +kernel)
theorem mb_X11_calm : MB yX11_calm cX11_calm 2 (some .int) 1 := ⟨tw_i_RX11, tw_c_X11_calm, ⟨by decide +kernel, by decide +kernel⟩, by decide +kernel⟩
theorem tw_l_RL_81 : Cond.methodLink RL 81 yX11_calm ∈ TB := tb_of 714 (by decide +kernel)
theorem tw_n_X11_calm : Cond.instanceMethod yX11_calm ∈ TB := tb_of 715 (by decide +kernel)
theorem tw_e_X11_calm : Cond.selects yX11_calm.cls yX11_calm yX11_calm ∈ TB := tb_of 716 (by decide +kernel)
theorem mv_L_81 : MV RL 81 9 yX11_calm cX11_calm 2 (some .int) 1 := ⟨mb_X11_calm, tw_l_RL_81, tw_n_X11_calm, tw_e_X11_calm, ⟨_, _, rfl⟩, by decide⟩
theorem tw_c_X12_calm : Cond.code yX12_calm cX12_calm 3 (some .int) ∈ TB := tb_of 1264 (by decide +kernel)
theorem mb_X12_calm : MB yX12_calm cX12_calm 3 (some .int) 1 := ⟨tw_i_RX12, tw_c_X12_calm, ⟨by decide +kernel, by decide +kernel⟩, by decide +kernel⟩
theorem tw_l_RL_84 : Cond.methodLink RL 84 yX12_calm ∈ TB := tb_of 1261 (by decide +kernel)
theorem tw_n_X12_calm : Cond.instanceMethod yX12_calm ∈ TB := tb_of 1262 (by decide +kernel)
theorem tw_e_X12_calm : Cond.selects yX12_calm.cls yX12_calm yX12_calm ∈ TB := tb_of 1263 (by decide +kernel)
theorem mv_L_84 : MV RL 84 10 yX12_calm cX12_calm 3 (some .int) 1 := ⟨mb_X12_calm, tw_l_RL_84, tw_n_X12_calm, tw_e_X12_calm, ⟨_, _, rfl⟩, by decide⟩
theorem tw_c_X11_place : Cond.code yX11_place cX11_place 4 (some .int) ∈ TB := tb_of 726 (by decide +kernel)
theorem mb_X11_place : MB yX11_place cX11_place 4 (some .int) 3 := ⟨tw_i_RX11, tw_c_X11_place, ⟨by decide +kernel, by decide +kernel⟩, by decide +kernel⟩
theorem tw_l_RL_85 : Cond.methodLink RL 85 yX11_place ∈ TB := tb_of 723 (by decide +kernel)
theorem tw_n_X11_place : Cond.instanceMethod yX11_place ∈ TB := tb_of 724 (by decide +kernel)
theorem tw_e_X11_place : Cond.selects yX11_place.cls yX11_place yX11_place ∈ TB := tb_of 725 (by decide +kernel)
theorem mv_L_85 : MV RL 85 9 yX11_place cX11_place 4 (some .int) 3 := ⟨mb_X11_place, tw_l_RL_85, tw_n_X11_place, tw_e_X11_place, ⟨_, _, rfl⟩, by decide⟩
theorem tw_c_X12_place : Cond.code yX12_place cX12_place 11 (some .int) ∈ TB := tb_of 1268 (by decide +kernel)
theorem mb_X12_place : MB yX12_place cX12_place 11 (some .int) 3 := ⟨tw_i_RX12, tw_c_X12_place, ⟨by decide +kernel, by decide +kernel⟩, by decide +kernel⟩
theorem tw_l_RL_88 : Cond.methodLink RL 88 yX12_place ∈ TB := tb_of 1265 (by decide +kernel)
theorem tw_n_X12_place : Cond.instanceMethod yX12_place ∈ TB := tb_of 1266 (by decide +kernel)
theorem tw_e_X12_place : Cond.selects yX12_place.cls yX12_place yX12_place ∈ TB := tb_of 1267 (by decide +kernel)
theorem mv_L_88 : MV RL 88 10 yX12_place cX12_place 11 (some .int) 3 := ⟨mb_X12_place, tw_l_RL_88, tw_n_X12_place, tw_e_X12_place, ⟨_, _, rfl⟩, by decide⟩
theorem tw_c_X11_share : Cond.code yX11_share cX11_share 2 (some .int) ∈ TB := tb_of 747 (by decide +kernel)
theorem mb_X11_share : MB yX11_share cX11_share 2 (some .int) 1 := ⟨tw_i_RX11, tw_c_X11_share, ⟨by decide +kernel, by decide +kernel⟩, by decide +kernel⟩
theorem tw_l_RL_89 : Cond.methodLink RL 89 yX11_share ∈ TB := tb_of 744 (by decide +kernel)
theorem tw_n_X11_share : Cond.instanceMethod yX11_share ∈ TB := tb_of 745 (by decide +kernel)
theorem tw_e_X11_share : Cond.selects yX11_share.cls yX11_share yX11_share ∈ TB := tb_of 746 (by decide +kernel)
theorem mv_L_89 : MV RL 89 9 yX11_share cX11_share 2 (some .int) 1 := ⟨mb_X11_share, tw_l_RL_89, tw_n_X11_share, tw_e_X11_share, ⟨_, _, rfl⟩, by decide⟩
theorem tw_c_X12_share : Cond.code yX12_share cX12_share 8 (some .int) ∈ TB := tb_of 1276 (by decide +kernel)
theorem mb_X12_share : MB yX12_share cX12_share 8 (some .int) 1 := ⟨tw_i_RX12, tw_c_X12_share, ⟨by decide +kernel, by decide +kernel⟩, by decide +kernel⟩
theorem tw_l_RL_92 : Cond.methodLink RL 92 yX12_share ∈ TB := tb_of 1273 (by decide +kernel)
theorem tw_n_X12_share : Cond.instanceMethod yX12_share ∈ TB := tb_of 1274 (by decide +kernel)
theorem tw_e_X12_share : Cond.selects yX12_share.cls yX12_share yX12_share ∈ TB := tb_of 1275 (by decide +kernel)
theorem mv_L_92 : MV RL 92 10 yX12_share cX12_share 8 (some .int) 1 := ⟨mb_X12_share, tw_l_RL_92, tw_n_X12_share, tw_e_X12_share, ⟨_, _, rfl⟩, by decide⟩
theorem tw_c_X11_award : Cond.code yX11_award cX11_award 2 (some .int) ∈ TB := tb_of 778 (by decide +kernel)
theorem mb_X11_award : MB yX11_award cX11_award 2 (some .int) 1 := ⟨tw_i_RX11, tw_c_X11_award, ⟨by decide +kernel, by decide +kernel⟩, by decide +kernel⟩
theorem tw_l_RL_93 : Cond.methodLink RL 93 yX11_award ∈ TB := tb_of 775 (by decide +kernel)
theorem tw_n_X11_award : Cond.instanceMethod yX11_award ∈ TB := tb_of 776 (by decide +kernel)
theorem tw_e_X11_award : Cond.selects yX11_award.cls yX11_award yX11_award ∈ TB := tb_of 777 (by decide +kernel)
theorem mv_L_93 : MV RL 93 9 yX11_award cX11_award 2 (some .int) 1 := ⟨mb_X11_award, tw_l_RL_93, tw_n_X11_award, tw_e_X11_award, ⟨_, _, rfl⟩, by decide⟩
theorem tw_c_X12_award : Cond.code yX12_award cX12_award 2 (some .int) ∈ TB := tb_of 1290 (by decide +kernel)
theorem mb_X12_award : MB yX12_award cX12_award 2 (some .int) 1 := ⟨tw_i_RX12, tw_c_X12_award, ⟨by decide +kernel, by decide +kernel⟩, by decide +kernel⟩
theorem tw_l_RL_96 : Cond.methodLink RL 96 yX12_award ∈ TB := tb_of 1287 (by decide +kernel)
theorem tw_n_X12_award : Cond.instanceMethod yX12_award ∈ TB := tb_of 1288 (by decide +kernel)
theorem tw_e_X12_award : Cond.selects yX12_award.cls yX12_award yX12_award ∈ TB := tb_of 1289 (by decide +kernel)
theorem mv_L_96 : MV RL 96 10 yX12_award cX12_award 2 (some .int) 1 := ⟨mb_X12_award, tw_l_RL_96, tw_n_X12_award, tw_e_X12_award, ⟨_, _, rfl⟩, by decide⟩
theorem tw_c_X11_court : Cond.code yX11_court cX11_court 2 (some .int) ∈ TB := tb_of 783 (by decide +kernel)
theorem mb_X11_court : MB yX11_court cX11_court 2 (some .int) 1 := ⟨tw_i_RX11, tw_c_X11_court, ⟨by decide +kernel, by decide +kernel⟩, by decide +kernel⟩
theorem tw_l_RL_97 : Cond.methodLink RL 97 yX11_court ∈ TB := tb_of 780 (by decide +kernel)
theorem tw_n_X11_court : Cond.instanceMethod yX11_court ∈ TB := tb_of 781 (by decide +kernel)
theorem tw_e_X11_court : Cond.selects yX11_court.cls yX11_court yX11_court ∈ TB := tb_of 782 (by decide +kernel)
theorem mv_L_97 : MV RL 97 9 yX11_court cX11_court 2 (some .int) 1 := ⟨mb_X11_court, tw_l_RL_97, tw_n_X11_court, tw_e_X11_court, ⟨_, _, rfl⟩, by decide⟩
theorem tw_c_X12_court : Cond.code yX12_court cX12_court 7 (some .int) ∈ TB := tb_of 1294 (by decide +kernel)
theorem mb_X12_court : MB yX12_court cX12_court 7 (some .int) 1 := ⟨tw_i_RX12, tw_c_X12_court, ⟨by decide +kernel, by decide +kernel⟩, by decide +kernel⟩
theorem tw_l_RL_100 : Cond.methodLink RL 100 yX12_court ∈ TB := tb_of 1291 (by decide +kernel)
theorem tw_n_X12_court : Cond.instanceMethod yX12_court ∈ TB := tb_of 1292 (by decide +kernel)
theorem tw_e_X12_court : Cond.selects yX12_court.cls yX12_court yX12_court ∈ TB := tb_of 1293 (by decide +kernel)
theorem mv_L_100 : MV RL 100 10 yX12_court cX12_court 7 (some .int) 1 := ⟨mb_X12_court, tw_l_RL_100, tw_n_X12_court, tw_e_X12_court, ⟨_, _, rfl⟩, by decide⟩
theorem tw_c_X11_settle : Cond.code yX11_settle cX11_settle 3 (some .int) ∈ TB := tb_of 808 (by decide +kernel)
theorem mb_X11_settle : MB yX11_settle cX11_settle 3 (some .int) 0 := ⟨tw_i_RX11, tw_c_X11_settle, ⟨by decide +kernel, by decide +kernel⟩, by decide +kernel⟩
theorem tw_l_RL_101 : Cond.methodLink RL 101 yX11_settle ∈ TB := tb_of 805 (by decide +kernel)
theorem tw_n_X11_settle : Cond.instanceMethod yX11_settle ∈ TB := tb_of 806 (by decide +kernel)
theorem tw_e_X11_settle : Cond.selects yX11_settle.cls yX11_settle yX11_settle ∈ TB := tb_of 807 (by decide +kernel)
theorem mv_L_101 : MV RL 101 9 yX11_settle cX11_settle 3 (some .int) 0 := ⟨mb_X11_settle, tw_l_RL_101, tw_n_X11_settle, tw_e_X11_settle, ⟨_, _, rfl⟩, by decide⟩
theorem tw_c_X12_settle : Cond.code yX12_settle cX12_settle 3 (some .int) ∈ TB := tb_of 1306 (by decide +kernel)
theorem mb_X12_settle : MB yX12_settle cX12_settle 3 (some .int) 0 := ⟨tw_i_RX12, tw_c_X12_settle, ⟨by decide +kernel, by decide +kernel⟩, by decide +kernel⟩
theorem tw_l_RL_104 : Cond.methodLink RL 104 yX12_settle ∈ TB := tb_of 1303 (by decide +kernel)
theorem tw_n_X12_settle : Cond.instanceMethod yX12_settle ∈ TB := tb_of 1304 (by decide +kernel)
theorem tw_e_X12_settle : Cond.selects yX12_settle.cls yX12_settle yX12_settle ∈ TB := tb_of 1305 (by decide +kernel)
theorem mv_L_104 : MV RL 104 10 yX12_settle cX12_settle 3 (some .int) 0 := ⟨mb_X12_settle, tw_l_RL_104, tw_n_X12_settle, tw_e_X12_settle, ⟨_, _, rfl⟩, by decide⟩
theorem tw_c_X11_reading : Cond.code yX11_reading cX11_reading 4 (some .int) ∈ TB := tb_of 812 (by decide +kernel)
theorem mb_X11_reading : MB yX11_reading cX11_reading 4 (some .int) 3 := ⟨tw_i_RX11, tw_c_X11_reading, ⟨by decide +kernel, by decide +kernel⟩, by decide +kernel⟩
theorem tw_l_RL_105 : Cond.methodLink RL 105 yX11_reading ∈ TB := tb_of 809 (by decide +kernel)
theorem tw_n_X11_reading : Cond.instanceMethod yX11_reading ∈ TB := tb_of 810 (by decide +kernel)
theorem tw_e_X11_reading : Cond.selects yX11_reading.cls yX11_reading yX11_reading ∈ TB := tb_of 811 (by decide +kernel)
theorem mv_L_105 : MV RL 105 9 yX11_reading cX11_reading 4 (some .int) 3 := ⟨mb_X11_reading, tw_l_RL_105, tw_n_X11_reading, tw_e_X11_reading, ⟨_, _, rfl⟩, by decide⟩
theorem tw_c_X12_reading : Cond.code yX12_reading cX12_reading 5 (some .int) ∈ TB := tb_of 1310 (by decide +kernel)
theorem mb_X12_reading : MB yX12_reading cX12_reading 5 (some .int) 3 := ⟨tw_i_RX12, tw_c_X12_reading, ⟨by decide +kernel, by decide +kernel⟩, by decide +kernel⟩
theorem tw_l_RL_108 : Cond.methodLink RL 108 yX12_reading ∈ TB := tb_of 1307 (by decide +kernel)
theorem tw_n_X12_reading : Cond.instanceMethod yX12_reading ∈ TB := tb_of 1308 (by decide +kernel)
theorem tw_e_X12_reading : Cond.selects yX12_reading.cls yX12_reading yX12_reading ∈ TB := tb_of 1309 (by decide +kernel)
theorem mv_L_108 : MV RL 108 10 yX12_reading cX12_reading 5 (some .int) 3 := ⟨mb_X12_reading, tw_l_RL_108, tw_n_X12_reading, tw_e_X12_reading, ⟨_, _, rfl⟩, by decide⟩
theorem tw_c_X11_stood : Cond.code yX11_stood cX11_stood 2 (some .int) ∈ TB := tb_of 820 (by decide +kernel)
theorem mb_X11_stood : MB yX11_stood cX11_stood 2 (some .int) 1 := ⟨tw_i_RX11, tw_c_X11_stood, ⟨by decide +kernel, by decide +kernel⟩, by decide +kernel⟩
theorem tw_l_RL_109 : Cond.methodLink RL 109 yX11_stood ∈ TB := tb_of 817 (by decide +kernel)
theorem tw_n_X11_stood : Cond.instanceMethod yX11_stood ∈ TB := tb_of 818 (by decide +kernel)
theorem tw_e_X11_stood : Cond.selects yX11_stood.cls yX11_stood yX11_stood ∈ TB := tb_of 819 (by decide +kernel)
theorem mv_L_109 : MV RL 109 9 yX11_stood cX11_stood 2 (some .int) 1 := ⟨mb_X11_stood, tw_l_RL_109, tw_n_X11_stood, tw_e_X11_stood, ⟨_, _, rfl⟩, by decide⟩
theorem tw_c_X12_stood : Cond.code yX12_stood cX12_stood 6 (some .int) ∈ TB := tb_of 1314 (by decide +kernel)
theorem mb_X12_stood : MB yX12_stood cX12_stood 6 (some .int) 1 := ⟨tw_i_RX12, tw_c_X12_stood, ⟨by decide +kernel, by decide +kernel⟩, by decide +kernel⟩
theorem tw_l_RL_112 : Cond.methodLink RL 112 yX12_stood ∈ TB := tb_of 1311 (by decide +kernel)
theorem tw_n_X12_stood : Cond.instanceMethod yX12_stood ∈ TB := tb_of 1312 (by decide +kernel)
theorem tw_e_X12_stood : Cond.selects yX12_stood.cls yX12_stood yX12_stood ∈ TB := tb_of 1313 (by decide +kernel)
theorem mv_L_112 : MV RL 112 10 yX12_stood cX12_stood 6 (some .int) 1 := ⟨mb_X12_stood, tw_l_RL_112, tw_n_X12_stood, tw_e_X12_stood, ⟨_, _, rfl⟩, by decide⟩
theorem tw_c_X11_note : Cond.code yX11_note cX11_note 6 (some .int) ∈ TB := tb_of 839 (by decide +kernel)
theorem mb_X11_note : MB yX11_note cX11_note 6 (some .int) 5 := ⟨tw_i_RX11, tw_c_X11_note, ⟨by decide +kernel, by decide +kernel⟩, by decide +kernel⟩
theorem tw_l_RL_113 : Cond.methodLink RL 113 yX11_note ∈ TB := tb_of 836 (by decide +kernel)
theorem tw_n_X11_note : Cond.instanceMethod yX11_note ∈ TB := tb_of 837 (by decide +kernel)
theorem tw_e_X11_note : Cond.selects yX11_note.cls yX11_note yX11_note ∈ TB := tb_of 838 (by decide +kernel)
theorem mv_L_113 : MV RL 113 9 yX11_note cX11_note 6 (some .int) 5 := ⟨mb_X11_note, tw_l_RL_113, tw_n_X11_note, tw_e_X11_note, ⟨_, _, rfl⟩, by decide⟩
theorem tw_c_X12_note : Cond.code yX12_note cX12_note 7 (some .int) ∈ TB := tb_of 1323 (by decide +kernel)
theorem mb_X12_note : MB yX12_note cX12_note 7 (some .int) 5 := ⟨tw_i_RX12, tw_c_X12_note, ⟨by decide +kernel, by decide +kernel⟩, by decide +kernel⟩
theorem tw_l_RL_117 : Cond.methodLink RL 117 yX12_note ∈ TB := tb_of 1320 (by decide +kernel)
theorem tw_n_X12_note : Cond.instanceMethod yX12_note ∈ TB := tb_of 1321 (by decide +kernel)
theorem tw_e_X12_note : Cond.selects yX12_note.cls yX12_note yX12_note ∈ TB := tb_of 1322 (by decide +kernel)
theorem mv_L_117 : MV RL 117 10 yX12_note cX12_note 7 (some .int) 5 := ⟨mb_X12_note, tw_l_RL_117, tw_n_X12_note, tw_e_X12_note, ⟨_, _, rfl⟩, by decide⟩
theorem tw_c_X11_mark : Cond.code yX11_mark cX11_mark 5 (some .int) ∈ TB := tb_of 847 (by decide +kernel)
theorem mb_X11_mark : MB yX11_mark cX11_mark 5 (some .int) 4 := ⟨tw_i_RX11, tw_c_X11_mark, ⟨by decide +kernel, by decide +kernel⟩, by decide +kernel⟩
theorem tw_l_RL_118 : Cond.methodLink RL 118 yX11_mark ∈ TB := tb_of 844 (by decide +kernel)
theorem tw_n_X11_mark : Cond.instanceMethod yX11_mark ∈ TB := tb_of 845 (by decide +kernel)
theorem tw_e_X11_mark : Cond.selects yX11_mark.cls yX11_mark yX11_mark ∈ TB := tb_of 846 (by decide +kernel)
theorem mv_L_118 : MV RL 118 9 yX11_mark cX11_mark 5 (some .int) 4 := ⟨mb_X11_mark, tw_l_RL_118, tw_n_X11_mark, tw_e_X11_mark, ⟨_, _, rfl⟩, by decide⟩
theorem tw_c_X12_mark : Cond.code yX12_mark cX12_mark 6 (some .int) ∈ TB := tb_of 1328 (by decide +kernel)
theorem mb_X12_mark : MB yX12_mark cX12_mark 6 (some .int) 4 := ⟨tw_i_RX12, tw_c_X12_mark, ⟨by decide +kernel, by decide +kernel⟩, by decide +kernel⟩
theorem tw_l_RL_122 : Cond.methodLink RL 122 yX12_mark ∈ TB := tb_of 1325 (by decide +kernel)
theorem tw_n_X12_mark : Cond.instanceMethod yX12_mark ∈ TB := tb_of 1326 (by decide +kernel)
theorem tw_e_X12_mark : Cond.selects yX12_mark.cls yX12_mark yX12_mark ∈ TB := tb_of 1327 (by decide +kernel)
theorem mv_L_122 : MV RL 122 10 yX12_mark cX12_mark 6 (some .int) 4 := ⟨mb_X12_mark, tw_l_RL_122, tw_n_X12_mark, tw_e_X12_mark, ⟨_, _, rfl⟩, by decide⟩
theorem tw_c_X11_forget : Cond.code yX11_forget cX11_forget 2 (some .int) ∈ TB := tb_of 855 (by decide +kernel)
theorem mb_X11_forget : MB yX11_forget cX11_forget 2 (some .int) 1 := ⟨tw_i_RX11, tw_c_X11_forget, ⟨by decide +kernel, by decide +kernel⟩, by decide +kernel⟩
theorem tw_l_RL_123 : Cond.methodLink RL 123 yX11_forget ∈ TB := tb_of 852 (by decide +kernel)
theorem tw_n_X11_forget : Cond.instanceMethod yX11_forget ∈ TB := tb_of 853 (by decide +kernel)
theorem tw_e_X11_forget : Cond.selects yX11_forget.cls yX11_forget yX11_forget ∈ TB := tb_of 854 (by decide +kernel)
theorem mv_L_123 : MV RL 123 9 yX11_forget cX11_forget 2 (some .int) 1 := ⟨mb_X11_forget, tw_l_RL_123, tw_n_X11_forget, tw_e_X11_forget, ⟨_, _, rfl⟩, by decide⟩
theorem tw_c_X12_forget : Cond.code yX12_forget cX12_forget 4 (some .int) ∈ TB := tb_of 1333 (by decide +kernel)
theorem mb_X12_forget : MB yX12_forget cX12_forget 4 (some .int) 1 := ⟨tw_i_RX12, tw_c_X12_forget, ⟨by decide +kernel, by decide +kernel⟩, by decide +kernel⟩
theorem tw_l_RL_126 : Cond.methodLink RL 126 yX12_forget ∈ TB := tb_of 1330 (by decide +kernel)
theorem tw_n_X12_forget : Cond.instanceMethod yX12_forget ∈ TB := tb_of 1331 (by decide +kernel)
theorem tw_e_X12_forget : Cond.selects yX12_forget.cls yX12_forget yX12_forget ∈ TB := tb_of 1332 (by decide +kernel)
theorem mv_L_126 : MV RL 126 10 yX12_forget cX12_forget 4 (some .int) 1 := ⟨mb_X12_forget, tw_l_RL_126, tw_n_X12_forget, tw_e_X12_forget, ⟨_, _, rfl⟩, by decide⟩
theorem tw_c_X11_is : Cond.code yX11_is cX11_is 2 (some .int) ∈ TB := tb_of 860 (by decide +kernel)
theorem mb_X11_is : MB yX11_is cX11_is 2 (some .int) 1 := ⟨tw_i_RX11, tw_c_X11_is, ⟨by decide +kernel, by decide +kernel⟩, by decide +kernel⟩
theorem tw_l_RL_127 : Cond.methodLink RL 127 yX11_is ∈ TB := tb_of 857 (by decide +kernel)
theorem tw_n_X11_is : Cond.instanceMethod yX11_is ∈ TB := tb_of 858 (by decide +kernel)
theorem tw_e_X11_is : Cond.selects yX11_is.cls yX11_is yX11_is ∈ TB := tb_of 859 (by decide +kernel)
theorem mv_L_127 : MV RL 127 9 yX11_is cX11_is 2 (some .int) 1 := ⟨mb_X11_is, tw_l_RL_127, tw_n_X11_is, tw_e_X11_is, ⟨_, _, rfl⟩, by decide⟩
theorem tw_c_X12_is : Cond.code yX12_is cX12_is 2 (some .int) ∈ TB := tb_of 1337 (by decide +kernel)
theorem mb_X12_is : MB yX12_is cX12_is 2 (some .int) 1 := ⟨tw_i_RX12, tw_c_X12_is, ⟨by decide +kernel, by decide +kernel⟩, by decide +kernel⟩
theorem tw_l_RL_130 : Cond.methodLink RL 130 yX12_is ∈ TB := tb_of 1334 (by decide +kernel)
theorem tw_n_X12_is : Cond.instanceMethod yX12_is ∈ TB := tb_of 1335 (by decide +kernel)
theorem tw_e_X12_is : Cond.selects yX12_is.cls yX12_is yX12_is ∈ TB := tb_of 1336 (by decide +kernel)
theorem mv_L_130 : MV RL 130 10 yX12_is cX12_is 2 (some .int) 1 := ⟨mb_X12_is, tw_l_RL_130, tw_n_X12_is, tw_e_X12_is, ⟨_, _, rfl⟩, by decide⟩
theorem tw_c_X11_look : Cond.code yX11_look cX11_look 2 (some .int) ∈ TB := tb_of 873 (by decide +kernel)
theorem mb_X11_look : MB yX11_look cX11_look 2 (some .int) 1 := ⟨tw_i_RX11, tw_c_X11_look, ⟨by decide +kernel, by decide +kernel⟩, by decide +kernel⟩
theorem tw_l_RL_131 : Cond.methodLink RL 131 yX11_look ∈ TB := tb_of 870 (by decide +kernel)
theorem tw_n_X11_look : Cond.instanceMethod yX11_look ∈ TB := tb_of 871 (by decide +kernel)
theorem tw_e_X11_look : Cond.selects yX11_look.cls yX11_look yX11_look ∈ TB := tb_of 872 (by decide +kernel)
theorem mv_L_131 : MV RL 131 9 yX11_look cX11_look 2 (some .int) 1 := ⟨mb_X11_look, tw_l_RL_131, tw_n_X11_look, tw_e_X11_look, ⟨_, _, rfl⟩, by decide⟩
theorem tw_c_X12_look : Cond.code yX12_look cX12_look 12 (some .int) ∈ TB := tb_of 1345 (by decide +kernel)
theorem mb_X12_look : MB yX12_look cX12_look 12 (some .int) 1 := ⟨tw_i_RX12, tw_c_X12_look, ⟨by decide +kernel, by decide +kernel⟩, by decide +kernel⟩
theorem tw_l_RL_134 : Cond.methodLink RL 134 yX12_look ∈ TB := tb_of 1342 (by decide +kernel)
theorem tw_n_X12_look : Cond.instanceMethod yX12_look ∈ TB := tb_of 1343 (by decide +kernel)
theorem tw_e_X12_look : Cond.selects yX12_look.cls yX12_look yX12_look ∈ TB := tb_of 1344 (by decide +kernel)
theorem mv_L_134 : MV RL 134 10 yX12_look cX12_look 12 (some .int) 1 := ⟨mb_X12_look, tw_l_RL_134, tw_n_X12_look, tw_e_X12_look, ⟨_, _, rfl⟩, by decide⟩
theorem tw_c_X11_kinds : Cond.code yX11_kinds cX11_kinds 2 (some .int) ∈ TB := tb_of 887 (by decide +kernel)
theorem mb_X11_kinds : MB yX11_kinds cX11_kinds 2 (some .int) 1 := ⟨tw_i_RX11, tw_c_X11_kinds, ⟨by decide +kernel, by decide +kernel⟩, by decide +kernel⟩
theorem tw_l_RL_135 : Cond.methodLink RL 135 yX11_kinds ∈ TB := tb_of 884 (by decide +kernel)
theorem tw_n_X11_kinds : Cond.instanceMethod yX11_kinds ∈ TB := tb_of 885 (by decide +kernel)
theorem tw_e_X11_kinds : Cond.selects yX11_kinds.cls yX11_kinds yX11_kinds ∈ TB := tb_of 886 (by decide +kernel)
theorem mv_L_135 : MV RL 135 9 yX11_kinds cX11_kinds 2 (some .int) 1 := ⟨mb_X11_kinds, tw_l_RL_135, tw_n_X11_kinds, tw_e_X11_kinds, ⟨_, _, rfl⟩, by decide⟩
theorem tw_c_X12_kinds : Cond.code yX12_kinds cX12_kinds 2 (some .int) ∈ TB := tb_of 1349 (by decide +kernel)
theorem mb_X12_kinds : MB yX12_kinds cX12_kinds 2 (some .int) 1 := ⟨tw_i_RX12, tw_c_X12_kinds, ⟨by decide +kernel, by decide +kernel⟩, by decide +kernel⟩
theorem tw_l_RL_138 : Cond.methodLink RL 138 yX12_kinds ∈ TB := tb_of 1346 (by decide +kernel)
theorem tw_n_X12_kinds : Cond.instanceMethod yX12_kinds ∈ TB := tb_of 1347 (by decide +kernel)
theorem tw_e_X12_kinds : Cond.selects yX12_kinds.cls yX12_kinds yX12_kinds ∈ TB := tb_of 1348 (by decide +kernel)
theorem mv_L_138 : MV RL 138 10 yX12_kinds cX12_kinds 2 (some .int) 1 := ⟨mb_X12_kinds, tw_l_RL_138, tw_n_X12_kinds, tw_e_X12_kinds, ⟨_, _, rfl⟩, by decide⟩
theorem tw_c_X11_tries : Cond.code yX11_tries cX11_tries 2 (some .int) ∈ TB := tb_of 899 (by decide +kernel)
theorem mb_X11_tries : MB yX11_tries cX11_tries 2 (some .int) 1 := ⟨tw_i_RX11, tw_c_X11_tries, ⟨by decide +kernel, by decide +kernel⟩, by decide +kernel⟩
theorem tw_l_RL_139 : Cond.methodLink RL 139 yX11_tries ∈ TB := tb_of 896 (by decide +kernel)
theorem tw_n_X11_tries : Cond.instanceMethod yX11_tries ∈ TB := tb_of 897 (by decide +kernel)
theorem tw_e_X11_tries : Cond.selects yX11_tries.cls yX11_tries yX11_tries ∈ TB := tb_of 898 (by decide +kernel)
theorem mv_L_139 : MV RL 139 9 yX11_tries cX11_tries 2 (some .int) 1 := ⟨mb_X11_tries, tw_l_RL_139, tw_n_X11_tries, tw_e_X11_tries, ⟨_, _, rfl⟩, by decide⟩
theorem tw_c_X12_tries : Cond.code yX12_tries cX12_tries 10 (some .int) ∈ TB := tb_of 1357 (by decide +kernel)
theorem mb_X12_tries : MB yX12_tries cX12_tries 10 (some .int) 1 := ⟨tw_i_RX12, tw_c_X12_tries, ⟨by decide +kernel, by decide +kernel⟩, by decide +kernel⟩
theorem tw_l_RL_142 : Cond.methodLink RL 142 yX12_tries ∈ TB := tb_of 1354 (by decide +kernel)
theorem tw_n_X12_tries : Cond.instanceMethod yX12_tries ∈ TB := tb_of 1355 (by decide +kernel)
theorem tw_e_X12_tries : Cond.selects yX12_tries.cls yX12_tries yX12_tries ∈ TB := tb_of 1356 (by decide +kernel)
theorem mv_L_142 : MV RL 142 10 yX12_tries cX12_tries 10 (some .int) 1 := ⟨mb_X12_tries, tw_l_RL_142, tw_n_X12_tries, tw_e_X12_tries, ⟨_, _, rfl⟩, by decide⟩
theorem tw_c_X11_parties : Cond.code yX11_parties cX11_parties 2 (some .int) ∈ TB := tb_of 908 (by decide +kernel)
theorem mb_X11_parties : MB yX11_parties cX11_parties 2 (some .int) 1 := ⟨tw_i_RX11, tw_c_X11_parties, ⟨by decide +kernel, by decide +kernel⟩, by decide +kernel⟩
theorem tw_l_RL_143 : Cond.methodLink RL 143 yX11_parties ∈ TB := tb_of 905 (by decide +kernel)
theorem tw_n_X11_parties : Cond.instanceMethod yX11_parties ∈ TB := tb_of 906 (by decide +kernel)
theorem tw_e_X11_parties : Cond.selects yX11_parties.cls yX11_parties yX11_parties ∈ TB := tb_of 907 (by decide +kernel)
theorem mv_L_143 : MV RL 143 9 yX11_parties cX11_parties 2 (some .int) 1 := ⟨mb_X11_parties, tw_l_RL_143, tw_n_X11_parties, tw_e_X11_parties, ⟨_, _, rfl⟩, by decide⟩
theorem tw_c_X12_parties : Cond.code yX12_parties cX12_parties 5 (some .int) ∈ TB := tb_of 1361 (by decide +kernel)
theorem mb_X12_parties : MB yX12_parties cX12_parties 5 (some .int) 1 := ⟨tw_i_RX12, tw_c_X12_parties, ⟨by decide +kernel, by decide +kernel⟩, by decide +kernel⟩
theorem tw_l_RL_146 : Cond.methodLink RL 146 yX12_parties ∈ TB := tb_of 1358 (by decide +kernel)
theorem tw_n_X12_parties : Cond.instanceMethod yX12_parties ∈ TB := tb_of 1359 (by decide +kernel)
theorem tw_e_X12_parties : Cond.selects yX12_parties.cls yX12_parties yX12_parties ∈ TB := tb_of 1360 (by decide +kernel)
theorem mv_L_146 : MV RL 146 10 yX12_parties cX12_parties 5 (some .int) 1 := ⟨mb_X12_parties, tw_l_RL_146, tw_n_X12_parties, tw_e_X12_parties, ⟨_, _, rfl⟩, by decide⟩
theorem tw_c_X11_calms : Cond.code yX11_calms cX11_calms 4 (some .int) ∈ TB := tb_of 918 (by decide +kernel)
theorem mb_X11_calms : MB yX11_calms cX11_calms 4 (some .int) 3 := ⟨tw_i_RX11, tw_c_X11_calms, ⟨by decide +kernel, by decide +kernel⟩, by decide +kernel⟩
theorem tw_l_RL_147 : Cond.methodLink RL 147 yX11_calms ∈ TB := tb_of 915 (by decide +kernel)
theorem tw_n_X11_calms : Cond.instanceMethod yX11_calms ∈ TB := tb_of 916 (by decide +kernel)
theorem tw_e_X11_calms : Cond.selects yX11_calms.cls yX11_calms yX11_calms ∈ TB := tb_of 917 (by decide +kernel)
theorem mv_L_147 : MV RL 147 9 yX11_calms cX11_calms 4 (some .int) 3 := ⟨mb_X11_calms, tw_l_RL_147, tw_n_X11_calms, tw_e_X11_calms, ⟨_, _, rfl⟩, by decide⟩
theorem tw_c_X12_calms : Cond.code yX12_calms cX12_calms 7 (some .int) ∈ TB := tb_of 1369 (by decide +kernel)
theorem mb_X12_calms : MB yX12_calms cX12_calms 7 (some .int) 3 := ⟨tw_i_RX12, tw_c_X12_calms, ⟨by decide +kernel, by decide +kernel⟩, by decide +kernel⟩
theorem tw_l_RL_150 : Cond.methodLink RL 150 yX12_calms ∈ TB := tb_of 1366 (by decide +kernel)
theorem tw_n_X12_calms : Cond.instanceMethod yX12_calms ∈ TB := tb_of 1367 (by decide +kernel)
theorem tw_e_X12_calms : Cond.selects yX12_calms.cls yX12_calms yX12_calms ∈ TB := tb_of 1368 (by decide +kernel)
theorem mv_L_150 : MV RL 150 10 yX12_calms cX12_calms 7 (some .int) 3 := ⟨mb_X12_calms, tw_l_RL_150, tw_n_X12_calms, tw_e_X12_calms, ⟨_, _, rfl⟩, by decide⟩
theorem tw_c_X11_years : Cond.code yX11_years cX11_years 3 (some .int) ∈ TB := tb_of 927 (by decide +kernel)
theorem mb_X11_years : MB yX11_years cX11_years 3 (some .int) 2 := ⟨tw_i_RX11, tw_c_X11_years, ⟨by decide +kernel, by decide +kernel⟩, by decide +kernel⟩
theorem tw_l_RL_151 : Cond.methodLink RL 151 yX11_years ∈ TB := tb_of 924 (by decide +kernel)
theorem tw_n_X11_years : Cond.instanceMethod yX11_years ∈ TB := tb_of 925 (by decide +kernel)
theorem tw_e_X11_years : Cond.selects yX11_years.cls yX11_years yX11_years ∈ TB := tb_of 926 (by decide +kernel)
theorem mv_L_151 : MV RL 151 9 yX11_years cX11_years 3 (some .int) 2 := ⟨mb_X11_years, tw_l_RL_151, tw_n_X11_years, tw_e_X11_years, ⟨_, _, rfl⟩, by decide⟩
theorem tw_c_X12_years : Cond.code yX12_years cX12_years 8 (some .int) ∈ TB := tb_of 1375 (by decide +kernel)
theorem mb_X12_years : MB yX12_years cX12_years 8 (some .int) 2 := ⟨tw_i_RX12, tw_c_X12_years, ⟨by decide +kernel, by decide +kernel⟩, by decide +kernel⟩
theorem tw_l_RL_154 : Cond.methodLink RL 154 yX12_years ∈ TB := tb_of 1372 (by decide +kernel)
theorem tw_n_X12_years : Cond.instanceMethod yX12_years ∈ TB := tb_of 1373 (by decide +kernel)
theorem tw_e_X12_years : Cond.selects yX12_years.cls yX12_years yX12_years ∈ TB := tb_of 1374 (by decide +kernel)
theorem mv_L_154 : MV RL 154 10 yX12_years cX12_years 8 (some .int) 2 := ⟨mb_X12_years, tw_l_RL_154, tw_n_X12_years, tw_e_X12_years, ⟨_, _, rfl⟩, by decide⟩
theorem tw_c_X11_part : Cond.code yX11_part cX11_part 2 (some .long) ∈ TB := tb_of 948 (by decide +kernel)
theorem mb_X11_part : MB yX11_part cX11_part 2 (some .long) 1 := ⟨tw_i_RX11, tw_c_X11_part, ⟨by decide +kernel, by decide +kernel⟩, by decide +kernel⟩
theorem tw_l_RL_155 : Cond.methodLink RL 155 yX11_part ∈ TB := tb_of 945 (by decide +kernel)
theorem tw_n_X11_part : Cond.instanceMethod yX11_part ∈ TB := tb_of 946 (by decide +kernel)
theorem tw_e_X11_part : Cond.selects yX11_part.cls yX11_part yX11_part ∈ TB := tb_of 947 (by decide +kernel)
theorem mv_L_155 : MV RL 155 9 yX11_part cX11_part 2 (some .long) 1 := ⟨mb_X11_part, tw_l_RL_155, tw_n_X11_part, tw_e_X11_part, ⟨_, _, rfl⟩, by decide⟩
theorem tw_c_X12_part : Cond.code yX12_part cX12_part 2 (some .long) ∈ TB := tb_of 1387 (by decide +kernel)
theorem mb_X12_part : MB yX12_part cX12_part 2 (some .long) 1 := ⟨tw_i_RX12, tw_c_X12_part, ⟨by decide +kernel, by decide +kernel⟩, by decide +kernel⟩
theorem tw_l_RL_159 : Cond.methodLink RL 159 yX12_part ∈ TB := tb_of 1384 (by decide +kernel)
theorem tw_n_X12_part : Cond.instanceMethod yX12_part ∈ TB := tb_of 1385 (by decide +kernel)
theorem tw_e_X12_part : Cond.selects yX12_part.cls yX12_part yX12_part ∈ TB := tb_of 1386 (by decide +kernel)
theorem mv_L_159 : MV RL 159 10 yX12_part cX12_part 2 (some .long) 1 := ⟨mb_X12_part, tw_l_RL_159, tw_n_X12_part, tw_e_X12_part, ⟨_, _, rfl⟩, by decide⟩
theorem tw_c_X11_image : Cond.code yX11_image cX11_image 2 (some .int) ∈ TB := tb_of 952 (by decide +kernel)
theorem mb_X11_image : MB yX11_image cX11_image 2 (some .int) 1 := ⟨tw_i_RX11, tw_c_X11_image, ⟨by decide +kernel, by decide +kernel⟩, by decide +kernel⟩
theorem tw_l_RL_160 : Cond.methodLink RL 160 yX11_image ∈ TB := tb_of 949 (by decide +kernel)
theorem tw_n_X11_image : Cond.instanceMethod yX11_image ∈ TB := tb_of 950 (by decide +kernel)
theorem tw_e_X11_image : Cond.selects yX11_image.cls yX11_image yX11_image ∈ TB := tb_of 951 (by decide +kernel)
theorem mv_L_160 : MV RL 160 9 yX11_image cX11_image 2 (some .int) 1 := ⟨mb_X11_image, tw_l_RL_160, tw_n_X11_image, tw_e_X11_image, ⟨_, _, rfl⟩, by decide⟩
theorem tw_c_X12_image : Cond.code yX12_image cX12_image 3 (some .int) ∈ TB := tb_of 1391 (by decide +kernel)
theorem mb_X12_image : MB yX12_image cX12_image 3 (some .int) 1 := ⟨tw_i_RX12, tw_c_X12_image, ⟨by decide +kernel, by decide +kernel⟩, by decide +kernel⟩
theorem tw_l_RL_163 : Cond.methodLink RL 163 yX12_image ∈ TB := tb_of 1388 (by decide +kernel)
theorem tw_n_X12_image : Cond.instanceMethod yX12_image ∈ TB := tb_of 1389 (by decide +kernel)
theorem tw_e_X12_image : Cond.selects yX12_image.cls yX12_image yX12_image ∈ TB := tb_of 1390 (by decide +kernel)
theorem mv_L_163 : MV RL 163 10 yX12_image cX12_image 3 (some .int) 1 := ⟨mb_X12_image, tw_l_RL_163, tw_n_X12_image, tw_e_X12_image, ⟨_, _, rfl⟩, by decide⟩
theorem tw_c_X11_from : Cond.code yX11_from cX11_from 3 (some .int) ∈ TB := tb_of 956 (by decide +kernel)
theorem mb_X11_from : MB yX11_from cX11_from 3 (some .int) 1 := ⟨tw_i_RX11, tw_c_X11_from, ⟨by decide +kernel, by decide +kernel⟩, by decide +kernel⟩
theorem tw_l_RL_164 : Cond.methodLink RL 164 yX11_from ∈ TB := tb_of 953 (by decide +kernel)
theorem tw_n_X11_from : Cond.instanceMethod yX11_from ∈ TB := tb_of 954 (by decide +kernel)
theorem tw_e_X11_from : Cond.selects yX11_from.cls yX11_from yX11_from ∈ TB := tb_of 955 (by decide +kernel)
theorem mv_L_164 : MV RL 164 9 yX11_from cX11_from 3 (some .int) 1 := ⟨mb_X11_from, tw_l_RL_164, tw_n_X11_from, tw_e_X11_from, ⟨_, _, rfl⟩, by decide⟩
theorem tw_c_X12_from : Cond.code yX12_from cX12_from 3 (some .int) ∈ TB := tb_of 1395 (by decide +kernel)
theorem mb_X12_from : MB yX12_from cX12_from 3 (some .int) 1 := ⟨tw_i_RX12, tw_c_X12_from, ⟨by decide +kernel, by decide +kernel⟩, by decide +kernel⟩
theorem tw_l_RL_167 : Cond.methodLink RL 167 yX12_from ∈ TB := tb_of 1392 (by decide +kernel)
theorem tw_n_X12_from : Cond.instanceMethod yX12_from ∈ TB := tb_of 1393 (by decide +kernel)
theorem tw_e_X12_from : Cond.selects yX12_from.cls yX12_from yX12_from ∈ TB := tb_of 1394 (by decide +kernel)
theorem mv_L_167 : MV RL 167 10 yX12_from cX12_from 3 (some .int) 1 := ⟨mb_X12_from, tw_l_RL_167, tw_n_X12_from, tw_e_X12_from, ⟨_, _, rfl⟩, by decide⟩
theorem tw_c_X11_status : Cond.code yX11_status cX11_status 2 (some .int) ∈ TB := tb_of 960 (by decide +kernel)
theorem mb_X11_status : MB yX11_status cX11_status 2 (some .int) 1 := ⟨tw_i_RX11, tw_c_X11_status, ⟨by decide +kernel, by decide +kernel⟩, by decide +kernel⟩
theorem tw_l_RL_168 : Cond.methodLink RL 168 yX11_status ∈ TB := tb_of 957 (by decide +kernel)
theorem tw_n_X11_status : Cond.instanceMethod yX11_status ∈ TB := tb_of 958 (by decide +kernel)
theorem tw_e_X11_status : Cond.selects yX11_status.cls yX11_status yX11_status ∈ TB := tb_of 959 (by decide +kernel)
theorem mv_L_168 : MV RL 168 9 yX11_status cX11_status 2 (some .int) 1 := ⟨mb_X11_status, tw_l_RL_168, tw_n_X11_status, tw_e_X11_status, ⟨_, _, rfl⟩, by decide⟩
theorem tw_c_X12_status : Cond.code yX12_status cX12_status 2 (some .int) ∈ TB := tb_of 1399 (by decide +kernel)
theorem mb_X12_status : MB yX12_status cX12_status 2 (some .int) 1 := ⟨tw_i_RX12, tw_c_X12_status, ⟨by decide +kernel, by decide +kernel⟩, by decide +kernel⟩
theorem tw_l_RL_171 : Cond.methodLink RL 171 yX12_status ∈ TB := tb_of 1396 (by decide +kernel)
theorem tw_n_X12_status : Cond.instanceMethod yX12_status ∈ TB := tb_of 1397 (by decide +kernel)
theorem tw_e_X12_status : Cond.selects yX12_status.cls yX12_status yX12_status ∈ TB := tb_of 1398 (by decide +kernel)
theorem mv_L_171 : MV RL 171 10 yX12_status cX12_status 2 (some .int) 1 := ⟨mb_X12_status, tw_l_RL_171, tw_n_X12_status, tw_e_X12_status, ⟨_, _, rfl⟩, by decide⟩
theorem tw_c_X11_count : Cond.code yX11_count cX11_count 2 (some .int) ∈ TB := tb_of 964 (by decide +kernel)
theorem mb_X11_count : MB yX11_count cX11_count 2 (some .int) 1 := ⟨tw_i_RX11, tw_c_X11_count, ⟨by decide +kernel, by decide +kernel⟩, by decide +kernel⟩
theorem tw_l_RL_172 : Cond.methodLink RL 172 yX11_count ∈ TB := tb_of 961 (by decide +kernel)
theorem tw_n_X11_count : Cond.instanceMethod yX11_count ∈ TB := tb_of 962 (by decide +kernel)
theorem tw_e_X11_count : Cond.selects yX11_count.cls yX11_count yX11_count ∈ TB := tb_of 963 (by decide +kernel)
theorem mv_L_172 : MV RL 172 9 yX11_count cX11_count 2 (some .int) 1 := ⟨mb_X11_count, tw_l_RL_172, tw_n_X11_count, tw_e_X11_count, ⟨_, _, rfl⟩, by decide⟩
theorem tw_c_X12_count : Cond.code yX12_count cX12_count 2 (some .int) ∈ TB := tb_of 1403 (by decide +kernel)
theorem mb_X12_count : MB yX12_count cX12_count 2 (some .int) 1 := ⟨tw_i_RX12, tw_c_X12_count, ⟨by decide +kernel, by decide +kernel⟩, by decide +kernel⟩
theorem tw_l_RL_175 : Cond.methodLink RL 175 yX12_count ∈ TB := tb_of 1400 (by decide +kernel)
theorem tw_n_X12_count : Cond.instanceMethod yX12_count ∈ TB := tb_of 1401 (by decide +kernel)
theorem tw_e_X12_count : Cond.selects yX12_count.cls yX12_count yX12_count ∈ TB := tb_of 1402 (by decide +kernel)
theorem mv_L_175 : MV RL 175 10 yX12_count cX12_count 2 (some .int) 1 := ⟨mb_X12_count, tw_l_RL_175, tw_n_X12_count, tw_e_X12_count, ⟨_, _, rfl⟩, by decide⟩
theorem tw_c_X11_digest : Cond.code yX11_digest cX11_digest 4 (some .long) ∈ TB := tb_of 976 (by decide +kernel)
theorem mb_X11_digest : MB yX11_digest cX11_digest 4 (some .long) 0 := ⟨tw_i_RX11, tw_c_X11_digest, ⟨by decide +kernel, by decide +kernel⟩, by decide +kernel⟩
theorem tw_l_RL_176 : Cond.methodLink RL 176 yX11_digest ∈ TB := tb_of 973 (by decide +kernel)
theorem tw_n_X11_digest : Cond.instanceMethod yX11_digest ∈ TB := tb_of 974 (by decide +kernel)
theorem tw_e_X11_digest : Cond.selects yX11_digest.cls yX11_digest yX11_digest ∈ TB := tb_of 975 (by decide +kernel)
theorem mv_L_176 : MV RL 176 9 yX11_digest cX11_digest 4 (some .long) 0 := ⟨mb_X11_digest, tw_l_RL_176, tw_n_X11_digest, tw_e_X11_digest, ⟨_, _, rfl⟩, by decide⟩
theorem tw_c_X12_digest : Cond.code yX12_digest cX12_digest 4 (some .long) ∈ TB := tb_of 1412 (by decide +kernel)
theorem mb_X12_digest : MB yX12_digest cX12_digest 4 (some .long) 0 := ⟨tw_i_RX12, tw_c_X12_digest, ⟨by decide +kernel, by decide +kernel⟩, by decide +kernel⟩
theorem tw_l_RL_180 : Cond.methodLink RL 180 yX12_digest ∈ TB := tb_of 1409 (by decide +kernel)
theorem tw_n_X12_digest : Cond.instanceMethod yX12_digest ∈ TB := tb_of 1410 (by decide +kernel)
theorem tw_e_X12_digest : Cond.selects yX12_digest.cls yX12_digest yX12_digest ∈ TB := tb_of 1411 (by decide +kernel)
theorem mv_L_180 : MV RL 180 10 yX12_digest cX12_digest 4 (some .long) 0 := ⟨mb_X12_digest, tw_l_RL_180, tw_n_X12_digest, tw_e_X12_digest, ⟨_, _, rfl⟩, by decide⟩
theorem l_lz {o : Ow} {pc : Nat} {Lc : List (Option Value)} {st : List Value} {σx σm : SS} (C : Cw o) {x : Int64} {off : Int} {tgt : Nat} (hd : decode cL_law pc = .ok (.ifCond .eq off, 3)) (ht : (pc : Int) + off = (tgt : Int)) (kk : Lx o tgt Lc st σx σm) : Lx o pc Lc (.int (lg_cmp x x) :: st) σx σm :=
  fun ls H locs h1 h2 h3 h4 => lv_if_eq C.1 C.2.1 hd ht (fun _ => kk ls H locs h1 h2 h3 h4) (fun h => absurd (by simp [lg_cmp]) h)
theorem lc_island {o : Ow} {σx σm : SS} {i : Nat} (C : Cw o) (R : Rel σx σm) (hi : i + 6 ≤ o.2.2.2.2.1) (kk : ∀ sx sm, Rel sx sm → Lx o 1320 (LC i) [] sx sm) : Lx o 208 (LC i) [] σx σm := by
  obtain ⟨rr, sx, sm, e1, e2, R2⟩ := q_island R
  refine l_aload C dL_law_208 rfl rfl ?_
  refine l_callX C mv_L_13 rfl rfl [] (ct_X11_island 0 rfl _ _ _ e1) ⟨Nat.le_of_ble_eq_true rfl, Nat.le_of_ble_eq_true rfl⟩ rfl (Nat.le_of_ble_eq_true rfl) rfl dL_law_209 ?_
  refine l_aload C dL_law_212 rfl rfl ?_
  refine l_callM C mv_L_17 rfl rfl [] (ct_X12_island 78 rfl _ _ _ e2) ⟨Nat.le_of_ble_eq_true rfl, Nat.le_of_ble_eq_true rfl⟩ rfl (Nat.le_of_ble_eq_true rfl) rfl dL_law_213 ?_
  refine l_eq (tgt := 1320) C dL_law_216 (by decide) ?_
  exact kk _ _ R2
theorem lc_wind {o : Ow} {σx σm : SS} {i : Nat} (C : Cw o) (R : Rel σx σm) (hi : i + 6 ≤ o.2.2.2.2.1) (kk : ∀ sx sm, Rel sx sm → Lx o 1320 (LC i) [] sx sm) : Lx o 221 (LC i) [] σx σm := by
  obtain ⟨rr, sx, sm, e1, e2, R2⟩ := q_wind R (o.2.2.2.2.2 (i + 1)) (o.2.2.2.2.2 (i + 2)) (o.2.2.2.2.2 (i + 3))
  refine l_aload C dL_law_221 rfl rfl ?_
  refine l_arg (k := 1) C dL_law_222 dL_law_223 dL_law_224 dL_law_225 dL_law_226 (by decide +kernel) (by decide) hi ?_
  refine l_arg (k := 2) C dL_law_227 dL_law_228 dL_law_229 dL_law_230 dL_law_231 (by decide +kernel) (by decide) hi ?_
  refine l_arg (k := 3) C dL_law_232 dL_law_233 dL_law_234 dL_law_235 dL_law_236 (by decide +kernel) (by decide) hi ?_
  refine l_callX C mv_L_18 rfl rfl [.int (o.2.2.2.2.2 (i + 1)), .int (o.2.2.2.2.2 (i + 2)), .int (o.2.2.2.2.2 (i + 3))] (ct_X11_wind 0 rfl _ _ _ _ _ _ e1) ⟨Nat.le_of_ble_eq_true rfl, Nat.le_of_ble_eq_true rfl⟩ rfl (Nat.le_of_ble_eq_true rfl) rfl dL_law_237 ?_
  refine l_aload C dL_law_240 rfl rfl ?_
  refine l_arg (k := 1) C dL_law_241 dL_law_242 dL_law_243 dL_law_244 dL_law_245 (by decide +kernel) (by decide) hi ?_
  refine l_arg (k := 2) C dL_law_246 dL_law_247 dL_law_248 dL_law_249 dL_law_250 (by decide +kernel) (by decide) hi ?_
  refine l_arg (k := 3) C dL_law_251 dL_law_252 dL_law_253 dL_law_254 dL_law_255 (by decide +kernel) (by decide) hi ?_
  refine l_callM C mv_L_22 rfl rfl [.int (o.2.2.2.2.2 (i + 1)), .int (o.2.2.2.2.2 (i + 2)), .int (o.2.2.2.2.2 (i + 3))] (ct_X12_wind 78 rfl _ _ _ _ _ _ e2) ⟨Nat.le_of_ble_eq_true rfl, Nat.le_of_ble_eq_true rfl⟩ rfl (Nat.le_of_ble_eq_true rfl) rfl dL_law_256 ?_
  refine l_eq (tgt := 1320) C dL_law_259 (by decide) ?_
  exact kk _ _ R2
theorem lc_user {o : Ow} {σx σm : SS} {i : Nat} (C : Cw o) (R : Rel σx σm) (hi : i + 6 ≤ o.2.2.2.2.1) (kk : ∀ sx sm, Rel sx sm → Lx o 1320 (LC i) [] sx sm) : Lx o 264 (LC i) [] σx σm := by
  obtain ⟨rr, sx, sm, e1, e2, R2⟩ := q_user R (o.2.2.2.2.2 (i + 1)) (o.2.2.2.2.2 (i + 2)) (o.2.2.2.2.2 (i + 3))
  refine l_aload C dL_law_264 rfl rfl ?_
  refine l_arg (k := 1) C dL_law_265 dL_law_266 dL_law_267 dL_law_268 dL_law_269 (by decide +kernel) (by decide) hi ?_
  refine l_arg (k := 2) C dL_law_270 dL_law_271 dL_law_272 dL_law_273 dL_law_274 (by decide +kernel) (by decide) hi ?_
  refine l_arg (k := 3) C dL_law_275 dL_law_276 dL_law_277 dL_law_278 dL_law_279 (by decide +kernel) (by decide) hi ?_
  refine l_callX C mv_L_23 rfl rfl [.int (o.2.2.2.2.2 (i + 1)), .int (o.2.2.2.2.2 (i + 2)), .int (o.2.2.2.2.2 (i + 3))] (ct_X11_user 0 rfl _ _ _ _ _ _ e1) ⟨Nat.le_of_ble_eq_true rfl, Nat.le_of_ble_eq_true rfl⟩ rfl (Nat.le_of_ble_eq_true rfl) rfl dL_law_280 ?_
  refine l_aload C dL_law_283 rfl rfl ?_
  refine l_arg (k := 1) C dL_law_284 dL_law_285 dL_law_286 dL_law_287 dL_law_288 (by decide +kernel) (by decide) hi ?_
  refine l_arg (k := 2) C dL_law_289 dL_law_290 dL_law_291 dL_law_292 dL_law_293 (by decide +kernel) (by decide) hi ?_
  refine l_arg (k := 3) C dL_law_294 dL_law_295 dL_law_296 dL_law_297 dL_law_298 (by decide +kernel) (by decide) hi ?_
  refine l_callM C mv_L_26 rfl rfl [.int (o.2.2.2.2.2 (i + 1)), .int (o.2.2.2.2.2 (i + 2)), .int (o.2.2.2.2.2 (i + 3))] (ct_X12_user 78 rfl _ _ _ _ _ _ e2) ⟨Nat.le_of_ble_eq_true rfl, Nat.le_of_ble_eq_true rfl⟩ rfl (Nat.le_of_ble_eq_true rfl) rfl dL_law_299 ?_
  refine l_eq (tgt := 1320) C dL_law_302 (by decide) ?_
  exact kk _ _ R2
theorem lc_type {o : Ow} {σx σm : SS} {i : Nat} (C : Cw o) (R : Rel σx σm) (hi : i + 6 ≤ o.2.2.2.2.1) (kk : ∀ sx sm, Rel sx sm → Lx o 1320 (LC i) [] sx sm) : Lx o 307 (LC i) [] σx σm := by
  obtain ⟨rr, sx, sm, e1, e2, R2⟩ := q_type R (o.2.2.2.2.2 (i + 1))
  refine l_aload C dL_law_307 rfl rfl ?_
  refine l_arg (k := 1) C dL_law_308 dL_law_309 dL_law_310 dL_law_311 dL_law_312 (by decide +kernel) (by decide) hi ?_
  refine l_callX C mv_L_27 rfl rfl [.int (o.2.2.2.2.2 (i + 1))] (ct_X11_type 0 rfl _ _ _ _ e1) ⟨Nat.le_of_ble_eq_true rfl, Nat.le_of_ble_eq_true rfl⟩ rfl (Nat.le_of_ble_eq_true rfl) rfl dL_law_313 ?_
  refine l_aload C dL_law_316 rfl rfl ?_
  refine l_arg (k := 1) C dL_law_317 dL_law_318 dL_law_319 dL_law_320 dL_law_321 (by decide +kernel) (by decide) hi ?_
  refine l_callM C mv_L_31 rfl rfl [.int (o.2.2.2.2.2 (i + 1))] (ct_X12_type 78 rfl _ _ _ _ e2) ⟨Nat.le_of_ble_eq_true rfl, Nat.le_of_ble_eq_true rfl⟩ rfl (Nat.le_of_ble_eq_true rfl) rfl dL_law_322 ?_
  refine l_eq (tgt := 1320) C dL_law_325 (by decide) ?_
  exact kk _ _ R2
theorem lc_clear {o : Ow} {σx σm : SS} {i : Nat} (C : Cw o) (R : Rel σx σm) (hi : i + 6 ≤ o.2.2.2.2.1) (kk : ∀ sx sm, Rel sx sm → Lx o 1320 (LC i) [] sx sm) : Lx o 330 (LC i) [] σx σm := by
  obtain ⟨rr, sx, sm, e1, e2, R2⟩ := q_clear R
  refine l_aload C dL_law_330 rfl rfl ?_
  refine l_callX C mv_L_32 rfl rfl [] (ct_X11_clear 0 rfl _ _ _ e1) ⟨Nat.le_of_ble_eq_true rfl, Nat.le_of_ble_eq_true rfl⟩ rfl (Nat.le_of_ble_eq_true rfl) rfl dL_law_331 ?_
  refine l_aload C dL_law_334 rfl rfl ?_
  refine l_callM C mv_L_35 rfl rfl [] (ct_X12_clear 78 rfl _ _ _ e2) ⟨Nat.le_of_ble_eq_true rfl, Nat.le_of_ble_eq_true rfl⟩ rfl (Nat.le_of_ble_eq_true rfl) rfl dL_law_335 ?_
  refine l_eq (tgt := 1320) C dL_law_338 (by decide) ?_
  exact kk _ _ R2
theorem lc_read {o : Ow} {σx σm : SS} {i : Nat} (C : Cw o) (R : Rel σx σm) (hi : i + 6 ≤ o.2.2.2.2.1) (kk : ∀ sx sm, Rel sx sm → Lx o 1320 (LC i) [] sx sm) : Lx o 343 (LC i) [] σx σm := by
  obtain ⟨rr, sx, sm, e1, e2, R2⟩ := q_read R
  refine l_aload C dL_law_343 rfl rfl ?_
  refine l_callX C mv_L_36 rfl rfl [] (ct_X11_read 0 rfl _ _ _ e1) ⟨Nat.le_of_ble_eq_true rfl, Nat.le_of_ble_eq_true rfl⟩ rfl (Nat.le_of_ble_eq_true rfl) rfl dL_law_344 ?_
  refine l_aload C dL_law_347 rfl rfl ?_
  refine l_callM C mv_L_39 rfl rfl [] (ct_X12_read 78 rfl _ _ _ e2) ⟨Nat.le_of_ble_eq_true rfl, Nat.le_of_ble_eq_true rfl⟩ rfl (Nat.le_of_ble_eq_true rfl) rfl dL_law_348 ?_
  refine l_eq (tgt := 1320) C dL_law_351 (by decide) ?_
  exact kk _ _ R2
theorem lc_hour {o : Ow} {σx σm : SS} {i : Nat} (C : Cw o) (R : Rel σx σm) (hi : i + 6 ≤ o.2.2.2.2.1) (kk : ∀ sx sm, Rel sx sm → Lx o 1320 (LC i) [] sx sm) : Lx o 356 (LC i) [] σx σm := by
  obtain ⟨rr, sx, sm, e1, e2, R2⟩ := q_hour R (o.2.2.2.2.2 (i + 1))
  refine l_aload C dL_law_356 rfl rfl ?_
  refine l_arg (k := 1) C dL_law_357 dL_law_358 dL_law_359 dL_law_360 dL_law_361 (by decide +kernel) (by decide) hi ?_
  refine l_callX C mv_L_40 rfl rfl [.int (o.2.2.2.2.2 (i + 1))] (ct_X11_hour 0 rfl _ _ _ _ e1) ⟨Nat.le_of_ble_eq_true rfl, Nat.le_of_ble_eq_true rfl⟩ rfl (Nat.le_of_ble_eq_true rfl) rfl dL_law_362 ?_
  refine l_aload C dL_law_365 rfl rfl ?_
  refine l_arg (k := 1) C dL_law_366 dL_law_367 dL_law_368 dL_law_369 dL_law_370 (by decide +kernel) (by decide) hi ?_
  refine l_callM C mv_L_43 rfl rfl [.int (o.2.2.2.2.2 (i + 1))] (ct_X12_hour 78 rfl _ _ _ _ e2) ⟨Nat.le_of_ble_eq_true rfl, Nat.le_of_ble_eq_true rfl⟩ rfl (Nat.le_of_ble_eq_true rfl) rfl dL_law_371 ?_
  refine l_eq (tgt := 1320) C dL_law_374 (by decide) ?_
  exact kk _ _ R2
theorem lc_suit {o : Ow} {σx σm : SS} {i : Nat} (C : Cw o) (R : Rel σx σm) (hi : i + 6 ≤ o.2.2.2.2.1) (kk : ∀ sx sm, Rel sx sm → Lx o 1320 (LC i) [] sx sm) : Lx o 379 (LC i) [] σx σm := by
  obtain ⟨rr, sx, sm, e1, e2, R2⟩ := q_suit R (o.2.2.2.2.2 (i + 1)) (o.2.2.2.2.2 (i + 2))
  refine l_aload C dL_law_379 rfl rfl ?_
  refine l_arg (k := 1) C dL_law_380 dL_law_381 dL_law_382 dL_law_383 dL_law_384 (by decide +kernel) (by decide) hi ?_
  refine l_arg (k := 2) C dL_law_385 dL_law_386 dL_law_387 dL_law_388 dL_law_389 (by decide +kernel) (by decide) hi ?_
  refine l_callX C mv_L_44 rfl rfl [.int (o.2.2.2.2.2 (i + 1)), .int (o.2.2.2.2.2 (i + 2))] (ct_X11_suit 0 rfl _ _ _ _ _ e1) ⟨Nat.le_of_ble_eq_true rfl, Nat.le_of_ble_eq_true rfl⟩ rfl (Nat.le_of_ble_eq_true rfl) rfl dL_law_390 ?_
  refine l_aload C dL_law_393 rfl rfl ?_
  refine l_arg (k := 1) C dL_law_394 dL_law_395 dL_law_396 dL_law_397 dL_law_398 (by decide +kernel) (by decide) hi ?_
  refine l_arg (k := 2) C dL_law_399 dL_law_400 dL_law_401 dL_law_402 dL_law_403 (by decide +kernel) (by decide) hi ?_
  refine l_callM C mv_L_48 rfl rfl [.int (o.2.2.2.2.2 (i + 1)), .int (o.2.2.2.2.2 (i + 2))] (ct_X12_suit 78 rfl _ _ _ _ _ e2) ⟨Nat.le_of_ble_eq_true rfl, Nat.le_of_ble_eq_true rfl⟩ rfl (Nat.le_of_ble_eq_true rfl) rfl dL_law_404 ?_
  refine l_eq (tgt := 1320) C dL_law_407 (by decide) ?_
  exact kk _ _ R2
theorem lc_hears {o : Ow} {σx σm : SS} {i : Nat} (C : Cw o) (R : Rel σx σm) (hi : i + 6 ≤ o.2.2.2.2.1) (kk : ∀ sx sm, Rel sx sm → Lx o 1320 (LC i) [] sx sm) : Lx o 412 (LC i) [] σx σm := by
  obtain ⟨rr, sx, sm, e1, e2, R2⟩ := q_hears R (o.2.2.2.2.2 (i + 1))
  refine l_aload C dL_law_412 rfl rfl ?_
  refine l_arg (k := 1) C dL_law_413 dL_law_414 dL_law_415 dL_law_416 dL_law_417 (by decide +kernel) (by decide) hi ?_
  refine l_callX C mv_L_49 rfl rfl [.int (o.2.2.2.2.2 (i + 1))] (ct_X11_hears 0 rfl _ _ _ _ e1) ⟨Nat.le_of_ble_eq_true rfl, Nat.le_of_ble_eq_true rfl⟩ rfl (Nat.le_of_ble_eq_true rfl) rfl dL_law_418 ?_
  refine l_aload C dL_law_421 rfl rfl ?_
  refine l_arg (k := 1) C dL_law_422 dL_law_423 dL_law_424 dL_law_425 dL_law_426 (by decide +kernel) (by decide) hi ?_
  refine l_callM C mv_L_52 rfl rfl [.int (o.2.2.2.2.2 (i + 1))] (ct_X12_hears 78 rfl _ _ _ _ e2) ⟨Nat.le_of_ble_eq_true rfl, Nat.le_of_ble_eq_true rfl⟩ rfl (Nat.le_of_ble_eq_true rfl) rfl dL_law_427 ?_
  refine l_eq (tgt := 1320) C dL_law_430 (by decide) ?_
  exact kk _ _ R2
theorem lc_pays {o : Ow} {σx σm : SS} {i : Nat} (C : Cw o) (R : Rel σx σm) (hi : i + 6 ≤ o.2.2.2.2.1) (kk : ∀ sx sm, Rel sx sm → Lx o 1320 (LC i) [] sx sm) : Lx o 435 (LC i) [] σx σm := by
  obtain ⟨rr, sx, sm, e1, e2, R2⟩ := q_pays R (o.2.2.2.2.2 (i + 1))
  refine l_aload C dL_law_435 rfl rfl ?_
  refine l_arg (k := 1) C dL_law_436 dL_law_437 dL_law_438 dL_law_439 dL_law_440 (by decide +kernel) (by decide) hi ?_
  refine l_callX C mv_L_53 rfl rfl [.int (o.2.2.2.2.2 (i + 1))] (ct_X11_pays 0 rfl _ _ _ _ e1) ⟨Nat.le_of_ble_eq_true rfl, Nat.le_of_ble_eq_true rfl⟩ rfl (Nat.le_of_ble_eq_true rfl) rfl dL_law_441 ?_
  refine l_aload C dL_law_444 rfl rfl ?_
  refine l_arg (k := 1) C dL_law_445 dL_law_446 dL_law_447 dL_law_448 dL_law_449 (by decide +kernel) (by decide) hi ?_
  refine l_callM C mv_L_56 rfl rfl [.int (o.2.2.2.2.2 (i + 1))] (ct_X12_pays 78 rfl _ _ _ _ e2) ⟨Nat.le_of_ble_eq_true rfl, Nat.le_of_ble_eq_true rfl⟩ rfl (Nat.le_of_ble_eq_true rfl) rfl dL_law_450 ?_
  refine l_eq (tgt := 1320) C dL_law_453 (by decide) ?_
  exact kk _ _ R2
theorem lc_undo {o : Ow} {σx σm : SS} {i : Nat} (C : Cw o) (R : Rel σx σm) (hi : i + 6 ≤ o.2.2.2.2.1) (kk : ∀ sx sm, Rel sx sm → Lx o 1320 (LC i) [] sx sm) : Lx o 458 (LC i) [] σx σm := by
  obtain ⟨rr, sx, sm, e1, e2, R2⟩ := q_undo R
  refine l_aload C dL_law_458 rfl rfl ?_
  refine l_callX C mv_L_57 rfl rfl [] (ct_X11_undo 0 rfl _ _ _ e1) ⟨Nat.le_of_ble_eq_true rfl, Nat.le_of_ble_eq_true rfl⟩ rfl (Nat.le_of_ble_eq_true rfl) rfl dL_law_459 ?_
  refine l_aload C dL_law_462 rfl rfl ?_
  refine l_callM C mv_L_60 rfl rfl [] (ct_X12_undo 78 rfl _ _ _ e2) ⟨Nat.le_of_ble_eq_true rfl, Nat.le_of_ble_eq_true rfl⟩ rfl (Nat.le_of_ble_eq_true rfl) rfl dL_law_463 ?_
  refine l_eq (tgt := 1320) C dL_law_466 (by decide) ?_
  exact kk _ _ R2
theorem lc_of {o : Ow} {σx σm : SS} {i : Nat} (C : Cw o) (R : Rel σx σm) (hi : i + 6 ≤ o.2.2.2.2.1) (kk : ∀ sx sm, Rel sx sm → Lx o 1320 (LC i) [] sx sm) : Lx o 471 (LC i) [] σx σm := by
  obtain ⟨rr, sx, sm, e1, e2, R2⟩ := q_of R (o.2.2.2.2.2 (i + 1)) (o.2.2.2.2.2 (i + 2))
  refine l_aload C dL_law_471 rfl rfl ?_
  refine l_arg (k := 1) C dL_law_472 dL_law_473 dL_law_474 dL_law_475 dL_law_476 (by decide +kernel) (by decide) hi ?_
  refine l_arg (k := 2) C dL_law_477 dL_law_478 dL_law_479 dL_law_480 dL_law_481 (by decide +kernel) (by decide) hi ?_
  refine l_callX C mv_L_61 rfl rfl [.int (o.2.2.2.2.2 (i + 1)), .int (o.2.2.2.2.2 (i + 2))] (ct_X11_of 0 rfl _ _ _ _ _ e1) ⟨Nat.le_of_ble_eq_true rfl, Nat.le_of_ble_eq_true rfl⟩ rfl (Nat.le_of_ble_eq_true rfl) rfl dL_law_482 ?_
  refine l_aload C dL_law_485 rfl rfl ?_
  refine l_arg (k := 1) C dL_law_486 dL_law_487 dL_law_488 dL_law_489 dL_law_490 (by decide +kernel) (by decide) hi ?_
  refine l_arg (k := 2) C dL_law_491 dL_law_492 dL_law_493 dL_law_494 dL_law_495 (by decide +kernel) (by decide) hi ?_
  refine l_callM C mv_L_64 rfl rfl [.int (o.2.2.2.2.2 (i + 1)), .int (o.2.2.2.2.2 (i + 2))] (ct_X12_of 78 rfl _ _ _ _ _ e2) ⟨Nat.le_of_ble_eq_true rfl, Nat.le_of_ble_eq_true rfl⟩ rfl (Nat.le_of_ble_eq_true rfl) rfl dL_law_496 ?_
  refine l_eq (tgt := 1320) C dL_law_499 (by decide) ?_
  exact kk _ _ R2
theorem lc_about {o : Ow} {σx σm : SS} {i : Nat} (C : Cw o) (R : Rel σx σm) (hi : i + 6 ≤ o.2.2.2.2.1) (kk : ∀ sx sm, Rel sx sm → Lx o 1320 (LC i) [] sx sm) : Lx o 504 (LC i) [] σx σm := by
  obtain ⟨rr, sx, sm, e1, e2, R2⟩ := q_about R (o.2.2.2.2.2 (i + 1)) (o.2.2.2.2.2 (i + 2))
  refine l_aload C dL_law_504 rfl rfl ?_
  refine l_arg (k := 1) C dL_law_505 dL_law_506 dL_law_507 dL_law_508 dL_law_509 (by decide +kernel) (by decide) hi ?_
  refine l_arg (k := 2) C dL_law_510 dL_law_511 dL_law_512 dL_law_513 dL_law_514 (by decide +kernel) (by decide) hi ?_
  refine l_callX C mv_L_65 rfl rfl [.int (o.2.2.2.2.2 (i + 1)), .int (o.2.2.2.2.2 (i + 2))] (ct_X11_about 0 rfl _ _ _ _ _ e1) ⟨Nat.le_of_ble_eq_true rfl, Nat.le_of_ble_eq_true rfl⟩ rfl (Nat.le_of_ble_eq_true rfl) rfl dL_law_515 ?_
  refine l_aload C dL_law_518 rfl rfl ?_
  refine l_arg (k := 1) C dL_law_519 dL_law_520 dL_law_521 dL_law_522 dL_law_523 (by decide +kernel) (by decide) hi ?_
  refine l_arg (k := 2) C dL_law_524 dL_law_525 dL_law_526 dL_law_527 dL_law_528 (by decide +kernel) (by decide) hi ?_
  refine l_callM C mv_L_68 rfl rfl [.int (o.2.2.2.2.2 (i + 1)), .int (o.2.2.2.2.2 (i + 2))] (ct_X12_about 78 rfl _ _ _ _ _ e2) ⟨Nat.le_of_ble_eq_true rfl, Nat.le_of_ble_eq_true rfl⟩ rfl (Nat.le_of_ble_eq_true rfl) rfl dL_law_529 ?_
  refine l_eq (tgt := 1320) C dL_law_532 (by decide) ?_
  exact kk _ _ R2
theorem lc_blows {o : Ow} {σx σm : SS} {i : Nat} (C : Cw o) (R : Rel σx σm) (hi : i + 6 ≤ o.2.2.2.2.1) (kk : ∀ sx sm, Rel sx sm → Lx o 1320 (LC i) [] sx sm) : Lx o 537 (LC i) [] σx σm := by
  obtain ⟨rr, sx, sm, e1, e2, R2⟩ := q_blows R (o.2.2.2.2.2 (i + 1)) (o.2.2.2.2.2 (i + 2)) (o.2.2.2.2.2 (i + 3))
  refine l_aload C dL_law_537 rfl rfl ?_
  refine l_arg (k := 1) C dL_law_538 dL_law_539 dL_law_540 dL_law_541 dL_law_542 (by decide +kernel) (by decide) hi ?_
  refine l_arg (k := 2) C dL_law_543 dL_law_544 dL_law_545 dL_law_546 dL_law_547 (by decide +kernel) (by decide) hi ?_
  refine l_arg (k := 3) C dL_law_548 dL_law_549 dL_law_550 dL_law_551 dL_law_552 (by decide +kernel) (by decide) hi ?_
  refine l_callX C mv_L_69 rfl rfl [.int (o.2.2.2.2.2 (i + 1)), .int (o.2.2.2.2.2 (i + 2)), .int (o.2.2.2.2.2 (i + 3))] (ct_X11_blows 0 rfl _ _ _ _ _ _ e1) ⟨Nat.le_of_ble_eq_true rfl, Nat.le_of_ble_eq_true rfl⟩ rfl (Nat.le_of_ble_eq_true rfl) rfl dL_law_553 ?_
  refine l_aload C dL_law_556 rfl rfl ?_
  refine l_arg (k := 1) C dL_law_557 dL_law_558 dL_law_559 dL_law_560 dL_law_561 (by decide +kernel) (by decide) hi ?_
  refine l_arg (k := 2) C dL_law_562 dL_law_563 dL_law_564 dL_law_565 dL_law_566 (by decide +kernel) (by decide) hi ?_
  refine l_arg (k := 3) C dL_law_567 dL_law_568 dL_law_569 dL_law_570 dL_law_571 (by decide +kernel) (by decide) hi ?_
  refine l_callM C mv_L_72 rfl rfl [.int (o.2.2.2.2.2 (i + 1)), .int (o.2.2.2.2.2 (i + 2)), .int (o.2.2.2.2.2 (i + 3))] (ct_X12_blows 78 rfl _ _ _ _ _ _ e2) ⟨Nat.le_of_ble_eq_true rfl, Nat.le_of_ble_eq_true rfl⟩ rfl (Nat.le_of_ble_eq_true rfl) rfl dL_law_572 ?_
  refine l_eq (tgt := 1320) C dL_law_575 (by decide) ?_
  exact kk _ _ R2
theorem lc_takes {o : Ow} {σx σm : SS} {i : Nat} (C : Cw o) (R : Rel σx σm) (hi : i + 6 ≤ o.2.2.2.2.1) (kk : ∀ sx sm, Rel sx sm → Lx o 1320 (LC i) [] sx sm) : Lx o 580 (LC i) [] σx σm := by
  obtain ⟨rr, sx, sm, e1, e2, R2⟩ := q_takes R (o.2.2.2.2.2 (i + 1)) (o.2.2.2.2.2 (i + 2))
  refine l_aload C dL_law_580 rfl rfl ?_
  refine l_arg (k := 1) C dL_law_581 dL_law_582 dL_law_583 dL_law_584 dL_law_585 (by decide +kernel) (by decide) hi ?_
  refine l_arg (k := 2) C dL_law_586 dL_law_587 dL_law_588 dL_law_589 dL_law_590 (by decide +kernel) (by decide) hi ?_
  refine l_callX C mv_L_73 rfl rfl [.int (o.2.2.2.2.2 (i + 1)), .int (o.2.2.2.2.2 (i + 2))] (ct_X11_takes 0 rfl _ _ _ _ _ e1) ⟨Nat.le_of_ble_eq_true rfl, Nat.le_of_ble_eq_true rfl⟩ rfl (Nat.le_of_ble_eq_true rfl) rfl dL_law_591 ?_
  refine l_aload C dL_law_594 rfl rfl ?_
  refine l_arg (k := 1) C dL_law_595 dL_law_596 dL_law_597 dL_law_598 dL_law_599 (by decide +kernel) (by decide) hi ?_
  refine l_arg (k := 2) C dL_law_600 dL_law_601 dL_law_602 dL_law_603 dL_law_604 (by decide +kernel) (by decide) hi ?_
  refine l_callM C mv_L_76 rfl rfl [.int (o.2.2.2.2.2 (i + 1)), .int (o.2.2.2.2.2 (i + 2))] (ct_X12_takes 78 rfl _ _ _ _ _ e2) ⟨Nat.le_of_ble_eq_true rfl, Nat.le_of_ble_eq_true rfl⟩ rfl (Nat.le_of_ble_eq_true rfl) rfl dL_law_605 ?_
  refine l_eq (tgt := 1320) C dL_law_608 (by decide) ?_
  exact kk _ _ R2
theorem lc_then {o : Ow} {σx σm : SS} {i : Nat} (C : Cw o) (R : Rel σx σm) (hi : i + 6 ≤ o.2.2.2.2.1) (kk : ∀ sx sm, Rel sx sm → Lx o 1320 (LC i) [] sx sm) : Lx o 613 (LC i) [] σx σm := by
  obtain ⟨rr, sx, sm, e1, e2, R2⟩ := q_then R (o.2.2.2.2.2 (i + 1)) (o.2.2.2.2.2 (i + 2))
  refine l_aload C dL_law_613 rfl rfl ?_
  refine l_arg (k := 1) C dL_law_614 dL_law_615 dL_law_616 dL_law_617 dL_law_618 (by decide +kernel) (by decide) hi ?_
  refine l_arg (k := 2) C dL_law_619 dL_law_620 dL_law_621 dL_law_622 dL_law_623 (by decide +kernel) (by decide) hi ?_
  refine l_callX C mv_L_77 rfl rfl [.int (o.2.2.2.2.2 (i + 1)), .int (o.2.2.2.2.2 (i + 2))] (ct_X11_then 0 rfl _ _ _ _ _ e1) ⟨Nat.le_of_ble_eq_true rfl, Nat.le_of_ble_eq_true rfl⟩ rfl (Nat.le_of_ble_eq_true rfl) rfl dL_law_624 ?_
  refine l_aload C dL_law_627 rfl rfl ?_
  refine l_arg (k := 1) C dL_law_628 dL_law_629 dL_law_630 dL_law_631 dL_law_632 (by decide +kernel) (by decide) hi ?_
  refine l_arg (k := 2) C dL_law_633 dL_law_634 dL_law_635 dL_law_636 dL_law_637 (by decide +kernel) (by decide) hi ?_
  refine l_callM C mv_L_80 rfl rfl [.int (o.2.2.2.2.2 (i + 1)), .int (o.2.2.2.2.2 (i + 2))] (ct_X12_then 78 rfl _ _ _ _ _ e2) ⟨Nat.le_of_ble_eq_true rfl, Nat.le_of_ble_eq_true rfl⟩ rfl (Nat.le_of_ble_eq_true rfl) rfl dL_law_638 ?_
  refine l_eq (tgt := 1320) C dL_law_641 (by decide) ?_
  exact kk _ _ R2
theorem lc_calm {o : Ow} {σx σm : SS} {i : Nat} (C : Cw o) (R : Rel σx σm) (hi : i + 6 ≤ o.2.2.2.2.1) (kk : ∀ sx sm, Rel sx sm → Lx o 1320 (LC i) [] sx sm) : Lx o 646 (LC i) [] σx σm := by
  obtain ⟨rr, sx, sm, e1, e2, R2⟩ := q_calm R (o.2.2.2.2.2 (i + 1))
  refine l_aload C dL_law_646 rfl rfl ?_
  refine l_arg (k := 1) C dL_law_647 dL_law_648 dL_law_649 dL_law_650 dL_law_651 (by decide +kernel) (by decide) hi ?_
  refine l_callX C mv_L_81 rfl rfl [.int (o.2.2.2.2.2 (i + 1))] (ct_X11_calm 0 rfl _ _ _ _ e1) ⟨Nat.le_of_ble_eq_true rfl, Nat.le_of_ble_eq_true rfl⟩ rfl (Nat.le_of_ble_eq_true rfl) rfl dL_law_652 ?_
  refine l_aload C dL_law_655 rfl rfl ?_
  refine l_arg (k := 1) C dL_law_656 dL_law_657 dL_law_658 dL_law_659 dL_law_660 (by decide +kernel) (by decide) hi ?_
  refine l_callM C mv_L_84 rfl rfl [.int (o.2.2.2.2.2 (i + 1))] (ct_X12_calm 78 rfl _ _ _ _ e2) ⟨Nat.le_of_ble_eq_true rfl, Nat.le_of_ble_eq_true rfl⟩ rfl (Nat.le_of_ble_eq_true rfl) rfl dL_law_661 ?_
  refine l_eq (tgt := 1320) C dL_law_664 (by decide) ?_
  exact kk _ _ R2
theorem lc_place {o : Ow} {σx σm : SS} {i : Nat} (C : Cw o) (R : Rel σx σm) (hi : i + 6 ≤ o.2.2.2.2.1) (kk : ∀ sx sm, Rel sx sm → Lx o 1320 (LC i) [] sx sm) : Lx o 669 (LC i) [] σx σm := by
  obtain ⟨rr, sx, sm, e1, e2, R2⟩ := q_place R (o.2.2.2.2.2 (i + 1)) (o.2.2.2.2.2 (i + 2)) (o.2.2.2.2.2 (i + 3))
  refine l_aload C dL_law_669 rfl rfl ?_
  refine l_arg (k := 1) C dL_law_670 dL_law_671 dL_law_672 dL_law_673 dL_law_674 (by decide +kernel) (by decide) hi ?_
  refine l_arg (k := 2) C dL_law_675 dL_law_676 dL_law_677 dL_law_678 dL_law_679 (by decide +kernel) (by decide) hi ?_
  refine l_arg (k := 3) C dL_law_680 dL_law_681 dL_law_682 dL_law_683 dL_law_684 (by decide +kernel) (by decide) hi ?_
  refine l_callX C mv_L_85 rfl rfl [.int (o.2.2.2.2.2 (i + 1)), .int (o.2.2.2.2.2 (i + 2)), .int (o.2.2.2.2.2 (i + 3))] (ct_X11_place 0 rfl _ _ _ _ _ _ e1) ⟨Nat.le_of_ble_eq_true rfl, Nat.le_of_ble_eq_true rfl⟩ rfl (Nat.le_of_ble_eq_true rfl) rfl dL_law_685 ?_
  refine l_aload C dL_law_688 rfl rfl ?_
  refine l_arg (k := 1) C dL_law_689 dL_law_690 dL_law_691 dL_law_692 dL_law_693 (by decide +kernel) (by decide) hi ?_
  refine l_arg (k := 2) C dL_law_694 dL_law_695 dL_law_696 dL_law_697 dL_law_698 (by decide +kernel) (by decide) hi ?_
  refine l_arg (k := 3) C dL_law_699 dL_law_700 dL_law_701 dL_law_702 dL_law_703 (by decide +kernel) (by decide) hi ?_
  refine l_callM C mv_L_88 rfl rfl [.int (o.2.2.2.2.2 (i + 1)), .int (o.2.2.2.2.2 (i + 2)), .int (o.2.2.2.2.2 (i + 3))] (ct_X12_place 78 rfl _ _ _ _ _ _ e2) ⟨Nat.le_of_ble_eq_true rfl, Nat.le_of_ble_eq_true rfl⟩ rfl (Nat.le_of_ble_eq_true rfl) rfl dL_law_704 ?_
  refine l_eq (tgt := 1320) C dL_law_707 (by decide) ?_
  exact kk _ _ R2
theorem lc_share {o : Ow} {σx σm : SS} {i : Nat} (C : Cw o) (R : Rel σx σm) (hi : i + 6 ≤ o.2.2.2.2.1) (kk : ∀ sx sm, Rel sx sm → Lx o 1320 (LC i) [] sx sm) : Lx o 712 (LC i) [] σx σm := by
  obtain ⟨rr, sx, sm, e1, e2, R2⟩ := q_share R (o.2.2.2.2.2 (i + 1))
  refine l_aload C dL_law_712 rfl rfl ?_
  refine l_arg (k := 1) C dL_law_713 dL_law_714 dL_law_715 dL_law_716 dL_law_717 (by decide +kernel) (by decide) hi ?_
  refine l_callX C mv_L_89 rfl rfl [.int (o.2.2.2.2.2 (i + 1))] (ct_X11_share 0 rfl _ _ _ _ e1) ⟨Nat.le_of_ble_eq_true rfl, Nat.le_of_ble_eq_true rfl⟩ rfl (Nat.le_of_ble_eq_true rfl) rfl dL_law_718 ?_
  refine l_aload C dL_law_721 rfl rfl ?_
  refine l_arg (k := 1) C dL_law_722 dL_law_723 dL_law_724 dL_law_725 dL_law_726 (by decide +kernel) (by decide) hi ?_
  refine l_callM C mv_L_92 rfl rfl [.int (o.2.2.2.2.2 (i + 1))] (ct_X12_share 78 rfl _ _ _ _ e2) ⟨Nat.le_of_ble_eq_true rfl, Nat.le_of_ble_eq_true rfl⟩ rfl (Nat.le_of_ble_eq_true rfl) rfl dL_law_727 ?_
  refine l_eq (tgt := 1320) C dL_law_730 (by decide) ?_
  exact kk _ _ R2
theorem lc_award {o : Ow} {σx σm : SS} {i : Nat} (C : Cw o) (R : Rel σx σm) (hi : i + 6 ≤ o.2.2.2.2.1) (kk : ∀ sx sm, Rel sx sm → Lx o 1320 (LC i) [] sx sm) : Lx o 735 (LC i) [] σx σm := by
  obtain ⟨rr, sx, sm, e1, e2, R2⟩ := q_award R (o.2.2.2.2.2 (i + 1))
  refine l_aload C dL_law_735 rfl rfl ?_
  refine l_arg (k := 1) C dL_law_736 dL_law_737 dL_law_738 dL_law_739 dL_law_740 (by decide +kernel) (by decide) hi ?_
  refine l_callX C mv_L_93 rfl rfl [.int (o.2.2.2.2.2 (i + 1))] (ct_X11_award 0 rfl _ _ _ _ e1) ⟨Nat.le_of_ble_eq_true rfl, Nat.le_of_ble_eq_true rfl⟩ rfl (Nat.le_of_ble_eq_true rfl) rfl dL_law_741 ?_
  refine l_aload C dL_law_744 rfl rfl ?_
  refine l_arg (k := 1) C dL_law_745 dL_law_746 dL_law_747 dL_law_748 dL_law_749 (by decide +kernel) (by decide) hi ?_
  refine l_callM C mv_L_96 rfl rfl [.int (o.2.2.2.2.2 (i + 1))] (ct_X12_award 78 rfl _ _ _ _ e2) ⟨Nat.le_of_ble_eq_true rfl, Nat.le_of_ble_eq_true rfl⟩ rfl (Nat.le_of_ble_eq_true rfl) rfl dL_law_750 ?_
  refine l_eq (tgt := 1320) C dL_law_753 (by decide) ?_
  exact kk _ _ R2
theorem lc_court {o : Ow} {σx σm : SS} {i : Nat} (C : Cw o) (R : Rel σx σm) (hi : i + 6 ≤ o.2.2.2.2.1) (kk : ∀ sx sm, Rel sx sm → Lx o 1320 (LC i) [] sx sm) : Lx o 758 (LC i) [] σx σm := by
  obtain ⟨rr, sx, sm, e1, e2, R2⟩ := q_court R (o.2.2.2.2.2 (i + 1))
  refine l_aload C dL_law_758 rfl rfl ?_
  refine l_arg (k := 1) C dL_law_759 dL_law_760 dL_law_761 dL_law_762 dL_law_763 (by decide +kernel) (by decide) hi ?_
  refine l_callX C mv_L_97 rfl rfl [.int (o.2.2.2.2.2 (i + 1))] (ct_X11_court 0 rfl _ _ _ _ e1) ⟨Nat.le_of_ble_eq_true rfl, Nat.le_of_ble_eq_true rfl⟩ rfl (Nat.le_of_ble_eq_true rfl) rfl dL_law_764 ?_
  refine l_aload C dL_law_767 rfl rfl ?_
  refine l_arg (k := 1) C dL_law_768 dL_law_769 dL_law_770 dL_law_771 dL_law_772 (by decide +kernel) (by decide) hi ?_
  refine l_callM C mv_L_100 rfl rfl [.int (o.2.2.2.2.2 (i + 1))] (ct_X12_court 78 rfl _ _ _ _ e2) ⟨Nat.le_of_ble_eq_true rfl, Nat.le_of_ble_eq_true rfl⟩ rfl (Nat.le_of_ble_eq_true rfl) rfl dL_law_773 ?_
  refine l_eq (tgt := 1320) C dL_law_776 (by decide) ?_
  exact kk _ _ R2
theorem lc_settle {o : Ow} {σx σm : SS} {i : Nat} (C : Cw o) (R : Rel σx σm) (hi : i + 6 ≤ o.2.2.2.2.1) (kk : ∀ sx sm, Rel sx sm → Lx o 1320 (LC i) [] sx sm) : Lx o 781 (LC i) [] σx σm := by
  obtain ⟨rr, e1, e2⟩ := q_settle R
  refine l_aload C dL_law_781 rfl rfl ?_
  refine l_callX C mv_L_101 rfl rfl [] (ct_X11_settle 0 rfl _ _ e1) ⟨Nat.le_of_ble_eq_true rfl, Nat.le_of_ble_eq_true rfl⟩ rfl (Nat.le_of_ble_eq_true rfl) rfl dL_law_782 ?_
  refine l_aload C dL_law_785 rfl rfl ?_
  refine l_callM C mv_L_104 rfl rfl [] (ct_X12_settle 78 rfl _ _ e2) ⟨Nat.le_of_ble_eq_true rfl, Nat.le_of_ble_eq_true rfl⟩ rfl (Nat.le_of_ble_eq_true rfl) rfl dL_law_786 ?_
  refine l_eq (tgt := 1320) C dL_law_789 (by decide) ?_
  exact kk _ _ R
theorem lc_reading {o : Ow} {σx σm : SS} {i : Nat} (C : Cw o) (R : Rel σx σm) (hi : i + 6 ≤ o.2.2.2.2.1) (kk : ∀ sx sm, Rel sx sm → Lx o 1320 (LC i) [] sx sm) : Lx o 794 (LC i) [] σx σm := by
  obtain ⟨rr, sx, sm, e1, e2, R2⟩ := q_reading R (o.2.2.2.2.2 (i + 1)) (o.2.2.2.2.2 (i + 2)) (o.2.2.2.2.2 (i + 3))
  refine l_aload C dL_law_794 rfl rfl ?_
  refine l_arg (k := 1) C dL_law_795 dL_law_796 dL_law_797 dL_law_798 dL_law_799 (by decide +kernel) (by decide) hi ?_
  refine l_arg (k := 2) C dL_law_800 dL_law_801 dL_law_802 dL_law_803 dL_law_804 (by decide +kernel) (by decide) hi ?_
  refine l_arg (k := 3) C dL_law_805 dL_law_806 dL_law_807 dL_law_808 dL_law_809 (by decide +kernel) (by decide) hi ?_
  refine l_callX C mv_L_105 rfl rfl [.int (o.2.2.2.2.2 (i + 1)), .int (o.2.2.2.2.2 (i + 2)), .int (o.2.2.2.2.2 (i + 3))] (ct_X11_reading 0 rfl _ _ _ _ _ _ e1) ⟨Nat.le_of_ble_eq_true rfl, Nat.le_of_ble_eq_true rfl⟩ rfl (Nat.le_of_ble_eq_true rfl) rfl dL_law_810 ?_
  refine l_aload C dL_law_813 rfl rfl ?_
  refine l_arg (k := 1) C dL_law_814 dL_law_815 dL_law_816 dL_law_817 dL_law_818 (by decide +kernel) (by decide) hi ?_
  refine l_arg (k := 2) C dL_law_819 dL_law_820 dL_law_821 dL_law_822 dL_law_823 (by decide +kernel) (by decide) hi ?_
  refine l_arg (k := 3) C dL_law_824 dL_law_825 dL_law_826 dL_law_827 dL_law_828 (by decide +kernel) (by decide) hi ?_
  refine l_callM C mv_L_108 rfl rfl [.int (o.2.2.2.2.2 (i + 1)), .int (o.2.2.2.2.2 (i + 2)), .int (o.2.2.2.2.2 (i + 3))] (ct_X12_reading 78 rfl _ _ _ _ _ _ e2) ⟨Nat.le_of_ble_eq_true rfl, Nat.le_of_ble_eq_true rfl⟩ rfl (Nat.le_of_ble_eq_true rfl) rfl dL_law_829 ?_
  refine l_eq (tgt := 1320) C dL_law_832 (by decide) ?_
  exact kk _ _ R2
theorem lc_stood {o : Ow} {σx σm : SS} {i : Nat} (C : Cw o) (R : Rel σx σm) (hi : i + 6 ≤ o.2.2.2.2.1) (kk : ∀ sx sm, Rel sx sm → Lx o 1320 (LC i) [] sx sm) : Lx o 837 (LC i) [] σx σm := by
  obtain ⟨rr, sx, sm, e1, e2, R2⟩ := q_stood R (o.2.2.2.2.2 (i + 1))
  refine l_aload C dL_law_837 rfl rfl ?_
  refine l_arg (k := 1) C dL_law_838 dL_law_839 dL_law_840 dL_law_841 dL_law_842 (by decide +kernel) (by decide) hi ?_
  refine l_callX C mv_L_109 rfl rfl [.int (o.2.2.2.2.2 (i + 1))] (ct_X11_stood 0 rfl _ _ _ _ e1) ⟨Nat.le_of_ble_eq_true rfl, Nat.le_of_ble_eq_true rfl⟩ rfl (Nat.le_of_ble_eq_true rfl) rfl dL_law_843 ?_
  refine l_aload C dL_law_846 rfl rfl ?_
  refine l_arg (k := 1) C dL_law_847 dL_law_848 dL_law_849 dL_law_850 dL_law_851 (by decide +kernel) (by decide) hi ?_
  refine l_callM C mv_L_112 rfl rfl [.int (o.2.2.2.2.2 (i + 1))] (ct_X12_stood 78 rfl _ _ _ _ e2) ⟨Nat.le_of_ble_eq_true rfl, Nat.le_of_ble_eq_true rfl⟩ rfl (Nat.le_of_ble_eq_true rfl) rfl dL_law_852 ?_
  refine l_eq (tgt := 1320) C dL_law_855 (by decide) ?_
  exact kk _ _ R2
theorem lc_note {o : Ow} {σx σm : SS} {i : Nat} (C : Cw o) (R : Rel σx σm) (hi : i + 6 ≤ o.2.2.2.2.1) (kk : ∀ sx sm, Rel sx sm → Lx o 1320 (LC i) [] sx sm) : Lx o 860 (LC i) [] σx σm := by
  obtain ⟨rr, sx, sm, e1, e2, R2⟩ := q_note R (o.2.2.2.2.2 (i + 1)) (o.2.2.2.2.2 (i + 2)) (o.2.2.2.2.2 (i + 3)) (o.2.2.2.2.2 (i + 4)) (o.2.2.2.2.2 (i + 5))
  refine l_aload C dL_law_860 rfl rfl ?_
  refine l_arg (k := 1) C dL_law_861 dL_law_862 dL_law_863 dL_law_864 dL_law_865 (by decide +kernel) (by decide) hi ?_
  refine l_arg (k := 2) C dL_law_866 dL_law_867 dL_law_868 dL_law_869 dL_law_870 (by decide +kernel) (by decide) hi ?_
  refine l_arg (k := 3) C dL_law_871 dL_law_872 dL_law_873 dL_law_874 dL_law_875 (by decide +kernel) (by decide) hi ?_
  refine l_arg (k := 4) C dL_law_876 dL_law_877 dL_law_878 dL_law_879 dL_law_880 (by decide +kernel) (by decide) hi ?_
  refine l_arg (k := 5) C dL_law_881 dL_law_882 dL_law_883 dL_law_884 dL_law_885 (by decide +kernel) (by decide) hi ?_
  refine l_callX C mv_L_113 rfl rfl [.int (o.2.2.2.2.2 (i + 1)), .int (o.2.2.2.2.2 (i + 2)), .int (o.2.2.2.2.2 (i + 3)), .int (o.2.2.2.2.2 (i + 4)), .int (o.2.2.2.2.2 (i + 5))] (ct_X11_note 0 rfl _ _ _ _ _ _ _ _ e1) ⟨Nat.le_of_ble_eq_true rfl, Nat.le_of_ble_eq_true rfl⟩ rfl (Nat.le_of_ble_eq_true rfl) rfl dL_law_886 ?_
  refine l_aload C dL_law_889 rfl rfl ?_
  refine l_arg (k := 1) C dL_law_890 dL_law_891 dL_law_892 dL_law_893 dL_law_894 (by decide +kernel) (by decide) hi ?_
  refine l_arg (k := 2) C dL_law_895 dL_law_896 dL_law_897 dL_law_898 dL_law_899 (by decide +kernel) (by decide) hi ?_
  refine l_arg (k := 3) C dL_law_900 dL_law_901 dL_law_902 dL_law_903 dL_law_904 (by decide +kernel) (by decide) hi ?_
  refine l_arg (k := 4) C dL_law_905 dL_law_906 dL_law_907 dL_law_908 dL_law_909 (by decide +kernel) (by decide) hi ?_
  refine l_arg (k := 5) C dL_law_910 dL_law_911 dL_law_912 dL_law_913 dL_law_914 (by decide +kernel) (by decide) hi ?_
  refine l_callM C mv_L_117 rfl rfl [.int (o.2.2.2.2.2 (i + 1)), .int (o.2.2.2.2.2 (i + 2)), .int (o.2.2.2.2.2 (i + 3)), .int (o.2.2.2.2.2 (i + 4)), .int (o.2.2.2.2.2 (i + 5))] (ct_X12_note 78 rfl _ _ _ _ _ _ _ _ e2) ⟨Nat.le_of_ble_eq_true rfl, Nat.le_of_ble_eq_true rfl⟩ rfl (Nat.le_of_ble_eq_true rfl) rfl dL_law_915 ?_
  refine l_eq (tgt := 1320) C dL_law_918 (by decide) ?_
  exact kk _ _ R2
theorem lc_mark {o : Ow} {σx σm : SS} {i : Nat} (C : Cw o) (R : Rel σx σm) (hi : i + 6 ≤ o.2.2.2.2.1) (kk : ∀ sx sm, Rel sx sm → Lx o 1320 (LC i) [] sx sm) : Lx o 923 (LC i) [] σx σm := by
  obtain ⟨rr, sx, sm, e1, e2, R2⟩ := q_mark R (o.2.2.2.2.2 (i + 1)) (o.2.2.2.2.2 (i + 2)) (o.2.2.2.2.2 (i + 3)) (o.2.2.2.2.2 (i + 4))
  refine l_aload C dL_law_923 rfl rfl ?_
  refine l_arg (k := 1) C dL_law_924 dL_law_925 dL_law_926 dL_law_927 dL_law_928 (by decide +kernel) (by decide) hi ?_
  refine l_arg (k := 2) C dL_law_929 dL_law_930 dL_law_931 dL_law_932 dL_law_933 (by decide +kernel) (by decide) hi ?_
  refine l_arg (k := 3) C dL_law_934 dL_law_935 dL_law_936 dL_law_937 dL_law_938 (by decide +kernel) (by decide) hi ?_
  refine l_arg (k := 4) C dL_law_939 dL_law_940 dL_law_941 dL_law_942 dL_law_943 (by decide +kernel) (by decide) hi ?_
  refine l_callX C mv_L_118 rfl rfl [.int (o.2.2.2.2.2 (i + 1)), .int (o.2.2.2.2.2 (i + 2)), .int (o.2.2.2.2.2 (i + 3)), .int (o.2.2.2.2.2 (i + 4))] (ct_X11_mark 0 rfl _ _ _ _ _ _ _ e1) ⟨Nat.le_of_ble_eq_true rfl, Nat.le_of_ble_eq_true rfl⟩ rfl (Nat.le_of_ble_eq_true rfl) rfl dL_law_944 ?_
  refine l_aload C dL_law_947 rfl rfl ?_
  refine l_arg (k := 1) C dL_law_948 dL_law_949 dL_law_950 dL_law_951 dL_law_952 (by decide +kernel) (by decide) hi ?_
  refine l_arg (k := 2) C dL_law_953 dL_law_954 dL_law_955 dL_law_956 dL_law_957 (by decide +kernel) (by decide) hi ?_
  refine l_arg (k := 3) C dL_law_958 dL_law_959 dL_law_960 dL_law_961 dL_law_962 (by decide +kernel) (by decide) hi ?_
  refine l_arg (k := 4) C dL_law_963 dL_law_964 dL_law_965 dL_law_966 dL_law_967 (by decide +kernel) (by decide) hi ?_
  refine l_callM C mv_L_122 rfl rfl [.int (o.2.2.2.2.2 (i + 1)), .int (o.2.2.2.2.2 (i + 2)), .int (o.2.2.2.2.2 (i + 3)), .int (o.2.2.2.2.2 (i + 4))] (ct_X12_mark 78 rfl _ _ _ _ _ _ _ e2) ⟨Nat.le_of_ble_eq_true rfl, Nat.le_of_ble_eq_true rfl⟩ rfl (Nat.le_of_ble_eq_true rfl) rfl dL_law_968 ?_
  refine l_eq (tgt := 1320) C dL_law_971 (by decide) ?_
  exact kk _ _ R2
theorem lc_forget {o : Ow} {σx σm : SS} {i : Nat} (C : Cw o) (R : Rel σx σm) (hi : i + 6 ≤ o.2.2.2.2.1) (kk : ∀ sx sm, Rel sx sm → Lx o 1320 (LC i) [] sx sm) : Lx o 976 (LC i) [] σx σm := by
  obtain ⟨rr, sx, sm, e1, e2, R2⟩ := q_forget R (o.2.2.2.2.2 (i + 1))
  refine l_aload C dL_law_976 rfl rfl ?_
  refine l_arg (k := 1) C dL_law_977 dL_law_978 dL_law_979 dL_law_980 dL_law_981 (by decide +kernel) (by decide) hi ?_
  refine l_callX C mv_L_123 rfl rfl [.int (o.2.2.2.2.2 (i + 1))] (ct_X11_forget 0 rfl _ _ _ _ e1) ⟨Nat.le_of_ble_eq_true rfl, Nat.le_of_ble_eq_true rfl⟩ rfl (Nat.le_of_ble_eq_true rfl) rfl dL_law_982 ?_
  refine l_aload C dL_law_985 rfl rfl ?_
  refine l_arg (k := 1) C dL_law_986 dL_law_987 dL_law_988 dL_law_989 dL_law_990 (by decide +kernel) (by decide) hi ?_
  refine l_callM C mv_L_126 rfl rfl [.int (o.2.2.2.2.2 (i + 1))] (ct_X12_forget 78 rfl _ _ _ _ e2) ⟨Nat.le_of_ble_eq_true rfl, Nat.le_of_ble_eq_true rfl⟩ rfl (Nat.le_of_ble_eq_true rfl) rfl dL_law_991 ?_
  refine l_eq (tgt := 1320) C dL_law_994 (by decide) ?_
  exact kk _ _ R2
theorem lc_is {o : Ow} {σx σm : SS} {i : Nat} (C : Cw o) (R : Rel σx σm) (hi : i + 6 ≤ o.2.2.2.2.1) (kk : ∀ sx sm, Rel sx sm → Lx o 1320 (LC i) [] sx sm) : Lx o 999 (LC i) [] σx σm := by
  obtain ⟨rr, sx, sm, e1, e2, R2⟩ := q_is R (o.2.2.2.2.2 (i + 1))
  refine l_aload C dL_law_999 rfl rfl ?_
  refine l_arg (k := 1) C dL_law_1000 dL_law_1001 dL_law_1002 dL_law_1003 dL_law_1004 (by decide +kernel) (by decide) hi ?_
  refine l_callX C mv_L_127 rfl rfl [.int (o.2.2.2.2.2 (i + 1))] (ct_X11_is 0 rfl _ _ _ _ e1) ⟨Nat.le_of_ble_eq_true rfl, Nat.le_of_ble_eq_true rfl⟩ rfl (Nat.le_of_ble_eq_true rfl) rfl dL_law_1005 ?_
  refine l_aload C dL_law_1008 rfl rfl ?_
  refine l_arg (k := 1) C dL_law_1009 dL_law_1010 dL_law_1011 dL_law_1012 dL_law_1013 (by decide +kernel) (by decide) hi ?_
  refine l_callM C mv_L_130 rfl rfl [.int (o.2.2.2.2.2 (i + 1))] (ct_X12_is 78 rfl _ _ _ _ e2) ⟨Nat.le_of_ble_eq_true rfl, Nat.le_of_ble_eq_true rfl⟩ rfl (Nat.le_of_ble_eq_true rfl) rfl dL_law_1014 ?_
  refine l_eq (tgt := 1320) C dL_law_1017 (by decide) ?_
  exact kk _ _ R2
theorem lc_look {o : Ow} {σx σm : SS} {i : Nat} (C : Cw o) (R : Rel σx σm) (hi : i + 6 ≤ o.2.2.2.2.1) (kk : ∀ sx sm, Rel sx sm → Lx o 1320 (LC i) [] sx sm) : Lx o 1022 (LC i) [] σx σm := by
  obtain ⟨rr, sx, sm, e1, e2, R2⟩ := q_look R (o.2.2.2.2.2 (i + 1))
  refine l_aload C dL_law_1022 rfl rfl ?_
  refine l_arg (k := 1) C dL_law_1023 dL_law_1024 dL_law_1025 dL_law_1026 dL_law_1027 (by decide +kernel) (by decide) hi ?_
  refine l_callX C mv_L_131 rfl rfl [.int (o.2.2.2.2.2 (i + 1))] (ct_X11_look 0 rfl _ _ _ _ e1) ⟨Nat.le_of_ble_eq_true rfl, Nat.le_of_ble_eq_true rfl⟩ rfl (Nat.le_of_ble_eq_true rfl) rfl dL_law_1028 ?_
  refine l_aload C dL_law_1031 rfl rfl ?_
  refine l_arg (k := 1) C dL_law_1032 dL_law_1033 dL_law_1034 dL_law_1035 dL_law_1036 (by decide +kernel) (by decide) hi ?_
  refine l_callM C mv_L_134 rfl rfl [.int (o.2.2.2.2.2 (i + 1))] (ct_X12_look 78 rfl _ _ _ _ e2) ⟨Nat.le_of_ble_eq_true rfl, Nat.le_of_ble_eq_true rfl⟩ rfl (Nat.le_of_ble_eq_true rfl) rfl dL_law_1037 ?_
  refine l_eq (tgt := 1320) C dL_law_1040 (by decide) ?_
  exact kk _ _ R2
theorem lc_kinds {o : Ow} {σx σm : SS} {i : Nat} (C : Cw o) (R : Rel σx σm) (hi : i + 6 ≤ o.2.2.2.2.1) (kk : ∀ sx sm, Rel sx sm → Lx o 1320 (LC i) [] sx sm) : Lx o 1045 (LC i) [] σx σm := by
  obtain ⟨rr, sx, sm, e1, e2, R2⟩ := q_kinds R (o.2.2.2.2.2 (i + 1))
  refine l_aload C dL_law_1045 rfl rfl ?_
  refine l_arg (k := 1) C dL_law_1046 dL_law_1047 dL_law_1048 dL_law_1049 dL_law_1050 (by decide +kernel) (by decide) hi ?_
  refine l_callX C mv_L_135 rfl rfl [.int (o.2.2.2.2.2 (i + 1))] (ct_X11_kinds 0 rfl _ _ _ _ e1) ⟨Nat.le_of_ble_eq_true rfl, Nat.le_of_ble_eq_true rfl⟩ rfl (Nat.le_of_ble_eq_true rfl) rfl dL_law_1051 ?_
  refine l_aload C dL_law_1054 rfl rfl ?_
  refine l_arg (k := 1) C dL_law_1055 dL_law_1056 dL_law_1057 dL_law_1058 dL_law_1059 (by decide +kernel) (by decide) hi ?_
  refine l_callM C mv_L_138 rfl rfl [.int (o.2.2.2.2.2 (i + 1))] (ct_X12_kinds 78 rfl _ _ _ _ e2) ⟨Nat.le_of_ble_eq_true rfl, Nat.le_of_ble_eq_true rfl⟩ rfl (Nat.le_of_ble_eq_true rfl) rfl dL_law_1060 ?_
  refine l_eq (tgt := 1320) C dL_law_1063 (by decide) ?_
  exact kk _ _ R2
theorem lc_tries {o : Ow} {σx σm : SS} {i : Nat} (C : Cw o) (R : Rel σx σm) (hi : i + 6 ≤ o.2.2.2.2.1) (kk : ∀ sx sm, Rel sx sm → Lx o 1320 (LC i) [] sx sm) : Lx o 1068 (LC i) [] σx σm := by
  obtain ⟨rr, sx, sm, e1, e2, R2⟩ := q_tries R (o.2.2.2.2.2 (i + 1))
  refine l_aload C dL_law_1068 rfl rfl ?_
  refine l_arg (k := 1) C dL_law_1069 dL_law_1070 dL_law_1071 dL_law_1072 dL_law_1073 (by decide +kernel) (by decide) hi ?_
  refine l_callX C mv_L_139 rfl rfl [.int (o.2.2.2.2.2 (i + 1))] (ct_X11_tries 0 rfl _ _ _ _ e1) ⟨Nat.le_of_ble_eq_true rfl, Nat.le_of_ble_eq_true rfl⟩ rfl (Nat.le_of_ble_eq_true rfl) rfl dL_law_1074 ?_
  refine l_aload C dL_law_1077 rfl rfl ?_
  refine l_arg (k := 1) C dL_law_1078 dL_law_1079 dL_law_1080 dL_law_1081 dL_law_1082 (by decide +kernel) (by decide) hi ?_
  refine l_callM C mv_L_142 rfl rfl [.int (o.2.2.2.2.2 (i + 1))] (ct_X12_tries 78 rfl _ _ _ _ e2) ⟨Nat.le_of_ble_eq_true rfl, Nat.le_of_ble_eq_true rfl⟩ rfl (Nat.le_of_ble_eq_true rfl) rfl dL_law_1083 ?_
  refine l_eq (tgt := 1320) C dL_law_1086 (by decide) ?_
  exact kk _ _ R2
theorem lc_parties {o : Ow} {σx σm : SS} {i : Nat} (C : Cw o) (R : Rel σx σm) (hi : i + 6 ≤ o.2.2.2.2.1) (kk : ∀ sx sm, Rel sx sm → Lx o 1320 (LC i) [] sx sm) : Lx o 1091 (LC i) [] σx σm := by
  obtain ⟨rr, sx, sm, e1, e2, R2⟩ := q_parties R (o.2.2.2.2.2 (i + 1))
  refine l_aload C dL_law_1091 rfl rfl ?_
  refine l_arg (k := 1) C dL_law_1092 dL_law_1093 dL_law_1094 dL_law_1095 dL_law_1096 (by decide +kernel) (by decide) hi ?_
  refine l_callX C mv_L_143 rfl rfl [.int (o.2.2.2.2.2 (i + 1))] (ct_X11_parties 0 rfl _ _ _ _ e1) ⟨Nat.le_of_ble_eq_true rfl, Nat.le_of_ble_eq_true rfl⟩ rfl (Nat.le_of_ble_eq_true rfl) rfl dL_law_1097 ?_
  refine l_aload C dL_law_1100 rfl rfl ?_
  refine l_arg (k := 1) C dL_law_1101 dL_law_1102 dL_law_1103 dL_law_1104 dL_law_1105 (by decide +kernel) (by decide) hi ?_
  refine l_callM C mv_L_146 rfl rfl [.int (o.2.2.2.2.2 (i + 1))] (ct_X12_parties 78 rfl _ _ _ _ e2) ⟨Nat.le_of_ble_eq_true rfl, Nat.le_of_ble_eq_true rfl⟩ rfl (Nat.le_of_ble_eq_true rfl) rfl dL_law_1106 ?_
  refine l_eq (tgt := 1320) C dL_law_1109 (by decide) ?_
  exact kk _ _ R2
theorem lc_calms {o : Ow} {σx σm : SS} {i : Nat} (C : Cw o) (R : Rel σx σm) (hi : i + 6 ≤ o.2.2.2.2.1) (kk : ∀ sx sm, Rel sx sm → Lx o 1320 (LC i) [] sx sm) : Lx o 1114 (LC i) [] σx σm := by
  obtain ⟨rr, sx, sm, e1, e2, R2⟩ := q_calms R (o.2.2.2.2.2 (i + 1)) (o.2.2.2.2.2 (i + 2)) (o.2.2.2.2.2 (i + 3))
  refine l_aload C dL_law_1114 rfl rfl ?_
  refine l_arg (k := 1) C dL_law_1115 dL_law_1116 dL_law_1117 dL_law_1118 dL_law_1119 (by decide +kernel) (by decide) hi ?_
  refine l_arg (k := 2) C dL_law_1120 dL_law_1121 dL_law_1122 dL_law_1123 dL_law_1124 (by decide +kernel) (by decide) hi ?_
  refine l_arg (k := 3) C dL_law_1125 dL_law_1126 dL_law_1127 dL_law_1128 dL_law_1129 (by decide +kernel) (by decide) hi ?_
  refine l_callX C mv_L_147 rfl rfl [.int (o.2.2.2.2.2 (i + 1)), .int (o.2.2.2.2.2 (i + 2)), .int (o.2.2.2.2.2 (i + 3))] (ct_X11_calms 0 rfl _ _ _ _ _ _ e1) ⟨Nat.le_of_ble_eq_true rfl, Nat.le_of_ble_eq_true rfl⟩ rfl (Nat.le_of_ble_eq_true rfl) rfl dL_law_1130 ?_
  refine l_aload C dL_law_1133 rfl rfl ?_
  refine l_arg (k := 1) C dL_law_1134 dL_law_1135 dL_law_1136 dL_law_1137 dL_law_1138 (by decide +kernel) (by decide) hi ?_
  refine l_arg (k := 2) C dL_law_1139 dL_law_1140 dL_law_1141 dL_law_1142 dL_law_1143 (by decide +kernel) (by decide) hi ?_
  refine l_arg (k := 3) C dL_law_1144 dL_law_1145 dL_law_1146 dL_law_1147 dL_law_1148 (by decide +kernel) (by decide) hi ?_
  refine l_callM C mv_L_150 rfl rfl [.int (o.2.2.2.2.2 (i + 1)), .int (o.2.2.2.2.2 (i + 2)), .int (o.2.2.2.2.2 (i + 3))] (ct_X12_calms 78 rfl _ _ _ _ _ _ e2) ⟨Nat.le_of_ble_eq_true rfl, Nat.le_of_ble_eq_true rfl⟩ rfl (Nat.le_of_ble_eq_true rfl) rfl dL_law_1149 ?_
  refine l_eq (tgt := 1320) C dL_law_1152 (by decide) ?_
  exact kk _ _ R2
theorem lc_years {o : Ow} {σx σm : SS} {i : Nat} (C : Cw o) (R : Rel σx σm) (hi : i + 6 ≤ o.2.2.2.2.1) (kk : ∀ sx sm, Rel sx sm → Lx o 1320 (LC i) [] sx sm) : Lx o 1157 (LC i) [] σx σm := by
  obtain ⟨rr, sx, sm, e1, e2, R2⟩ := q_years R (o.2.2.2.2.2 (i + 1)) (o.2.2.2.2.2 (i + 2))
  refine l_aload C dL_law_1157 rfl rfl ?_
  refine l_arg (k := 1) C dL_law_1158 dL_law_1159 dL_law_1160 dL_law_1161 dL_law_1162 (by decide +kernel) (by decide) hi ?_
  refine l_arg (k := 2) C dL_law_1163 dL_law_1164 dL_law_1165 dL_law_1166 dL_law_1167 (by decide +kernel) (by decide) hi ?_
  refine l_callX C mv_L_151 rfl rfl [.int (o.2.2.2.2.2 (i + 1)), .int (o.2.2.2.2.2 (i + 2))] (ct_X11_years 0 rfl _ _ _ _ _ e1) ⟨Nat.le_of_ble_eq_true rfl, Nat.le_of_ble_eq_true rfl⟩ rfl (Nat.le_of_ble_eq_true rfl) rfl dL_law_1168 ?_
  refine l_aload C dL_law_1171 rfl rfl ?_
  refine l_arg (k := 1) C dL_law_1172 dL_law_1173 dL_law_1174 dL_law_1175 dL_law_1176 (by decide +kernel) (by decide) hi ?_
  refine l_arg (k := 2) C dL_law_1177 dL_law_1178 dL_law_1179 dL_law_1180 dL_law_1181 (by decide +kernel) (by decide) hi ?_
  refine l_callM C mv_L_154 rfl rfl [.int (o.2.2.2.2.2 (i + 1)), .int (o.2.2.2.2.2 (i + 2))] (ct_X12_years 78 rfl _ _ _ _ _ e2) ⟨Nat.le_of_ble_eq_true rfl, Nat.le_of_ble_eq_true rfl⟩ rfl (Nat.le_of_ble_eq_true rfl) rfl dL_law_1182 ?_
  refine l_eq (tgt := 1320) C dL_law_1185 (by decide) ?_
  exact kk _ _ R2
theorem lc_part {o : Ow} {σx σm : SS} {i : Nat} (C : Cw o) (R : Rel σx σm) (hi : i + 6 ≤ o.2.2.2.2.1) (kk : ∀ sx sm, Rel sx sm → Lx o 1320 (LC i) [] sx sm) : Lx o 1190 (LC i) [] σx σm := by
  obtain ⟨rr, sx, sm, e1, e2, R2⟩ := q_part R (o.2.2.2.2.2 (i + 1))
  refine l_aload C dL_law_1190 rfl rfl ?_
  refine l_arg (k := 1) C dL_law_1191 dL_law_1192 dL_law_1193 dL_law_1194 dL_law_1195 (by decide +kernel) (by decide) hi ?_
  refine l_callX C mv_L_155 rfl rfl [.int (o.2.2.2.2.2 (i + 1))] (ct_X11_part 0 rfl _ _ _ _ e1) ⟨Nat.le_of_ble_eq_true rfl, Nat.le_of_ble_eq_true rfl⟩ rfl (Nat.le_of_ble_eq_true rfl) rfl dL_law_1196 ?_
  refine l_aload C dL_law_1199 rfl rfl ?_
  refine l_arg (k := 1) C dL_law_1200 dL_law_1201 dL_law_1202 dL_law_1203 dL_law_1204 (by decide +kernel) (by decide) hi ?_
  refine l_callM C mv_L_159 rfl rfl [.int (o.2.2.2.2.2 (i + 1))] (ct_X12_part 78 rfl _ _ _ _ e2) ⟨Nat.le_of_ble_eq_true rfl, Nat.le_of_ble_eq_true rfl⟩ rfl (Nat.le_of_ble_eq_true rfl) rfl dL_law_1205 ?_
  refine l_lcmp C dL_law_1208 ?_
  refine l_lz (tgt := 1320) C dL_law_1209 (by decide) ?_
  exact kk _ _ R2
theorem lc_image {o : Ow} {σx σm : SS} {i : Nat} (C : Cw o) (R : Rel σx σm) (hi : i + 6 ≤ o.2.2.2.2.1) (kk : ∀ sx sm, Rel sx sm → Lx o 1320 (LC i) [] sx sm) : Lx o 1214 (LC i) [] σx σm := by
  obtain ⟨rr, sx, sm, e1, e2, R2⟩ := q_image R (o.2.2.2.2.2 (i + 1))
  refine l_aload C dL_law_1214 rfl rfl ?_
  refine l_arg (k := 1) C dL_law_1215 dL_law_1216 dL_law_1217 dL_law_1218 dL_law_1219 (by decide +kernel) (by decide) hi ?_
  refine l_callX C mv_L_160 rfl rfl [.int (o.2.2.2.2.2 (i + 1))] (ct_X11_image 0 rfl _ _ _ _ e1) ⟨Nat.le_of_ble_eq_true rfl, Nat.le_of_ble_eq_true rfl⟩ rfl (Nat.le_of_ble_eq_true rfl) rfl dL_law_1220 ?_
  refine l_aload C dL_law_1223 rfl rfl ?_
  refine l_arg (k := 1) C dL_law_1224 dL_law_1225 dL_law_1226 dL_law_1227 dL_law_1228 (by decide +kernel) (by decide) hi ?_
  refine l_callM C mv_L_163 rfl rfl [.int (o.2.2.2.2.2 (i + 1))] (ct_X12_image 78 rfl _ _ _ _ e2) ⟨Nat.le_of_ble_eq_true rfl, Nat.le_of_ble_eq_true rfl⟩ rfl (Nat.le_of_ble_eq_true rfl) rfl dL_law_1229 ?_
  refine l_eq (tgt := 1320) C dL_law_1232 (by decide) ?_
  exact kk _ _ R2
theorem lc_from {o : Ow} {σx σm : SS} {i : Nat} (C : Cw o) (R : Rel σx σm) (hi : i + 6 ≤ o.2.2.2.2.1) (kk : ∀ sx sm, Rel sx sm → Lx o 1320 (LC i) [] sx sm) : Lx o 1237 (LC i) [] σx σm := by
  obtain ⟨rr, sx, sm, e1, e2, R2⟩ := q_from R (o.2.2.2.2.2 (i + 1))
  refine l_aload C dL_law_1237 rfl rfl ?_
  refine l_arg (k := 1) C dL_law_1238 dL_law_1239 dL_law_1240 dL_law_1241 dL_law_1242 (by decide +kernel) (by decide) hi ?_
  refine l_callX C mv_L_164 rfl rfl [.int (o.2.2.2.2.2 (i + 1))] (ct_X11_from 0 rfl _ _ _ _ e1) ⟨Nat.le_of_ble_eq_true rfl, Nat.le_of_ble_eq_true rfl⟩ rfl (Nat.le_of_ble_eq_true rfl) rfl dL_law_1243 ?_
  refine l_aload C dL_law_1246 rfl rfl ?_
  refine l_arg (k := 1) C dL_law_1247 dL_law_1248 dL_law_1249 dL_law_1250 dL_law_1251 (by decide +kernel) (by decide) hi ?_
  refine l_callM C mv_L_167 rfl rfl [.int (o.2.2.2.2.2 (i + 1))] (ct_X12_from 78 rfl _ _ _ _ e2) ⟨Nat.le_of_ble_eq_true rfl, Nat.le_of_ble_eq_true rfl⟩ rfl (Nat.le_of_ble_eq_true rfl) rfl dL_law_1252 ?_
  refine l_eq (tgt := 1320) C dL_law_1255 (by decide) ?_
  exact kk _ _ R2
theorem lc_status {o : Ow} {σx σm : SS} {i : Nat} (C : Cw o) (R : Rel σx σm) (hi : i + 6 ≤ o.2.2.2.2.1) (kk : ∀ sx sm, Rel sx sm → Lx o 1320 (LC i) [] sx sm) : Lx o 1260 (LC i) [] σx σm := by
  obtain ⟨rr, sx, sm, e1, e2, R2⟩ := q_status R (o.2.2.2.2.2 (i + 1))
  refine l_aload C dL_law_1260 rfl rfl ?_
  refine l_arg (k := 1) C dL_law_1261 dL_law_1262 dL_law_1263 dL_law_1264 dL_law_1265 (by decide +kernel) (by decide) hi ?_
  refine l_callX C mv_L_168 rfl rfl [.int (o.2.2.2.2.2 (i + 1))] (ct_X11_status 0 rfl _ _ _ _ e1) ⟨Nat.le_of_ble_eq_true rfl, Nat.le_of_ble_eq_true rfl⟩ rfl (Nat.le_of_ble_eq_true rfl) rfl dL_law_1266 ?_
  refine l_aload C dL_law_1269 rfl rfl ?_
  refine l_arg (k := 1) C dL_law_1270 dL_law_1271 dL_law_1272 dL_law_1273 dL_law_1274 (by decide +kernel) (by decide) hi ?_
  refine l_callM C mv_L_171 rfl rfl [.int (o.2.2.2.2.2 (i + 1))] (ct_X12_status 78 rfl _ _ _ _ e2) ⟨Nat.le_of_ble_eq_true rfl, Nat.le_of_ble_eq_true rfl⟩ rfl (Nat.le_of_ble_eq_true rfl) rfl dL_law_1275 ?_
  refine l_eq (tgt := 1320) C dL_law_1278 (by decide) ?_
  exact kk _ _ R2
theorem lc_count {o : Ow} {σx σm : SS} {i : Nat} (C : Cw o) (R : Rel σx σm) (hi : i + 6 ≤ o.2.2.2.2.1) (kk : ∀ sx sm, Rel sx sm → Lx o 1320 (LC i) [] sx sm) : Lx o 1283 (LC i) [] σx σm := by
  obtain ⟨rr, sx, sm, e1, e2, R2⟩ := q_count R (o.2.2.2.2.2 (i + 1))
  refine l_aload C dL_law_1283 rfl rfl ?_
  refine l_arg (k := 1) C dL_law_1284 dL_law_1285 dL_law_1286 dL_law_1287 dL_law_1288 (by decide +kernel) (by decide) hi ?_
  refine l_callX C mv_L_172 rfl rfl [.int (o.2.2.2.2.2 (i + 1))] (ct_X11_count 0 rfl _ _ _ _ e1) ⟨Nat.le_of_ble_eq_true rfl, Nat.le_of_ble_eq_true rfl⟩ rfl (Nat.le_of_ble_eq_true rfl) rfl dL_law_1289 ?_
  refine l_aload C dL_law_1292 rfl rfl ?_
  refine l_arg (k := 1) C dL_law_1293 dL_law_1294 dL_law_1295 dL_law_1296 dL_law_1297 (by decide +kernel) (by decide) hi ?_
  refine l_callM C mv_L_175 rfl rfl [.int (o.2.2.2.2.2 (i + 1))] (ct_X12_count 78 rfl _ _ _ _ e2) ⟨Nat.le_of_ble_eq_true rfl, Nat.le_of_ble_eq_true rfl⟩ rfl (Nat.le_of_ble_eq_true rfl) rfl dL_law_1298 ?_
  refine l_eq (tgt := 1320) C dL_law_1301 (by decide) ?_
  exact kk _ _ R2
theorem lc_digest {o : Ow} {σx σm : SS} {i : Nat} (C : Cw o) (R : Rel σx σm) (hi : i + 6 ≤ o.2.2.2.2.1) (kk : ∀ sx sm, Rel sx sm → Lx o 1320 (LC i) [] sx sm) : Lx o 1306 (LC i) [] σx σm := by
  obtain ⟨rr, e1, e2⟩ := q_digest R
  refine l_aload C dL_law_1306 rfl rfl ?_
  refine l_callX C mv_L_176 rfl rfl [] (ct_X11_digest 0 rfl _ _ e1) ⟨Nat.le_of_ble_eq_true rfl, Nat.le_of_ble_eq_true rfl⟩ rfl (Nat.le_of_ble_eq_true rfl) rfl dL_law_1307 ?_
  refine l_aload C dL_law_1310 rfl rfl ?_
  refine l_callM C mv_L_180 rfl rfl [] (ct_X12_digest 78 rfl _ _ e2) ⟨Nat.le_of_ble_eq_true rfl, Nat.le_of_ble_eq_true rfl⟩ rfl (Nat.le_of_ble_eq_true rfl) rfl dL_law_1311 ?_
  refine l_lcmp C dL_law_1314 ?_
  refine l_lz (tgt := 1320) C dL_law_1315 (by decide) ?_
  exact kk _ _ R
def tgL : List Nat := [208, 221, 264, 307, 330, 343, 356, 379, 412, 435, 458, 471, 504, 537, 580, 613, 646, 669, 712, 735, 758, 781, 794, 837, 860, 923, 976, 999, 1022, 1045, 1068, 1091, 1114, 1157, 1190, 1214, 1237, 1260, 1283, 1306]
theorem tg_ok : ∀ k : Fin 40, ∃ off : Int, (#[175, 188, 231, 274, 297, 310, 323, 346, 379, 402, 425, 438, 471, 504, 547, 580, 613, 636, 679, 702, 725, 748, 761, 804, 827, 890, 943, 966, 989, 1012, 1035, 1058, 1081, 1124, 1157, 1181, 1204, 1227, 1250, 1273] : Array Int)[(k : Nat)]? = some off ∧ ((33 : Nat) : Int) + off = ((tgL.getD (k : Nat) 0 : Nat) : Int) := by decide +kernel
theorem l_sw {o : Ow} {Lc : List (Option Value)} {st : List Value} {σx σm : SS} (C : Cw o) {v : Int32} (kout : Lx o 1320 Lc st σx σm) (kin : ∀ k, k < 40 → Lx o (tgL.getD k 0) Lc st σx σm) : Lx o 33 Lc (.int v :: st) σx σm := by
  intro ls H locs h1 h2 h3 h4
  by_cases hq : v.toInt < 0 ∨ 39 < v.toInt
  · exact lv_tableOut (tgt := 1320) C.1 C.2.1 dL_law_33 hq (by decide) (kout ls H locs h1 h2 h3 h4)
  · have hk : v.toInt.toNat < 40 := by omega
    obtain ⟨off, z1, z2⟩ := tg_ok ⟨v.toInt.toNat, hk⟩
    exact lv_tableIn (off := off) (tgt := tgL.getD v.toInt.toNat 0) C.1 C.2.1 dL_law_33 (by omega) (by omega) (by rw [Int.sub_zero]; exact z1) z2 (kin _ hk ls H locs h1 h2 h3 h4)
theorem l_cases {o : Ow} {σx σm : SS} {i : Nat} (C : Cw o) (R : Rel σx σm) (hi : i + 6 ≤ o.2.2.2.2.1) (kk : ∀ sx sm, Rel sx sm → Lx o 1320 (LC i) [] sx sm) (k : Nat) (hk : k < 40) : Lx o (tgL.getD k 0) (LC i) [] σx σm := by
  have hz : k = 0 ∨ k = 1 ∨ k = 2 ∨ k = 3 ∨ k = 4 ∨ k = 5 ∨ k = 6 ∨ k = 7 ∨ k = 8 ∨ k = 9 ∨ k = 10 ∨ k = 11 ∨ k = 12 ∨ k = 13 ∨ k = 14 ∨ k = 15 ∨ k = 16 ∨ k = 17 ∨ k = 18 ∨ k = 19 ∨ k = 20 ∨ k = 21 ∨ k = 22 ∨ k = 23 ∨ k = 24 ∨ k = 25 ∨ k = 26 ∨ k = 27 ∨ k = 28 ∨ k = 29 ∨ k = 30 ∨ k = 31 ∨ k = 32 ∨ k = 33 ∨ k = 34 ∨ k = 35 ∨ k = 36 ∨ k = 37 ∨ k = 38 ∨ k = 39 := by omega
  rcases hz with rfl | rfl | rfl | rfl | rfl | rfl | rfl | rfl | rfl | rfl | rfl | rfl | rfl | rfl | rfl | rfl | rfl | rfl | rfl | rfl | rfl | rfl | rfl | rfl | rfl | rfl | rfl | rfl | rfl | rfl | rfl | rfl | rfl | rfl | rfl | rfl | rfl | rfl | rfl | rfl
  · exact lc_island C R hi kk
  · exact lc_wind C R hi kk
  · exact lc_user C R hi kk
  · exact lc_type C R hi kk
  · exact lc_clear C R hi kk
  · exact lc_read C R hi kk
  · exact lc_hour C R hi kk
  · exact lc_suit C R hi kk
  · exact lc_hears C R hi kk
  · exact lc_pays C R hi kk
  · exact lc_undo C R hi kk
  · exact lc_of C R hi kk
  · exact lc_about C R hi kk
  · exact lc_blows C R hi kk
  · exact lc_takes C R hi kk
  · exact lc_then C R hi kk
  · exact lc_calm C R hi kk
  · exact lc_place C R hi kk
  · exact lc_share C R hi kk
  · exact lc_award C R hi kk
  · exact lc_court C R hi kk
  · exact lc_settle C R hi kk
  · exact lc_reading C R hi kk
  · exact lc_stood C R hi kk
  · exact lc_note C R hi kk
  · exact lc_mark C R hi kk
  · exact lc_forget C R hi kk
  · exact lc_is C R hi kk
  · exact lc_look C R hi kk
  · exact lc_kinds C R hi kk
  · exact lc_tries C R hi kk
  · exact lc_parties C R hi kk
  · exact lc_calms C R hi kk
  · exact lc_years C R hi kk
  · exact lc_part C R hi kk
  · exact lc_image C R hi kk
  · exact lc_from C R hi kk
  · exact lc_status C R hi kk
  · exact lc_count C R hi kk
  · exact lc_digest C R hi kk
